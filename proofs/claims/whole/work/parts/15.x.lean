def tb_X9_isRest : List (Nat × Instr × Nat) := [(0, .iload_n 3, 1), (1, .iconst 1, 1), (2, .ishr, 1), (3, .istore 4, 2), (5, .iload_n 3, 1), (6, .iconst 1, 1), (7, .iand, 1), (8, .istore 5, 2), (10, .aload_n 0, 1), (11, .iload_n 1, 1), (12, .iload_n 2, 1), (13, .iload 4, 2), (15, .iload 5, 2), (17, .invokevirtual 368, 3), (20, .ifCond .eq 20, 3), (23, .aload_n 0, 1), (24, .iload_n 2, 1), (25, .iload_n 1, 1), (26, .iload 5, 2), (28, .iload 4, 2), (30, .invokevirtual 368, 3), (33, .ifCond .eq 7, 3), (36, .iconst 1, 1), (37, .goto 4, 3), (40, .iconst 0, 1), (41, .ireturn, 1)]
theorem dt_X9_isRest : dOk cX9_isRest tb_X9_isRest = true := by decide +kernel
def fX9_isRest (h : Hp) (x1 : Int32) (x2 : Int32) (x3 : Int32) : Option (Int32 × Hp) := bnd (fX9_staysWith h x1 x2 (x3 >>> ((1 : Int32) &&& 31)) (x3 &&& (1 : Int32))) (fun v_1 h_2 => if v_1 = 0 then (some ((0 : Int32), h_2)) else (bnd (fX9_staysWith h_2 x2 x1 (x3 &&& (1 : Int32)) (x3 >>> ((1 : Int32) &&& 31))) (fun v_4 h_5 => if v_4 = 0 then (some ((0 : Int32), h_5)) else (some ((1 : Int32), h_5)))))
set_option maxRecDepth 100000 in
set_option maxHeartbeats 4000000 in
theorem c_X9_isRest {l : Launch} {sb : State} {D : va_G} {ids : Nat → ClassId} {n : Nat} (hN : 152 ≤ n) (h : Hp) (x1 : Int32) (x2 : Int32) (x3 : Int32) (r : Int32 × Hp) (hr : fX9_isRest h x1 x2 x3 = some r) : jM l yX9_isRest cX9_isRest 6 (some .boolean) 4 sb D ids shp St n [.ref 0, .int x1, .int x2, .int x3] h (jQi sb D ids shp St n r) := by
  refine jM_of hr rfl (Nat.le_of_ble_eq_true rfl) ?_
  intro p e s m args below meth c hC hret
  unfold fX9_isRest
  refine j_iload_n hC 3 rfl rfl (dOk_at dt_X9_isRest 0 rfl) ?_
  refine j_iconst hC (v := (1 : Int32)) rfl (dOk_at dt_X9_isRest 1 rfl) ?_
  refine j_ishr hC (dOk_at dt_X9_isRest 2 rfl) ?_
  refine j_istore hC (lv' := [(4, .int (x3 >>> ((1 : Int32) &&& 31))), (0, .ref 0), (1, .int x1), (2, .int x2), (3, .int x3)]) (by decide) rfl (dOk_at dt_X9_isRest 3 rfl) ?_
  refine j_iload_n hC 4 rfl rfl (dOk_at dt_X9_isRest 4 rfl) ?_
  refine j_iconst hC (v := (1 : Int32)) rfl (dOk_at dt_X9_isRest 5 rfl) ?_
  refine j_iand hC (dOk_at dt_X9_isRest 6 rfl) ?_
  refine j_istore hC (lv' := [(5, .int (x3 &&& (1 : Int32))), (4, .int (x3 >>> ((1 : Int32) &&& 31))), (0, .ref 0), (1, .int x1), (2, .int x2), (3, .int x3)]) (by decide) rfl (dOk_at dt_X9_isRest 7 rfl) ?_
  refine j_aload_n hC 2 rfl rfl (dOk_at dt_X9_isRest 8 rfl) ?_
  refine j_iload_n hC 3 rfl rfl (dOk_at dt_X9_isRest 9 rfl) ?_
  refine j_iload_n hC 4 rfl rfl (dOk_at dt_X9_isRest 10 rfl) ?_
  refine j_iload hC 1 rfl (dOk_at dt_X9_isRest 11 rfl) ?_
  refine j_iload hC 0 rfl (dOk_at dt_X9_isRest 12 rfl) ?_
  refine j_callVi hC clX9_368 (fun r0 hr0 => c_X9_staysWith hN _ _ _ _ _ r0 hr0) (show shp 0 = (9, 12) from rfl) (Nat.lt_of_lt_of_le (Nat.le_of_ble_eq_true rfl : 0 < 152) hN) (by decide) rfl rfl ⟨Nat.le_of_ble_eq_true rfl, Nat.le_of_ble_eq_true rfl⟩ ⟨Nat.le_refl 0, Nat.le_refl 0⟩ (As := [.int x1, .int x2, .int (x3 >>> ((1 : Int32) &&& 31)), .int (x3 &&& (1 : Int32))]) (st := []) rfl (Nat.le_of_ble_eq_true rfl) (dOk_at dt_X9_isRest 13 rfl) (fun v_1 h_2 _ => ?_)
  refine j_if_eq hC (tgt := 40) (by decide) (dOk_at dt_X9_isRest 14 rfl) (fun q_3 => ?_) (fun q_3 => ?_)
  · refine j_iconst hC (v := (0 : Int32)) rfl (dOk_at dt_X9_isRest 24 rfl) ?_
    exact j_zretK hC hret rfl (dOk_at dt_X9_isRest 25 rfl)
  · refine j_aload_n hC 2 rfl rfl (dOk_at dt_X9_isRest 15 rfl) ?_
    refine j_iload_n hC 4 rfl rfl (dOk_at dt_X9_isRest 16 rfl) ?_
    refine j_iload_n hC 3 rfl rfl (dOk_at dt_X9_isRest 17 rfl) ?_
    refine j_iload hC 0 rfl (dOk_at dt_X9_isRest 18 rfl) ?_
    refine j_iload hC 1 rfl (dOk_at dt_X9_isRest 19 rfl) ?_
    refine j_callVi hC clX9_368 (fun r0 hr0 => c_X9_staysWith hN _ _ _ _ _ r0 hr0) (show shp 0 = (9, 12) from rfl) (Nat.lt_of_lt_of_le (Nat.le_of_ble_eq_true rfl : 0 < 152) hN) (by decide) rfl rfl ⟨Nat.le_of_ble_eq_true rfl, Nat.le_of_ble_eq_true rfl⟩ ⟨Nat.le_refl 0, Nat.le_refl 0⟩ (As := [.int x2, .int x1, .int (x3 &&& (1 : Int32)), .int (x3 >>> ((1 : Int32) &&& 31))]) (st := []) rfl (Nat.le_of_ble_eq_true rfl) (dOk_at dt_X9_isRest 20 rfl) (fun v_4 h_5 _ => ?_)
    refine j_if_eq hC (tgt := 40) (by decide) (dOk_at dt_X9_isRest 21 rfl) (fun q_6 => ?_) (fun q_6 => ?_)
    · refine j_iconst hC (v := (0 : Int32)) rfl (dOk_at dt_X9_isRest 24 rfl) ?_
      exact j_zretK hC hret rfl (dOk_at dt_X9_isRest 25 rfl)
    · refine j_iconst hC (v := (1 : Int32)) rfl (dOk_at dt_X9_isRest 22 rfl) ?_
      refine j_goto hC (tgt := 41) (by decide) (dOk_at dt_X9_isRest 23 rfl) ?_
      exact j_zretK hC hret rfl (dOk_at dt_X9_isRest 25 rfl)
def tb_X9_rests : List (Nat × Instr × Nat) := [(0, .aload_n 0, 1), (1, .iload_n 1, 1), (2, .iload_n 2, 1), (3, .invokevirtual 278, 3), (6, .ifCond .ne 5, 3), (9, .iconst (-1), 1), (10, .ireturn, 1), (11, .iconst 0, 1), (12, .istore_n 3, 1), (13, .iconst 0, 1), (14, .istore 4, 2), (16, .iload 4, 2), (18, .iconst 4, 1), (19, .if_icmp .ge 23, 3), (22, .aload_n 0, 1), (23, .iload_n 1, 1), (24, .iload_n 2, 1), (25, .iload 4, 2), (27, .invokevirtual 294, 3), (30, .ifCond .eq 6, 3), (33, .iinc 3 1, 3), (36, .iinc 4 1, 3), (39, .goto (-23), 3), (42, .iload_n 3, 1), (43, .ireturn, 1)]
theorem dt_X9_rests : dOk cX9_rests tb_X9_rests = true := by decide +kernel
def fX9_rests_36 (rec16 : Hp → Int32 → Int32 → Int32 → Int32 → Option (Int32 × Hp)) (h : Hp) (x1 : Int32) (x2 : Int32) (x3 : Int32) (x4 : Int32) : Option (Int32 × Hp) := rec16 h x1 x2 x3 (x4 + (1 : Int32))
def fX9_rests_16 : Nat → Hp → Int32 → Int32 → Int32 → Int32 → Option (Int32 × Hp)
  | 0, _, _, _, _, _ => none
  | fu + 1, h, x1, x2, x3, x4 => if (4 : Int32) ≤ x4 then (some (x3, h)) else (bnd (fX9_isRest h x1 x2 x4) (fun v_5 h_6 => if v_5 = 0 then (fX9_rests_36 (fX9_rests_16 fu) h_6 x1 x2 x3 x4) else (fX9_rests_36 (fX9_rests_16 fu) h_6 x1 x2 (x3 + (1 : Int32)) x4)))
def fX9_rests (h : Hp) (x1 : Int32) (x2 : Int32) : Option (Int32 × Hp) := bnd (fX9_areTwo h x1 x2) (fun v_1 h_2 => if v_1 = 0 then (some ((-1 : Int32), h_2)) else (fX9_rests_16 FU h_2 x1 x2 (0 : Int32) (0 : Int32)))
set_option maxRecDepth 100000 in
set_option maxHeartbeats 4000000 in
theorem c_X9_rests {l : Launch} {sb : State} {D : va_G} {ids : Nat → ClassId} {n : Nat} (hN : 152 ≤ n) (h : Hp) (x1 : Int32) (x2 : Int32) (r : Int32 × Hp) (hr : fX9_rests h x1 x2 = some r) : jM l yX9_rests cX9_rests 5 (some .int) 5 sb D ids shp St n [.ref 0, .int x1, .int x2] h (jQi sb D ids shp St n r) := by
  refine jM_of hr rfl (Nat.le_of_ble_eq_true rfl) ?_
  intro p e s m args below meth c hC hret
  have b36 : ∀ (rec16 : Hp → Int32 → Int32 → Int32 → Int32 → Option (Int32 × Hp)) (hrec16 : ∀ (h : Hp) (x1 : Int32) (x2 : Int32) (x3 : Int32) (x4 : Int32) , jJ p l e (rmD 5) s m args below meth c 5 sb D ids shp St (fun r => MQ below (jQi sb D ids shp St n r) args s 0 0 (jA sb)) n 0 0 h 16 [(0, .ref 0), (1, .int x1), (2, .int x2), (3, .int x3), (4, .int x4)] [] (rec16 h x1 x2 x3 x4)) (h : Hp) (x1 : Int32) (x2 : Int32) (x3 : Int32) (x4 : Int32) , jJ p l e (rmD 5) s m args below meth c 5 sb D ids shp St (fun r => MQ below (jQi sb D ids shp St n r) args s 0 0 (jA sb)) n 0 0 h 36 [(0, .ref 0), (1, .int x1), (2, .int x2), (3, .int x3), (4, .int x4)] [] (fX9_rests_36 rec16 h x1 x2 x3 x4) := by
    intro rec16 hrec16 h x1 x2 x3 x4 
    unfold fX9_rests_36
    refine j_iinc hC (v := (x4 + (1 : Int32))) (lv' := [(4, .int (x4 + (1 : Int32))), (0, .ref 0), (1, .int x1), (2, .int x2), (3, .int x3)]) 4 rfl (congrArg (fun z => x4 + z) (show Int32.ofInt (1) = (1 : Int32) from by decide)) (by decide) rfl (dOk_at dt_X9_rests 21 rfl) ?_
    refine j_goto hC (tgt := 16) (by decide) (dOk_at dt_X9_rests 22 rfl) ?_
    refine j_sub [1, 2, 3, 4, 0] rfl ?_
    exact hrec16 h x1 x2 x3 (x4 + (1 : Int32)) 
  have b16 : ∀ (fu : Nat) (h : Hp) (x1 : Int32) (x2 : Int32) (x3 : Int32) (x4 : Int32) , jJ p l e (rmD 5) s m args below meth c 5 sb D ids shp St (fun r => MQ below (jQi sb D ids shp St n r) args s 0 0 (jA sb)) n 0 0 h 16 [(0, .ref 0), (1, .int x1), (2, .int x2), (3, .int x3), (4, .int x4)] [] (fX9_rests_16 fu h x1 x2 x3 x4) := by
    intro fu 
    induction fu with
    | zero => intro h x1 x2 x3 x4 ; exact j_none
    | succ fu ih =>
    intro h x1 x2 x3 x4 
    rw [fX9_rests_16]
    refine j_iload hC 4 rfl (dOk_at dt_X9_rests 11 rfl) ?_
    refine j_iconst hC (v := (4 : Int32)) rfl (dOk_at dt_X9_rests 12 rfl) ?_
    refine j_icmp_ge hC (tgt := 42) (by decide) (dOk_at dt_X9_rests 13 rfl) (fun q_4 => ?_) (fun q_4 => ?_)
    · refine j_iload_n hC 3 rfl rfl (dOk_at dt_X9_rests 23 rfl) ?_
      exact j_iret hC hret (dOk_at dt_X9_rests 24 rfl)
    · refine j_aload_n hC 0 rfl rfl (dOk_at dt_X9_rests 14 rfl) ?_
      refine j_iload_n hC 1 rfl rfl (dOk_at dt_X9_rests 15 rfl) ?_
      refine j_iload_n hC 2 rfl rfl (dOk_at dt_X9_rests 16 rfl) ?_
      refine j_iload hC 4 rfl (dOk_at dt_X9_rests 17 rfl) ?_
      refine j_callVi hC clX9_294 (fun r0 hr0 => c_X9_isRest hN _ _ _ _ r0 hr0) (show shp 0 = (9, 12) from rfl) (Nat.lt_of_lt_of_le (Nat.le_of_ble_eq_true rfl : 0 < 152) hN) (by decide) rfl rfl ⟨Nat.le_of_ble_eq_true rfl, Nat.le_of_ble_eq_true rfl⟩ ⟨Nat.le_refl 0, Nat.le_refl 0⟩ (As := [.int x1, .int x2, .int x4]) (st := []) rfl (Nat.le_of_ble_eq_true rfl) (dOk_at dt_X9_rests 18 rfl) (fun v_5 h_6 _ => ?_)
      refine j_if_eq hC (tgt := 36) (by decide) (dOk_at dt_X9_rests 19 rfl) (fun q_7 => ?_) (fun q_7 => ?_)
      · exact b36 (fX9_rests_16 fu) ih h_6 x1 x2 x3 x4 
      · refine j_iinc hC (v := (x3 + (1 : Int32))) (lv' := [(3, .int (x3 + (1 : Int32))), (0, .ref 0), (1, .int x1), (2, .int x2), (4, .int x4)]) 3 rfl (congrArg (fun z => x3 + z) (show Int32.ofInt (1) = (1 : Int32) from by decide)) (by decide) rfl (dOk_at dt_X9_rests 20 rfl) ?_
        refine j_sub [1, 2, 3, 0, 4] rfl ?_
        exact b36 (fX9_rests_16 fu) ih h_6 x1 x2 (x3 + (1 : Int32)) x4 
  unfold fX9_rests
  refine j_aload_n hC 0 rfl rfl (dOk_at dt_X9_rests 0 rfl) ?_
  refine j_iload_n hC 1 rfl rfl (dOk_at dt_X9_rests 1 rfl) ?_
  refine j_iload_n hC 2 rfl rfl (dOk_at dt_X9_rests 2 rfl) ?_
  refine j_callVi hC clX9_278 (fun r0 hr0 => c_X9_areTwo hN _ _ _ r0 hr0) (show shp 0 = (9, 12) from rfl) (Nat.lt_of_lt_of_le (Nat.le_of_ble_eq_true rfl : 0 < 152) hN) (by decide) rfl rfl ⟨Nat.le_of_ble_eq_true rfl, Nat.le_of_ble_eq_true rfl⟩ ⟨Nat.le_refl 0, Nat.le_refl 0⟩ (As := [.int x1, .int x2]) (st := []) rfl (Nat.le_of_ble_eq_true rfl) (dOk_at dt_X9_rests 3 rfl) (fun v_1 h_2 _ => ?_)
  refine j_if_ne hC (tgt := 11) (by decide) (dOk_at dt_X9_rests 4 rfl) (fun q_3 => ?_) (fun q_3 => ?_)
  · refine j_iconst hC (v := (0 : Int32)) rfl (dOk_at dt_X9_rests 7 rfl) ?_
    refine j_istore_n hC rfl (lv' := [(3, .int (0 : Int32)), (0, .ref 0), (1, .int x1), (2, .int x2)]) (by decide) rfl (dOk_at dt_X9_rests 8 rfl) ?_
    refine j_iconst hC (v := (0 : Int32)) rfl (dOk_at dt_X9_rests 9 rfl) ?_
    refine j_istore hC (lv' := [(4, .int (0 : Int32)), (3, .int (0 : Int32)), (0, .ref 0), (1, .int x1), (2, .int x2)]) (by decide) rfl (dOk_at dt_X9_rests 10 rfl) ?_
    refine j_sub [2, 3, 4, 1, 0] rfl ?_
    exact b16 FU h_2 x1 x2 (0 : Int32) (0 : Int32) 
  · refine j_iconst hC (v := (-1 : Int32)) rfl (dOk_at dt_X9_rests 5 rfl) ?_
    exact j_iret hC hret (dOk_at dt_X9_rests 6 rfl)
def tb_X9_rest : List (Nat × Instr × Nat) := [(0, .aload_n 0, 1), (1, .iload_n 1, 1), (2, .iload_n 2, 1), (3, .invokevirtual 278, 3), (6, .ifCond .eq 7, 3), (9, .iload_n 3, 1), (10, .ifCond .ge 5, 3), (13, .iconst (-1), 1), (14, .ireturn, 1), (15, .iload_n 3, 1), (16, .istore 4, 2), (18, .iconst 0, 1), (19, .istore 5, 2), (21, .iload 5, 2), (23, .iconst 4, 1), (24, .if_icmp .ge 41, 3), (27, .aload_n 0, 1), (28, .iload_n 1, 1), (29, .iload_n 2, 1), (30, .iload 5, 2), (32, .invokevirtual 294, 3), (35, .ifCond .eq 24, 3), (38, .iload 4, 2), (40, .ifCond .ne 16, 3), (43, .bipush 10, 2), (45, .iload 5, 2), (47, .iconst 1, 1), (48, .ishr, 1), (49, .imul, 1), (50, .iload 5, 2), (52, .iconst 1, 1), (53, .iand, 1), (54, .iadd, 1), (55, .ireturn, 1), (56, .iinc 4 (-1), 3), (59, .iinc 5 1, 3), (62, .goto (-41), 3), (65, .bipush (-2), 2), (67, .ireturn, 1)]
theorem dt_X9_rest : dOk cX9_rest tb_X9_rest = true := by decide +kernel
def fX9_rest_59 (rec21 : Hp → Int32 → Int32 → Int32 → Int32 → Option (Int32 × Hp)) (h : Hp) (x1 : Int32) (x2 : Int32) (x4 : Int32) (x5 : Int32) : Option (Int32 × Hp) := rec21 h x1 x2 x4 (x5 + (1 : Int32))
def fX9_rest_21 : Nat → Hp → Int32 → Int32 → Int32 → Int32 → Option (Int32 × Hp)
  | 0, _, _, _, _, _ => none
  | fu + 1, h, x1, x2, x4, x5 => if (4 : Int32) ≤ x5 then (some ((-2 : Int32), h)) else (bnd (fX9_isRest h x1 x2 x5) (fun v_6 h_7 => if v_6 = 0 then (fX9_rest_59 (fX9_rest_21 fu) h_7 x1 x2 x4 x5) else (if x4 = 0 then (some ((((10 : Int32) * (x5 >>> ((1 : Int32) &&& 31))) + (x5 &&& (1 : Int32))), h_7)) else (fX9_rest_59 (fX9_rest_21 fu) h_7 x1 x2 (x4 + (-1 : Int32)) x5))))
def fX9_rest (h : Hp) (x1 : Int32) (x2 : Int32) (x3 : Int32) : Option (Int32 × Hp) := bnd (fX9_areTwo h x1 x2) (fun v_1 h_2 => if v_1 = 0 then (some ((-1 : Int32), h_2)) else (if 0 ≤ x3 then (fX9_rest_21 FU h_2 x1 x2 x3 (0 : Int32)) else (some ((-1 : Int32), h_2))))
set_option maxRecDepth 100000 in
set_option maxHeartbeats 4000000 in
theorem c_X9_rest {l : Launch} {sb : State} {D : va_G} {ids : Nat → ClassId} {n : Nat} (hN : 152 ≤ n) (h : Hp) (x1 : Int32) (x2 : Int32) (x3 : Int32) (r : Int32 × Hp) (hr : fX9_rest h x1 x2 x3 = some r) : jM l yX9_rest cX9_rest 6 (some .int) 5 sb D ids shp St n [.ref 0, .int x1, .int x2, .int x3] h (jQi sb D ids shp St n r) := by
  refine jM_of hr rfl (Nat.le_of_ble_eq_true rfl) ?_
  intro p e s m args below meth c hC hret
  have b59 : ∀ (rec21 : Hp → Int32 → Int32 → Int32 → Int32 → Option (Int32 × Hp)) (hrec21 : ∀ (h : Hp) (x1 : Int32) (x2 : Int32) (x4 : Int32) (x5 : Int32) , jJ p l e (rmD 5) s m args below meth c 6 sb D ids shp St (fun r => MQ below (jQi sb D ids shp St n r) args s 0 0 (jA sb)) n 0 0 h 21 [(0, .ref 0), (1, .int x1), (2, .int x2), (4, .int x4), (5, .int x5)] [] (rec21 h x1 x2 x4 x5)) (h : Hp) (x1 : Int32) (x2 : Int32) (x4 : Int32) (x5 : Int32) , jJ p l e (rmD 5) s m args below meth c 6 sb D ids shp St (fun r => MQ below (jQi sb D ids shp St n r) args s 0 0 (jA sb)) n 0 0 h 59 [(0, .ref 0), (1, .int x1), (2, .int x2), (4, .int x4), (5, .int x5)] [] (fX9_rest_59 rec21 h x1 x2 x4 x5) := by
    intro rec21 hrec21 h x1 x2 x4 x5 
    unfold fX9_rest_59
    refine j_iinc hC (v := (x5 + (1 : Int32))) (lv' := [(5, .int (x5 + (1 : Int32))), (0, .ref 0), (1, .int x1), (2, .int x2), (4, .int x4)]) 4 rfl (congrArg (fun z => x5 + z) (show Int32.ofInt (1) = (1 : Int32) from by decide)) (by decide) rfl (dOk_at dt_X9_rest 35 rfl) ?_
    refine j_goto hC (tgt := 21) (by decide) (dOk_at dt_X9_rest 36 rfl) ?_
    refine j_sub [1, 2, 3, 4, 0] rfl ?_
    exact hrec21 h x1 x2 x4 (x5 + (1 : Int32)) 
  have b21 : ∀ (fu : Nat) (h : Hp) (x1 : Int32) (x2 : Int32) (x4 : Int32) (x5 : Int32) , jJ p l e (rmD 5) s m args below meth c 6 sb D ids shp St (fun r => MQ below (jQi sb D ids shp St n r) args s 0 0 (jA sb)) n 0 0 h 21 [(0, .ref 0), (1, .int x1), (2, .int x2), (4, .int x4), (5, .int x5)] [] (fX9_rest_21 fu h x1 x2 x4 x5) := by
    intro fu 
    induction fu with
    | zero => intro h x1 x2 x4 x5 ; exact j_none
    | succ fu ih =>
    intro h x1 x2 x4 x5 
    rw [fX9_rest_21]
    refine j_iload hC 4 rfl (dOk_at dt_X9_rest 13 rfl) ?_
    refine j_iconst hC (v := (4 : Int32)) rfl (dOk_at dt_X9_rest 14 rfl) ?_
    refine j_icmp_ge hC (tgt := 65) (by decide) (dOk_at dt_X9_rest 15 rfl) (fun q_5 => ?_) (fun q_5 => ?_)
    · refine j_bipush hC (v := (-2 : Int32)) rfl (dOk_at dt_X9_rest 37 rfl) ?_
      exact j_iret hC hret (dOk_at dt_X9_rest 38 rfl)
    · refine j_aload_n hC 0 rfl rfl (dOk_at dt_X9_rest 16 rfl) ?_
      refine j_iload_n hC 1 rfl rfl (dOk_at dt_X9_rest 17 rfl) ?_
      refine j_iload_n hC 2 rfl rfl (dOk_at dt_X9_rest 18 rfl) ?_
      refine j_iload hC 4 rfl (dOk_at dt_X9_rest 19 rfl) ?_
      refine j_callVi hC clX9_294 (fun r0 hr0 => c_X9_isRest hN _ _ _ _ r0 hr0) (show shp 0 = (9, 12) from rfl) (Nat.lt_of_lt_of_le (Nat.le_of_ble_eq_true rfl : 0 < 152) hN) (by decide) rfl rfl ⟨Nat.le_of_ble_eq_true rfl, Nat.le_of_ble_eq_true rfl⟩ ⟨Nat.le_refl 0, Nat.le_refl 0⟩ (As := [.int x1, .int x2, .int x5]) (st := []) rfl (Nat.le_of_ble_eq_true rfl) (dOk_at dt_X9_rest 20 rfl) (fun v_6 h_7 _ => ?_)
      refine j_if_eq hC (tgt := 59) (by decide) (dOk_at dt_X9_rest 21 rfl) (fun q_8 => ?_) (fun q_8 => ?_)
      · exact b59 (fX9_rest_21 fu) ih h_7 x1 x2 x4 x5 
      · refine j_iload hC 3 rfl (dOk_at dt_X9_rest 22 rfl) ?_
        refine j_if_ne hC (tgt := 56) (by decide) (dOk_at dt_X9_rest 23 rfl) (fun q_9 => ?_) (fun q_9 => ?_)
        · refine j_iinc hC (v := (x4 + (-1 : Int32))) (lv' := [(4, .int (x4 + (-1 : Int32))), (0, .ref 0), (1, .int x1), (2, .int x2), (5, .int x5)]) 3 rfl (congrArg (fun z => x4 + z) (show Int32.ofInt (-1) = (-1 : Int32) from by decide)) (by decide) rfl (dOk_at dt_X9_rest 34 rfl) ?_
          refine j_sub [1, 2, 3, 0, 4] rfl ?_
          exact b59 (fX9_rest_21 fu) ih h_7 x1 x2 (x4 + (-1 : Int32)) x5 
        · refine j_bipush hC (v := (10 : Int32)) rfl (dOk_at dt_X9_rest 24 rfl) ?_
          refine j_iload hC 4 rfl (dOk_at dt_X9_rest 25 rfl) ?_
          refine j_iconst hC (v := (1 : Int32)) rfl (dOk_at dt_X9_rest 26 rfl) ?_
          refine j_ishr hC (dOk_at dt_X9_rest 27 rfl) ?_
          refine j_imul hC (dOk_at dt_X9_rest 28 rfl) ?_
          refine j_iload hC 4 rfl (dOk_at dt_X9_rest 29 rfl) ?_
          refine j_iconst hC (v := (1 : Int32)) rfl (dOk_at dt_X9_rest 30 rfl) ?_
          refine j_iand hC (dOk_at dt_X9_rest 31 rfl) ?_
          refine j_iadd hC (dOk_at dt_X9_rest 32 rfl) ?_
          exact j_iret hC hret (dOk_at dt_X9_rest 33 rfl)
  unfold fX9_rest
  refine j_aload_n hC 0 rfl rfl (dOk_at dt_X9_rest 0 rfl) ?_
  refine j_iload_n hC 1 rfl rfl (dOk_at dt_X9_rest 1 rfl) ?_
  refine j_iload_n hC 2 rfl rfl (dOk_at dt_X9_rest 2 rfl) ?_
  refine j_callVi hC clX9_278 (fun r0 hr0 => c_X9_areTwo hN _ _ _ r0 hr0) (show shp 0 = (9, 12) from rfl) (Nat.lt_of_lt_of_le (Nat.le_of_ble_eq_true rfl : 0 < 152) hN) (by decide) rfl rfl ⟨Nat.le_of_ble_eq_true rfl, Nat.le_of_ble_eq_true rfl⟩ ⟨Nat.le_refl 0, Nat.le_refl 0⟩ (As := [.int x1, .int x2]) (st := []) rfl (Nat.le_of_ble_eq_true rfl) (dOk_at dt_X9_rest 3 rfl) (fun v_1 h_2 _ => ?_)
  refine j_if_eq hC (tgt := 13) (by decide) (dOk_at dt_X9_rest 4 rfl) (fun q_3 => ?_) (fun q_3 => ?_)
  · refine j_iconst hC (v := (-1 : Int32)) rfl (dOk_at dt_X9_rest 7 rfl) ?_
    exact j_iret hC hret (dOk_at dt_X9_rest 8 rfl)
  · refine j_iload_n hC 3 rfl rfl (dOk_at dt_X9_rest 5 rfl) ?_
    refine j_if_ge hC (tgt := 15) (by decide) (dOk_at dt_X9_rest 6 rfl) (fun q_4 => ?_) (fun q_4 => ?_)
    · refine j_iload_n hC 3 rfl rfl (dOk_at dt_X9_rest 9 rfl) ?_
      refine j_istore hC (lv' := [(4, .int x3), (0, .ref 0), (1, .int x1), (2, .int x2), (3, .int x3)]) (by decide) rfl (dOk_at dt_X9_rest 10 rfl) ?_
      refine j_iconst hC (v := (0 : Int32)) rfl (dOk_at dt_X9_rest 11 rfl) ?_
      refine j_istore hC (lv' := [(5, .int (0 : Int32)), (4, .int x3), (0, .ref 0), (1, .int x1), (2, .int x2), (3, .int x3)]) (by decide) rfl (dOk_at dt_X9_rest 12 rfl) ?_
      refine j_sub [2, 3, 4, 1, 0] rfl ?_
      exact b21 FU h_2 x1 x2 x3 (0 : Int32) 
    · refine j_iconst hC (v := (-1 : Int32)) rfl (dOk_at dt_X9_rest 7 rfl) ?_
      exact j_iret hC hret (dOk_at dt_X9_rest 8 rfl)
def tb_X9_commonDivisor : List (Nat × Instr × Nat) := [(0, .iload_n 0, 1), (1, .istore_n 2, 1), (2, .iload_n 1, 1), (3, .istore_n 3, 1), (4, .iconst 0, 1), (5, .istore 4, 2), (7, .iload 4, 2), (9, .bipush 100, 2), (11, .if_icmp .ge 23, 3), (14, .iload_n 3, 1), (15, .ifCond .le 19, 3), (18, .iload_n 2, 1), (19, .iload_n 3, 1), (20, .irem, 1), (21, .istore 5, 2), (23, .iload_n 3, 1), (24, .istore_n 2, 1), (25, .iload 5, 2), (27, .istore_n 3, 1), (28, .iinc 4 1, 3), (31, .goto (-24), 3), (34, .iload_n 2, 1), (35, .ireturn, 1)]
theorem dt_X9_commonDivisor : dOk cX9_commonDivisor tb_X9_commonDivisor = true := by decide +kernel
def fX9_commonDivisor_7 : Nat → Hp → Int32 → Int32 → Int32 → Option (Int32 × Hp)
  | 0, _, _, _, _ => none
  | fu + 1, h, x2, x3, x4 => if (100 : Int32) ≤ x4 then (some (x2, h)) else (if x3 ≤ 0 then (some (x2, h)) else (if x3 = 0 then none else (fX9_commonDivisor_7 fu) h x3 (x2 - x2 / x3 * x3) (x4 + (1 : Int32))))
def fX9_commonDivisor (h : Hp) (x0 : Int32) (x1 : Int32) : Option (Int32 × Hp) := fX9_commonDivisor_7 FU h x0 x1 (0 : Int32)
set_option maxRecDepth 100000 in
set_option maxHeartbeats 4000000 in
theorem c_X9_commonDivisor {l : Launch} {sb : State} {D : va_G} {ids : Nat → ClassId} {n : Nat} (hN : 152 ≤ n) (h : Hp) (x0 : Int32) (x1 : Int32) (r : Int32 × Hp) (hr : fX9_commonDivisor h x0 x1 = some r) : jM l yX9_commonDivisor cX9_commonDivisor 6 (some .int) 0 sb D ids shp St n [.int x0, .int x1] h (jQi sb D ids shp St n r) := by
  refine jM_of hr rfl (Nat.le_of_ble_eq_true rfl) ?_
  intro p e s m args below meth c hC hret
  have b7 : ∀ (fu : Nat) (h : Hp) (x2 : Int32) (x3 : Int32) (x4 : Int32) , jJ p l e (rmD 0) s m args below meth c 6 sb D ids shp St (fun r => MQ below (jQi sb D ids shp St n r) args s 0 0 (jA sb)) n 0 0 h 7 [(2, .int x2), (3, .int x3), (4, .int x4)] [] (fX9_commonDivisor_7 fu h x2 x3 x4) := by
    intro fu 
    induction fu with
    | zero => intro h x2 x3 x4 ; exact j_none
    | succ fu ih =>
    intro h x2 x3 x4 
    rw [fX9_commonDivisor_7]
    refine j_iload hC 2 rfl (dOk_at dt_X9_commonDivisor 6 rfl) ?_
    refine j_bipush hC (v := (100 : Int32)) rfl (dOk_at dt_X9_commonDivisor 7 rfl) ?_
    refine j_icmp_ge hC (tgt := 34) (by decide) (dOk_at dt_X9_commonDivisor 8 rfl) (fun q_1 => ?_) (fun q_1 => ?_)
    · refine j_iload_n hC 0 rfl rfl (dOk_at dt_X9_commonDivisor 21 rfl) ?_
      exact j_iret hC hret (dOk_at dt_X9_commonDivisor 22 rfl)
    · refine j_iload_n hC 1 rfl rfl (dOk_at dt_X9_commonDivisor 9 rfl) ?_
      refine j_if_le hC (tgt := 34) (by decide) (dOk_at dt_X9_commonDivisor 10 rfl) (fun q_2 => ?_) (fun q_2 => ?_)
      · refine j_iload_n hC 0 rfl rfl (dOk_at dt_X9_commonDivisor 21 rfl) ?_
        exact j_iret hC hret (dOk_at dt_X9_commonDivisor 22 rfl)
      · refine j_iload_n hC 0 rfl rfl (dOk_at dt_X9_commonDivisor 11 rfl) ?_
        refine j_iload_n hC 1 rfl rfl (dOk_at dt_X9_commonDivisor 12 rfl) ?_
        refine j_irem hC (dOk_at dt_X9_commonDivisor 13 rfl) ?_
        refine j_istore hC (lv' := [(5, .int (x2 - x2 / x3 * x3)), (2, .int x2), (3, .int x3), (4, .int x4)]) (by decide) rfl (dOk_at dt_X9_commonDivisor 14 rfl) ?_
        refine j_iload_n hC 2 rfl rfl (dOk_at dt_X9_commonDivisor 15 rfl) ?_
        refine j_istore_n hC rfl (lv' := [(2, .int x3), (5, .int (x2 - x2 / x3 * x3)), (3, .int x3), (4, .int x4)]) (by decide) rfl (dOk_at dt_X9_commonDivisor 16 rfl) ?_
        refine j_iload hC 1 rfl (dOk_at dt_X9_commonDivisor 17 rfl) ?_
        refine j_istore_n hC rfl (lv' := [(3, .int (x2 - x2 / x3 * x3)), (2, .int x3), (5, .int (x2 - x2 / x3 * x3)), (4, .int x4)]) (by decide) rfl (dOk_at dt_X9_commonDivisor 18 rfl) ?_
        refine j_iinc hC (v := (x4 + (1 : Int32))) (lv' := [(4, .int (x4 + (1 : Int32))), (3, .int (x2 - x2 / x3 * x3)), (2, .int x3), (5, .int (x2 - x2 / x3 * x3))]) 3 rfl (congrArg (fun z => x4 + z) (show Int32.ofInt (1) = (1 : Int32) from by decide)) (by decide) rfl (dOk_at dt_X9_commonDivisor 19 rfl) ?_
        refine j_goto hC (tgt := 7) (by decide) (dOk_at dt_X9_commonDivisor 20 rfl) ?_
        refine j_sub [2, 1, 0] rfl ?_
        exact ih h x3 (x2 - x2 / x3 * x3) (x4 + (1 : Int32)) 
  unfold fX9_commonDivisor
  refine j_iload_n hC 0 rfl rfl (dOk_at dt_X9_commonDivisor 0 rfl) ?_
  refine j_istore_n hC rfl (lv' := [(2, .int x0), (0, .int x0), (1, .int x1)]) (by decide) rfl (dOk_at dt_X9_commonDivisor 1 rfl) ?_
  refine j_iload_n hC 2 rfl rfl (dOk_at dt_X9_commonDivisor 2 rfl) ?_
  refine j_istore_n hC rfl (lv' := [(3, .int x1), (2, .int x0), (0, .int x0), (1, .int x1)]) (by decide) rfl (dOk_at dt_X9_commonDivisor 3 rfl) ?_
  refine j_iconst hC (v := (0 : Int32)) rfl (dOk_at dt_X9_commonDivisor 4 rfl) ?_
  refine j_istore hC (lv' := [(4, .int (0 : Int32)), (3, .int x1), (2, .int x0), (0, .int x0), (1, .int x1)]) (by decide) rfl (dOk_at dt_X9_commonDivisor 5 rfl) ?_
  refine j_sub [2, 1, 0] rfl ?_
  exact b7 FU h x0 x1 (0 : Int32) 
def tb_X9_dry : List (Nat × Instr × Nat) := [(0, .iload_n 1, 1), (1, .ifCond .lt 18, 3), (4, .iload_n 1, 1), (5, .bipush 6, 2), (7, .if_icmp .gt 12, 3), (10, .iload_n 2, 1), (11, .ifCond .lt 8, 3), (14, .iload_n 2, 1), (15, .iconst 1, 1), (16, .if_icmp .le 7, 3), (19, .ldc2_w 298, 3), (22, .lreturn, 1), (23, .bipush 100, 2), (25, .aload_n 0, 1), (26, .getfield 10, 3), (29, .getfield 300, 3), (32, .isub, 1), (33, .istore_n 3, 1), (34, .iload_n 3, 1), (35, .bipush 100, 2), (37, .invokestatic 303, 3), (40, .istore 4, 2), (42, .iload_n 2, 1), (43, .ifCond .ne 7, 3), (46, .iload_n 3, 1), (47, .goto 5, 3), (50, .bipush 100, 2), (52, .istore 5, 2), (54, .iload 4, 2), (56, .ifCond .le 12, 3), (59, .iload 5, 2), (61, .iload 4, 2), (63, .idiv, 1), (64, .i2l, 1), (65, .goto 6, 3), (68, .iload 5, 2), (70, .i2l, 1), (71, .lstore 6, 2), (73, .lconst 1, 1), (74, .lstore 8, 2), (76, .iconst 0, 1), (77, .istore 10, 2), (79, .iload 10, 2), (81, .iload_n 1, 1), (82, .if_icmp .ge 16, 3), (85, .lload 8, 2), (87, .lload 6, 2), (89, .lmul, 1), (90, .lstore 8, 2), (92, .iinc 10 1, 3), (95, .goto (-16), 3), (98, .lload 8, 2), (100, .lreturn, 1)]
theorem dt_X9_dry : dOk cX9_dry tb_X9_dry = true := by decide +kernel
def fX9_dry_79 : Nat → Hp → Int32 → Int64 → Int64 → Int32 → Option (Int64 × Hp)
  | 0, _, _, _, _, _ => none
  | fu + 1, h, x1, x6, x8, x10 => if x1 ≤ x10 then (some (x8, h)) else ((fX9_dry_79 fu) h x1 x6 (x8 * x6) (x10 + (1 : Int32)))
def fX9_dry_71 (h : Hp) (x1 : Int32) (s0 : Int64) : Option (Int64 × Hp) := fX9_dry_79 FU h x1 s0 (1 : Int64) (0 : Int32)
def fX9_dry_52 (h : Hp) (x1 : Int32) (x4 : Int32) (s0 : Int32) : Option (Int64 × Hp) := if x4 ≤ 0 then (fX9_dry_71 h x1 (Int32.toInt64 s0)) else (if x4 = 0 then none else fX9_dry_71 h x1 (Int32.toInt64 (s0 / x4)))
def fX9_dry (h : Hp) (x1 : Int32) (x2 : Int32) : Option (Int64 × Hp) := if x1 < 0 then (some ((-1 : Int64), h)) else (if (6 : Int32) < x1 then (some ((-1 : Int64), h)) else (if x2 < 0 then (some ((-1 : Int64), h)) else (if x2 ≤ (1 : Int32) then ((dref shp h 0 3 (7, 20)).bind (fun z_5 => bnd (fX9_commonDivisor h ((100 : Int32) - (hI h z_5 13)) (100 : Int32)) (fun v_7 h_8 => if x2 = 0 then (fX9_dry_52 h_8 x1 v_7 ((100 : Int32) - (hI h z_5 13))) else (fX9_dry_52 h_8 x1 v_7 (100 : Int32))))) else (some ((-1 : Int64), h)))))
set_option maxRecDepth 100000 in
set_option maxHeartbeats 4000000 in
theorem c_X9_dry {l : Launch} {sb : State} {D : va_G} {ids : Nat → ClassId} {n : Nat} (hN : 152 ≤ n) (h : Hp) (x1 : Int32) (x2 : Int32) (r : Int64 × Hp) (hr : fX9_dry h x1 x2 = some r) : jM l yX9_dry cX9_dry 11 (some .long) 1 sb D ids shp St n [.ref 0, .int x1, .int x2] h (jQl sb D ids shp St n r) := by
  refine jM_of hr rfl (Nat.le_of_ble_eq_true rfl) ?_
  intro p e s m args below meth c hC hret
  have b79 : ∀ (fu : Nat) (h : Hp) (x1 : Int32) (x6 : Int64) (x8 : Int64) (x10 : Int32) , jJ p l e (rmD 1) s m args below meth c 11 sb D ids shp St (fun r => MQ below (jQl sb D ids shp St n r) args s 0 0 (jA sb)) n 0 0 h 79 [(1, .int x1), (6, .long x6), (8, .long x8), (10, .int x10)] [] (fX9_dry_79 fu h x1 x6 x8 x10) := by
    intro fu 
    induction fu with
    | zero => intro h x1 x6 x8 x10 ; exact j_none
    | succ fu ih =>
    intro h x1 x6 x8 x10 
    rw [fX9_dry_79]
    refine j_iload hC 3 rfl (dOk_at dt_X9_dry 42 rfl) ?_
    refine j_iload_n hC 0 rfl rfl (dOk_at dt_X9_dry 43 rfl) ?_
    refine j_icmp_ge hC (tgt := 98) (by decide) (dOk_at dt_X9_dry 44 rfl) (fun q_11 => ?_) (fun q_11 => ?_)
    · refine j_lload hC 2 rfl (dOk_at dt_X9_dry 51 rfl) ?_
      exact j_lret hC hret (dOk_at dt_X9_dry 52 rfl)
    · refine j_lload hC 2 rfl (dOk_at dt_X9_dry 45 rfl) ?_
      refine j_lload hC 1 rfl (dOk_at dt_X9_dry 46 rfl) ?_
      refine j_lmul hC (dOk_at dt_X9_dry 47 rfl) ?_
      refine j_lstore hC (lv' := [(8, .long (x8 * x6)), (1, .int x1), (6, .long x6), (10, .int x10)]) (by decide) rfl (dOk_at dt_X9_dry 48 rfl) ?_
      refine j_iinc hC (v := (x10 + (1 : Int32))) (lv' := [(10, .int (x10 + (1 : Int32))), (8, .long (x8 * x6)), (1, .int x1), (6, .long x6)]) 3 rfl (congrArg (fun z => x10 + z) (show Int32.ofInt (1) = (1 : Int32) from by decide)) (by decide) rfl (dOk_at dt_X9_dry 49 rfl) ?_
      refine j_goto hC (tgt := 79) (by decide) (dOk_at dt_X9_dry 50 rfl) ?_
      refine j_sub [2, 3, 1, 0] rfl ?_
      exact ih h x1 x6 (x8 * x6) (x10 + (1 : Int32)) 
  have b71 : ∀ (h : Hp) (x1 : Int32) (s0 : Int64) , jJ p l e (rmD 1) s m args below meth c 11 sb D ids shp St (fun r => MQ below (jQl sb D ids shp St n r) args s 0 0 (jA sb)) n 0 0 h 71 [(1, .int x1)] [.long s0] (fX9_dry_71 h x1 s0) := by
    intro h x1 s0 
    unfold fX9_dry_71
    refine j_lstore hC (lv' := [(6, .long s0), (1, .int x1)]) (by decide) rfl (dOk_at dt_X9_dry 37 rfl) ?_
    refine j_lconst hC (v := (1 : Int64)) rfl (dOk_at dt_X9_dry 38 rfl) ?_
    refine j_lstore hC (lv' := [(8, .long (1 : Int64)), (6, .long s0), (1, .int x1)]) (by decide) rfl (dOk_at dt_X9_dry 39 rfl) ?_
    refine j_iconst hC (v := (0 : Int32)) rfl (dOk_at dt_X9_dry 40 rfl) ?_
    refine j_istore hC (lv' := [(10, .int (0 : Int32)), (8, .long (1 : Int64)), (6, .long s0), (1, .int x1)]) (by decide) rfl (dOk_at dt_X9_dry 41 rfl) ?_
    refine j_sub [3, 2, 1, 0] rfl ?_
    exact b79 FU h x1 s0 (1 : Int64) (0 : Int32) 
  have b52 : ∀ (h : Hp) (x1 : Int32) (x4 : Int32) (s0 : Int32) , jJ p l e (rmD 1) s m args below meth c 11 sb D ids shp St (fun r => MQ below (jQl sb D ids shp St n r) args s 0 0 (jA sb)) n 0 0 h 52 [(1, .int x1), (4, .int x4)] [.int s0] (fX9_dry_52 h x1 x4 s0) := by
    intro h x1 x4 s0 
    unfold fX9_dry_52
    refine j_istore hC (lv' := [(5, .int s0), (1, .int x1), (4, .int x4)]) (by decide) rfl (dOk_at dt_X9_dry 27 rfl) ?_
    refine j_iload hC 2 rfl (dOk_at dt_X9_dry 28 rfl) ?_
    refine j_if_le hC (tgt := 68) (by decide) (dOk_at dt_X9_dry 29 rfl) (fun q_10 => ?_) (fun q_10 => ?_)
    · refine j_iload hC 0 rfl (dOk_at dt_X9_dry 35 rfl) ?_
      refine j_i2l hC (dOk_at dt_X9_dry 36 rfl) ?_
      refine j_sub [1] rfl ?_
      exact b71 h x1 (Int32.toInt64 s0) 
    · refine j_iload hC 0 rfl (dOk_at dt_X9_dry 30 rfl) ?_
      refine j_iload hC 2 rfl (dOk_at dt_X9_dry 31 rfl) ?_
      refine j_idiv hC (dOk_at dt_X9_dry 32 rfl) ?_
      refine j_i2l hC (dOk_at dt_X9_dry 33 rfl) ?_
      refine j_goto hC (tgt := 71) (by decide) (dOk_at dt_X9_dry 34 rfl) ?_
      refine j_sub [1] rfl ?_
      exact b71 h x1 (Int32.toInt64 (s0 / x4)) 
  unfold fX9_dry
  refine j_iload_n hC 1 rfl rfl (dOk_at dt_X9_dry 0 rfl) ?_
  refine j_if_lt hC (tgt := 19) (by decide) (dOk_at dt_X9_dry 1 rfl) (fun q_1 => ?_) (fun q_1 => ?_)
  · refine j_ldc2 hC klX9_298 (dOk_at dt_X9_dry 10 rfl) ?_
    exact j_lret hC hret (dOk_at dt_X9_dry 11 rfl)
  · refine j_iload_n hC 1 rfl rfl (dOk_at dt_X9_dry 2 rfl) ?_
    refine j_bipush hC (v := (6 : Int32)) rfl (dOk_at dt_X9_dry 3 rfl) ?_
    refine j_icmp_gt hC (tgt := 19) (by decide) (dOk_at dt_X9_dry 4 rfl) (fun q_2 => ?_) (fun q_2 => ?_)
    · refine j_ldc2 hC klX9_298 (dOk_at dt_X9_dry 10 rfl) ?_
      exact j_lret hC hret (dOk_at dt_X9_dry 11 rfl)
    · refine j_iload_n hC 2 rfl rfl (dOk_at dt_X9_dry 5 rfl) ?_
      refine j_if_lt hC (tgt := 19) (by decide) (dOk_at dt_X9_dry 6 rfl) (fun q_3 => ?_) (fun q_3 => ?_)
      · refine j_ldc2 hC klX9_298 (dOk_at dt_X9_dry 10 rfl) ?_
        exact j_lret hC hret (dOk_at dt_X9_dry 11 rfl)
      · refine j_iload_n hC 2 rfl rfl (dOk_at dt_X9_dry 7 rfl) ?_
        refine j_iconst hC (v := (1 : Int32)) rfl (dOk_at dt_X9_dry 8 rfl) ?_
        refine j_icmp_le hC (tgt := 23) (by decide) (dOk_at dt_X9_dry 9 rfl) (fun q_4 => ?_) (fun q_4 => ?_)
        · refine j_bipush hC (v := (100 : Int32)) rfl (dOk_at dt_X9_dry 12 rfl) ?_
          refine j_aload_n hC 0 rfl rfl (dOk_at dt_X9_dry 13 rfl) ?_
          refine j_getD (q := (7, 20)) hC flX9_10 (show shp 0 = (9, 12) from rfl) (Nat.lt_of_lt_of_le (Nat.le_of_ble_eq_true rfl : 0 < 152) hN) (by decide) (by decide) (fun _ _ _ => rfl) (dOk_at dt_X9_dry 14 rfl) (fun z_5 _ g_6 => ?_)
          refine j_getI hC flX9_300 g_6 (jlt hN g_6 (by decide)) (by decide) (by decide) (fun _ _ _ => rfl) (dOk_at dt_X9_dry 15 rfl) ?_
          refine j_isub hC (dOk_at dt_X9_dry 16 rfl) ?_
          refine j_istore_n hC rfl (lv' := [(3, .int ((100 : Int32) - (hI h z_5 13))), (0, .ref 0), (1, .int x1), (2, .int x2)]) (by decide) rfl (dOk_at dt_X9_dry 17 rfl) ?_
          refine j_iload_n hC 0 rfl rfl (dOk_at dt_X9_dry 18 rfl) ?_
          refine j_bipush hC (v := (100 : Int32)) rfl (dOk_at dt_X9_dry 19 rfl) ?_
          refine j_callSi hC clX9_303 (fun r0 hr0 => c_X9_commonDivisor hN _ _ _ r0 hr0) rfl ⟨Nat.le_of_ble_eq_true rfl, Nat.le_of_ble_eq_true rfl⟩ ⟨Nat.le_refl 0, Nat.le_refl 0⟩ (As := [.int ((100 : Int32) - (hI h z_5 13)), .int (100 : Int32)]) (st := []) rfl (Nat.le_of_ble_eq_true rfl) (dOk_at dt_X9_dry 20 rfl) (fun v_7 h_8 _ => ?_)
          refine j_istore hC (lv' := [(4, .int v_7), (3, .int ((100 : Int32) - (hI h z_5 13))), (0, .ref 0), (1, .int x1), (2, .int x2)]) (by decide) rfl (dOk_at dt_X9_dry 21 rfl) ?_
          refine j_iload_n hC 4 rfl rfl (dOk_at dt_X9_dry 22 rfl) ?_
          refine j_if_ne hC (tgt := 50) (by decide) (dOk_at dt_X9_dry 23 rfl) (fun q_9 => ?_) (fun q_9 => ?_)
          · refine j_bipush hC (v := (100 : Int32)) rfl (dOk_at dt_X9_dry 26 rfl) ?_
            refine j_sub [3, 0] rfl ?_
            exact b52 h_8 x1 v_7 (100 : Int32) 
          · refine j_iload_n hC 1 rfl rfl (dOk_at dt_X9_dry 24 rfl) ?_
            refine j_goto hC (tgt := 52) (by decide) (dOk_at dt_X9_dry 25 rfl) ?_
            refine j_sub [3, 0] rfl ?_
            exact b52 h_8 x1 v_7 ((100 : Int32) - (hI h z_5 13)) 
        · refine j_ldc2 hC klX9_298 (dOk_at dt_X9_dry 10 rfl) ?_
          exact j_lret hC hret (dOk_at dt_X9_dry 11 rfl)
def tb_X9_see : List (Nat × Instr × Nat) := [(0, .iload_n 1, 1), (1, .iconst 1, 1), (2, .if_icmp .lt 27, 3), (5, .iload_n 1, 1), (6, .bipush 60, 2), (8, .if_icmp .gt 21, 3), (11, .aload_n 0, 1), (12, .iload_n 2, 1), (13, .invokevirtual 168, 3), (16, .ifCond .eq 13, 3), (19, .iload_n 3, 1), (20, .ifCond .lt 9, 3), (23, .iload_n 3, 1), (24, .bipush 12, 2), (26, .if_icmp .le 5, 3), (29, .iconst (-1), 1), (30, .ireturn, 1), (31, .aload_n 0, 1), (32, .getfield 62, 3), (35, .iload_n 1, 1), (36, .iload_n 2, 1), (37, .iload_n 3, 1), (38, .iload 4, 2), (40, .invokevirtual 306, 3), (43, .ireturn, 1)]
theorem dt_X9_see : dOk cX9_see tb_X9_see = true := by decide +kernel
def fX9_see (h : Hp) (x1 : Int32) (x2 : Int32) (x3 : Int32) (x4 : Int32) : Option (Int32 × Hp) := if x1 < (1 : Int32) then (some ((-1 : Int32), h)) else (if (60 : Int32) < x1 then (some ((-1 : Int32), h)) else (bnd (fX9_isMember h x2) (fun v_3 h_4 => if v_3 = 0 then (some ((-1 : Int32), h_4)) else (if x3 < 0 then (some ((-1 : Int32), h_4)) else (if x3 ≤ (12 : Int32) then (bnd (fX2_addSeen h_4 x1 x2 x3 x4) (fun v_8 h_9 => some (v_8, h_9))) else (some ((-1 : Int32), h_4)))))))
set_option maxRecDepth 100000 in
set_option maxHeartbeats 4000000 in
theorem c_X9_see {l : Launch} {sb : State} {D : va_G} {ids : Nat → ClassId} {n : Nat} (hN : 152 ≤ n) (h : Hp) (x1 : Int32) (x2 : Int32) (x3 : Int32) (x4 : Int32) (r : Int32 × Hp) (hr : fX9_see h x1 x2 x3 x4 = some r) : jM l yX9_see cX9_see 5 (some .int) 1 sb D ids shp St n [.ref 0, .int x1, .int x2, .int x3, .int x4] h (jQi sb D ids shp St n r) := by
  refine jM_of hr rfl (Nat.le_of_ble_eq_true rfl) ?_
  intro p e s m args below meth c hC hret
  unfold fX9_see
  refine j_iload_n hC 1 rfl rfl (dOk_at dt_X9_see 0 rfl) ?_
  refine j_iconst hC (v := (1 : Int32)) rfl (dOk_at dt_X9_see 1 rfl) ?_
  refine j_icmp_lt hC (tgt := 29) (by decide) (dOk_at dt_X9_see 2 rfl) (fun q_1 => ?_) (fun q_1 => ?_)
  · refine j_iconst hC (v := (-1 : Int32)) rfl (dOk_at dt_X9_see 15 rfl) ?_
    exact j_iret hC hret (dOk_at dt_X9_see 16 rfl)
  · refine j_iload_n hC 1 rfl rfl (dOk_at dt_X9_see 3 rfl) ?_
    refine j_bipush hC (v := (60 : Int32)) rfl (dOk_at dt_X9_see 4 rfl) ?_
    refine j_icmp_gt hC (tgt := 29) (by decide) (dOk_at dt_X9_see 5 rfl) (fun q_2 => ?_) (fun q_2 => ?_)
    · refine j_iconst hC (v := (-1 : Int32)) rfl (dOk_at dt_X9_see 15 rfl) ?_
      exact j_iret hC hret (dOk_at dt_X9_see 16 rfl)
    · refine j_aload_n hC 0 rfl rfl (dOk_at dt_X9_see 6 rfl) ?_
      refine j_iload_n hC 2 rfl rfl (dOk_at dt_X9_see 7 rfl) ?_
      refine j_callVi hC clX9_168 (fun r0 hr0 => c_X9_isMember hN _ _ r0 hr0) (show shp 0 = (9, 12) from rfl) (Nat.lt_of_lt_of_le (Nat.le_of_ble_eq_true rfl : 0 < 152) hN) (by decide) rfl rfl ⟨Nat.le_of_ble_eq_true rfl, Nat.le_of_ble_eq_true rfl⟩ ⟨Nat.le_refl 0, Nat.le_refl 0⟩ (As := [.int x2]) (st := []) rfl (Nat.le_of_ble_eq_true rfl) (dOk_at dt_X9_see 8 rfl) (fun v_3 h_4 _ => ?_)
      refine j_if_eq hC (tgt := 29) (by decide) (dOk_at dt_X9_see 9 rfl) (fun q_5 => ?_) (fun q_5 => ?_)
      · refine j_iconst hC (v := (-1 : Int32)) rfl (dOk_at dt_X9_see 15 rfl) ?_
        exact j_iret hC hret (dOk_at dt_X9_see 16 rfl)
      · refine j_iload_n hC 3 rfl rfl (dOk_at dt_X9_see 10 rfl) ?_
        refine j_if_lt hC (tgt := 29) (by decide) (dOk_at dt_X9_see 11 rfl) (fun q_6 => ?_) (fun q_6 => ?_)
        · refine j_iconst hC (v := (-1 : Int32)) rfl (dOk_at dt_X9_see 15 rfl) ?_
          exact j_iret hC hret (dOk_at dt_X9_see 16 rfl)
        · refine j_iload_n hC 3 rfl rfl (dOk_at dt_X9_see 12 rfl) ?_
          refine j_bipush hC (v := (12 : Int32)) rfl (dOk_at dt_X9_see 13 rfl) ?_
          refine j_icmp_le hC (tgt := 31) (by decide) (dOk_at dt_X9_see 14 rfl) (fun q_7 => ?_) (fun q_7 => ?_)
          · refine j_aload_n hC 0 rfl rfl (dOk_at dt_X9_see 17 rfl) ?_
            refine j_getR hC flX9_62 (show shp 0 = (9, 12) from rfl) (Nat.lt_of_lt_of_le (Nat.le_of_ble_eq_true rfl : 0 < 152) hN) (by decide) (by decide) (fun _ _ _ => rfl) (fun hs => hs 0 10 97 rfl) (dOk_at dt_X9_see 18 rfl) ?_
            refine j_iload_n hC 1 rfl rfl (dOk_at dt_X9_see 19 rfl) ?_
            refine j_iload_n hC 2 rfl rfl (dOk_at dt_X9_see 20 rfl) ?_
            refine j_iload_n hC 3 rfl rfl (dOk_at dt_X9_see 21 rfl) ?_
            refine j_iload hC 4 rfl (dOk_at dt_X9_see 22 rfl) ?_
            refine j_callVi hC clX9_306 (fun r0 hr0 => c_X2_addSeen hN _ _ _ _ _ r0 hr0) (show shp 97 = (2, 7) from rfl) (Nat.lt_of_lt_of_le (Nat.le_of_ble_eq_true rfl : 97 < 152) hN) (by decide) rfl rfl ⟨Nat.le_of_ble_eq_true rfl, Nat.le_of_ble_eq_true rfl⟩ ⟨Nat.le_refl 0, Nat.le_refl 0⟩ (As := [.int x1, .int x2, .int x3, .int x4]) (st := []) rfl (Nat.le_of_ble_eq_true rfl) (dOk_at dt_X9_see 23 rfl) (fun v_8 h_9 _ => ?_)
            exact j_iret hC hret (dOk_at dt_X9_see 24 rfl)
          · refine j_iconst hC (v := (-1 : Int32)) rfl (dOk_at dt_X9_see 15 rfl) ?_
            exact j_iret hC hret (dOk_at dt_X9_see 16 rfl)
def tb_X9_strike : List (Nat × Instr × Nat) := [(0, .aload_n 0, 1), (1, .getfield 62, 3), (4, .iload_n 1, 1), (5, .invokevirtual 310, 3), (8, .ireturn, 1)]
theorem dt_X9_strike : dOk cX9_strike tb_X9_strike = true := by decide +kernel
def fX9_strike (h : Hp) (x1 : Int32) : Option (Int32 × Hp) := bnd (fX2_addStrike h x1) (fun v_1 h_2 => some (v_1, h_2))
set_option maxRecDepth 100000 in
set_option maxHeartbeats 4000000 in
theorem c_X9_strike {l : Launch} {sb : State} {D : va_G} {ids : Nat → ClassId} {n : Nat} (hN : 152 ≤ n) (h : Hp) (x1 : Int32) (r : Int32 × Hp) (hr : fX9_strike h x1 = some r) : jM l yX9_strike cX9_strike 2 (some .int) 1 sb D ids shp St n [.ref 0, .int x1] h (jQi sb D ids shp St n r) := by
  refine jM_of hr rfl (Nat.le_of_ble_eq_true rfl) ?_
  intro p e s m args below meth c hC hret
  unfold fX9_strike
  refine j_aload_n hC 0 rfl rfl (dOk_at dt_X9_strike 0 rfl) ?_
  refine j_getR hC flX9_62 (show shp 0 = (9, 12) from rfl) (Nat.lt_of_lt_of_le (Nat.le_of_ble_eq_true rfl : 0 < 152) hN) (by decide) (by decide) (fun _ _ _ => rfl) (fun hs => hs 0 10 97 rfl) (dOk_at dt_X9_strike 1 rfl) ?_
  refine j_iload_n hC 1 rfl rfl (dOk_at dt_X9_strike 2 rfl) ?_
  refine j_callVi hC clX9_310 (fun r0 hr0 => c_X2_addStrike hN _ _ r0 hr0) (show shp 97 = (2, 7) from rfl) (Nat.lt_of_lt_of_le (Nat.le_of_ble_eq_true rfl : 97 < 152) hN) (by decide) rfl rfl ⟨Nat.le_of_ble_eq_true rfl, Nat.le_of_ble_eq_true rfl⟩ ⟨Nat.le_refl 0, Nat.le_refl 0⟩ (As := [.int x1]) (st := []) rfl (Nat.le_of_ble_eq_true rfl) (dOk_at dt_X9_strike 3 rfl) (fun v_1 h_2 _ => ?_)
  exact j_iret hC hret (dOk_at dt_X9_strike 4 rfl)
def tb_X9_known : List (Nat × Instr × Nat) := [(0, .iload_n 1, 1), (1, .iconst (-1), 1), (2, .if_icmp .lt 14, 3), (5, .iload_n 1, 1), (6, .aload_n 0, 1), (7, .getfield 62, 3), (10, .getfield 313, 3), (13, .if_icmp .le 5, 3), (16, .iconst 0, 1), (17, .ireturn, 1), (18, .aload_n 0, 1), (19, .getfield 62, 3), (22, .iload_n 1, 1), (23, .putfield 316, 3), (26, .iconst 1, 1), (27, .ireturn, 1)]
theorem dt_X9_known : dOk cX9_known tb_X9_known = true := by decide +kernel
def fX9_known (h : Hp) (x1 : Int32) : Option (Int32 × Hp) := if x1 < (-1 : Int32) then (some ((0 : Int32), h)) else (if x1 ≤ (hI h 97 0) then (some ((1 : Int32), (uI h 97 1 x1))) else (some ((0 : Int32), h)))
set_option maxRecDepth 100000 in
set_option maxHeartbeats 4000000 in
theorem c_X9_known {l : Launch} {sb : State} {D : va_G} {ids : Nat → ClassId} {n : Nat} (hN : 152 ≤ n) (h : Hp) (x1 : Int32) (r : Int32 × Hp) (hr : fX9_known h x1 = some r) : jM l yX9_known cX9_known 2 (some .boolean) 0 sb D ids shp St n [.ref 0, .int x1] h (jQi sb D ids shp St n r) := by
  refine jM_of hr rfl (Nat.le_of_ble_eq_true rfl) ?_
  intro p e s m args below meth c hC hret
  unfold fX9_known
  refine j_iload_n hC 1 rfl rfl (dOk_at dt_X9_known 0 rfl) ?_
  refine j_iconst hC (v := (-1 : Int32)) rfl (dOk_at dt_X9_known 1 rfl) ?_
  refine j_icmp_lt hC (tgt := 16) (by decide) (dOk_at dt_X9_known 2 rfl) (fun q_1 => ?_) (fun q_1 => ?_)
  · refine j_iconst hC (v := (0 : Int32)) rfl (dOk_at dt_X9_known 8 rfl) ?_
    exact j_zretK hC hret rfl (dOk_at dt_X9_known 9 rfl)
  · refine j_iload_n hC 1 rfl rfl (dOk_at dt_X9_known 3 rfl) ?_
    refine j_aload_n hC 0 rfl rfl (dOk_at dt_X9_known 4 rfl) ?_
    refine j_getR hC flX9_62 (show shp 0 = (9, 12) from rfl) (Nat.lt_of_lt_of_le (Nat.le_of_ble_eq_true rfl : 0 < 152) hN) (by decide) (by decide) (fun _ _ _ => rfl) (fun hs => hs 0 10 97 rfl) (dOk_at dt_X9_known 5 rfl) ?_
    refine j_getI hC flX9_313 (show shp 97 = (2, 7) from rfl) (Nat.lt_of_lt_of_le (Nat.le_of_ble_eq_true rfl : 97 < 152) hN) (by decide) (by decide) (fun _ _ _ => rfl) (dOk_at dt_X9_known 6 rfl) ?_
    refine j_icmp_le hC (tgt := 18) (by decide) (dOk_at dt_X9_known 7 rfl) (fun q_2 => ?_) (fun q_2 => ?_)
    · refine j_aload_n hC 0 rfl rfl (dOk_at dt_X9_known 10 rfl) ?_
      refine j_getR hC flX9_62 (show shp 0 = (9, 12) from rfl) (Nat.lt_of_lt_of_le (Nat.le_of_ble_eq_true rfl : 0 < 152) hN) (by decide) (by decide) (fun _ _ _ => rfl) (fun hs => hs 0 10 97 rfl) (dOk_at dt_X9_known 11 rfl) ?_
      refine j_iload_n hC 1 rfl rfl (dOk_at dt_X9_known 12 rfl) ?_
      refine j_putI hC St_SP flX9_316 (show shp 97 = (2, 7) from rfl) (Nat.lt_of_lt_of_le (Nat.le_of_ble_eq_true rfl : 97 < 152) hN) (by decide) (by decide) rfl rfl (dOk_at dt_X9_known 13 rfl) ?_
      refine j_iconst hC (v := (1 : Int32)) rfl (dOk_at dt_X9_known 14 rfl) ?_
      exact j_zretK hC hret rfl (dOk_at dt_X9_known 15 rfl)
    · refine j_iconst hC (v := (0 : Int32)) rfl (dOk_at dt_X9_known 8 rfl) ?_
      exact j_zretK hC hret rfl (dOk_at dt_X9_known 9 rfl)
def tb_X9_heldBits : List (Nat × Instr × Nat) := [(0, .aload_n 0, 1), (1, .getfield 62, 3), (4, .invokevirtual 376, 3), (7, .istore_n 2, 1), (8, .aload_n 0, 1), (9, .getfield 62, 3), (12, .iload_n 2, 1), (13, .invokevirtual 379, 3), (16, .istore_n 3, 1), (17, .iconst 0, 1), (18, .istore 4, 2), (20, .iconst 0, 1), (21, .istore 5, 2), (23, .iload 5, 2), (25, .aload_n 0, 1), (26, .getfield 10, 3), (29, .getfield 106, 3), (32, .getfield 110, 3), (35, .getfield 361, 3), (38, .if_icmp .ge 98, 3), (41, .aload_n 0, 1), (42, .getfield 45, 3), (45, .aload_n 0, 1), (46, .getfield 10, 3), (49, .invokevirtual 97, 3), (52, .aload_n 0, 1), (53, .getfield 45, 3), (56, .iconst 0, 1), (57, .putfield 362, 3), (60, .aload_n 0, 1), (61, .getfield 45, 3), (64, .iload_n 1, 1), (65, .iconst 1, 1), (66, .iload 5, 2), (68, .ishl, 1), (69, .invokevirtual 205, 3), (72, .iconst 1, 1), (73, .istore 6, 2), (75, .iconst 1, 1), (76, .istore 7, 2), (78, .iload 7, 2), (80, .iload_n 3, 1), (81, .if_icmp .gt 35, 3), (84, .iload 6, 2), (86, .ifCond .eq 30, 3), (89, .aload_n 0, 1), (90, .getfield 45, 3), (93, .invokevirtual 235, 3), (96, .aload_n 0, 1), (97, .getfield 62, 3), (100, .iload_n 2, 1), (101, .aload_n 0, 1), (102, .getfield 45, 3), (105, .invokevirtual 382, 3), (108, .istore 6, 2), (110, .iinc 7 1, 3), (113, .goto (-35), 3), (116, .iload 6, 2), (118, .ifCond .eq 12, 3), (121, .iload 4, 2), (123, .iconst 1, 1), (124, .iload 5, 2), (126, .ishl, 1), (127, .ior, 1), (128, .istore 4, 2), (130, .iinc 5 1, 3), (133, .goto (-110), 3), (136, .iload 4, 2), (138, .ireturn, 1)]
theorem dt_X9_heldBits : dOk cX9_heldBits tb_X9_heldBits = true := by decide +kernel
def fX9_heldBits_130 (rec23 : Hp → Int32 → Int32 → Int32 → Int32 → Int32 → Option (Int32 × Hp)) (h : Hp) (x1 : Int32) (x2 : Int32) (x3 : Int32) (x4 : Int32) (x5 : Int32) : Option (Int32 × Hp) := rec23 h x1 x2 x3 x4 (x5 + (1 : Int32))
def fX9_heldBits_116 (rec23 : Hp → Int32 → Int32 → Int32 → Int32 → Int32 → Option (Int32 × Hp)) (h : Hp) (x1 : Int32) (x2 : Int32) (x3 : Int32) (x4 : Int32) (x5 : Int32) (x6 : Int32) : Option (Int32 × Hp) := if x6 = 0 then (fX9_heldBits_130 rec23 h x1 x2 x3 x4 x5) else (fX9_heldBits_130 rec23 h x1 x2 x3 (x4 ||| ((1 : Int32) <<< (x5 &&& 31))) x5)
def fX9_heldBits_78 : Nat → (Hp → Int32 → Int32 → Int32 → Int32 → Int32 → Option (Int32 × Hp)) → Hp → Int32 → Int32 → Int32 → Int32 → Int32 → Int32 → Int32 → Option (Int32 × Hp)
  | 0, _, _, _, _, _, _, _, _, _ => none
  | fu + 1, rec23, h, x1, x2, x3, x4, x5, x6, x7 => if x3 < x7 then (fX9_heldBits_116 rec23 h x1 x2 x3 x4 x5 x6) else (if x6 = 0 then (fX9_heldBits_116 rec23 h x1 x2 x3 x4 x5 x6) else ((fX8_passNight 84 h).bind (fun h_17 => bnd (fX2_isBorneOut 84 h_17 x2) (fun v_18 h_19 => (fX9_heldBits_78 fu rec23) h_19 x1 x2 x3 x4 x5 v_18 (x7 + (1 : Int32))))))
def fX9_heldBits_23 : Nat → Hp → Int32 → Int32 → Int32 → Int32 → Int32 → Option (Int32 × Hp)
  | 0, _, _, _, _, _, _ => none
  | fu + 1, h, x1, x2, x3, x4, x5 => (dref shp h 0 3 (7, 20)).bind (fun z_5 => if (hI h (rf (rf z_5 0) 0) 2) ≤ x5 then (some (x4, h)) else ((dref shp h 0 3 (7, 20)).bind (fun z_8 => (fX8_begin 84 z_8 h).bind (fun h_11 => (fX8_setHolds 84 (uI h_11 84 10 (0 : Int32)) x1 ((1 : Int32) <<< (x5 &&& 31))).bind (fun h_13 => fX9_heldBits_78 FU (fX9_heldBits_23 fu) h_13 x1 x2 x3 x4 x5 (1 : Int32) (1 : Int32))))))
def fX9_heldBits (h : Hp) (x1 : Int32) : Option (Int32 × Hp) := bnd (fX2_knownOnes h) (fun v_1 h_2 => bnd (fX2_latestNight h_2 v_1) (fun v_3 h_4 => fX9_heldBits_23 FU h_4 x1 v_1 v_3 (0 : Int32) (0 : Int32)))
set_option maxRecDepth 100000 in
set_option maxHeartbeats 4000000 in
theorem c_X9_heldBits {l : Launch} {sb : State} {D : va_G} {ids : Nat → ClassId} {n : Nat} (hN : 152 ≤ n) (h : Hp) (x1 : Int32) (r : Int32 × Hp) (hr : fX9_heldBits h x1 = some r) : jM l yX9_heldBits cX9_heldBits 8 (some .int) 6 sb D ids shp St n [.ref 0, .int x1] h (jQi sb D ids shp St n r) := by
  refine jM_of hr rfl (Nat.le_of_ble_eq_true rfl) ?_
  intro p e s m args below meth c hC hret
  have b130 : ∀ (rec23 : Hp → Int32 → Int32 → Int32 → Int32 → Int32 → Option (Int32 × Hp)) (hrec23 : ∀ (h : Hp) (x1 : Int32) (x2 : Int32) (x3 : Int32) (x4 : Int32) (x5 : Int32) , jJ p l e (rmD 6) s m args below meth c 8 sb D ids shp St (fun r => MQ below (jQi sb D ids shp St n r) args s 0 0 (jA sb)) n 0 0 h 23 [(0, .ref 0), (1, .int x1), (2, .int x2), (3, .int x3), (4, .int x4), (5, .int x5)] [] (rec23 h x1 x2 x3 x4 x5)) (h : Hp) (x1 : Int32) (x2 : Int32) (x3 : Int32) (x4 : Int32) (x5 : Int32) , jJ p l e (rmD 6) s m args below meth c 8 sb D ids shp St (fun r => MQ below (jQi sb D ids shp St n r) args s 0 0 (jA sb)) n 0 0 h 130 [(0, .ref 0), (1, .int x1), (2, .int x2), (3, .int x3), (4, .int x4), (5, .int x5)] [] (fX9_heldBits_130 rec23 h x1 x2 x3 x4 x5) := by
    intro rec23 hrec23 h x1 x2 x3 x4 x5 
    unfold fX9_heldBits_130
    refine j_iinc hC (v := (x5 + (1 : Int32))) (lv' := [(5, .int (x5 + (1 : Int32))), (0, .ref 0), (1, .int x1), (2, .int x2), (3, .int x3), (4, .int x4)]) 5 rfl (congrArg (fun z => x5 + z) (show Int32.ofInt (1) = (1 : Int32) from by decide)) (by decide) rfl (dOk_at dt_X9_heldBits 65 rfl) ?_
    refine j_goto hC (tgt := 23) (by decide) (dOk_at dt_X9_heldBits 66 rfl) ?_
    refine j_sub [1, 2, 3, 4, 5, 0] rfl ?_
    exact hrec23 h x1 x2 x3 x4 (x5 + (1 : Int32)) 
  have b116 : ∀ (rec23 : Hp → Int32 → Int32 → Int32 → Int32 → Int32 → Option (Int32 × Hp)) (hrec23 : ∀ (h : Hp) (x1 : Int32) (x2 : Int32) (x3 : Int32) (x4 : Int32) (x5 : Int32) , jJ p l e (rmD 6) s m args below meth c 8 sb D ids shp St (fun r => MQ below (jQi sb D ids shp St n r) args s 0 0 (jA sb)) n 0 0 h 23 [(0, .ref 0), (1, .int x1), (2, .int x2), (3, .int x3), (4, .int x4), (5, .int x5)] [] (rec23 h x1 x2 x3 x4 x5)) (h : Hp) (x1 : Int32) (x2 : Int32) (x3 : Int32) (x4 : Int32) (x5 : Int32) (x6 : Int32) , jJ p l e (rmD 6) s m args below meth c 8 sb D ids shp St (fun r => MQ below (jQi sb D ids shp St n r) args s 0 0 (jA sb)) n 0 0 h 116 [(0, .ref 0), (1, .int x1), (2, .int x2), (3, .int x3), (4, .int x4), (5, .int x5), (6, .int x6)] [] (fX9_heldBits_116 rec23 h x1 x2 x3 x4 x5 x6) := by
    intro rec23 hrec23 h x1 x2 x3 x4 x5 x6 
    unfold fX9_heldBits_116
    refine j_iload hC 6 rfl (dOk_at dt_X9_heldBits 57 rfl) ?_
    refine j_if_eq hC (tgt := 130) (by decide) (dOk_at dt_X9_heldBits 58 rfl) (fun q_20 => ?_) (fun q_20 => ?_)
    · refine j_sub [0, 1, 2, 3, 4, 5] rfl ?_
      exact b130 rec23 hrec23 h x1 x2 x3 x4 x5 
    · refine j_iload hC 4 rfl (dOk_at dt_X9_heldBits 59 rfl) ?_
      refine j_iconst hC (v := (1 : Int32)) rfl (dOk_at dt_X9_heldBits 60 rfl) ?_
      refine j_iload hC 5 rfl (dOk_at dt_X9_heldBits 61 rfl) ?_
      refine j_ishl hC (dOk_at dt_X9_heldBits 62 rfl) ?_
      refine j_ior hC (dOk_at dt_X9_heldBits 63 rfl) ?_
      refine j_istore hC (lv' := [(4, .int (x4 ||| ((1 : Int32) <<< (x5 &&& 31)))), (0, .ref 0), (1, .int x1), (2, .int x2), (3, .int x3), (5, .int x5), (6, .int x6)]) (by decide) rfl (dOk_at dt_X9_heldBits 64 rfl) ?_
      refine j_sub [1, 2, 3, 4, 0, 5] rfl ?_
      exact b130 rec23 hrec23 h x1 x2 x3 (x4 ||| ((1 : Int32) <<< (x5 &&& 31))) x5 
  have b78 : ∀ (fu : Nat) (rec23 : Hp → Int32 → Int32 → Int32 → Int32 → Int32 → Option (Int32 × Hp)) (hrec23 : ∀ (h : Hp) (x1 : Int32) (x2 : Int32) (x3 : Int32) (x4 : Int32) (x5 : Int32) , jJ p l e (rmD 6) s m args below meth c 8 sb D ids shp St (fun r => MQ below (jQi sb D ids shp St n r) args s 0 0 (jA sb)) n 0 0 h 23 [(0, .ref 0), (1, .int x1), (2, .int x2), (3, .int x3), (4, .int x4), (5, .int x5)] [] (rec23 h x1 x2 x3 x4 x5)) (h : Hp) (x1 : Int32) (x2 : Int32) (x3 : Int32) (x4 : Int32) (x5 : Int32) (x6 : Int32) (x7 : Int32) , jJ p l e (rmD 6) s m args below meth c 8 sb D ids shp St (fun r => MQ below (jQi sb D ids shp St n r) args s 0 0 (jA sb)) n 0 0 h 78 [(0, .ref 0), (1, .int x1), (2, .int x2), (3, .int x3), (4, .int x4), (5, .int x5), (6, .int x6), (7, .int x7)] [] (fX9_heldBits_78 fu rec23 h x1 x2 x3 x4 x5 x6 x7) := by
    intro fu rec23 hrec23
    induction fu with
    | zero => intro h x1 x2 x3 x4 x5 x6 x7 ; exact j_none
    | succ fu ih =>
    intro h x1 x2 x3 x4 x5 x6 x7 
    rw [fX9_heldBits_78]
    refine j_iload hC 7 rfl (dOk_at dt_X9_heldBits 40 rfl) ?_
    refine j_iload_n hC 3 rfl rfl (dOk_at dt_X9_heldBits 41 rfl) ?_
    refine j_icmp_gt hC (tgt := 116) (by decide) (dOk_at dt_X9_heldBits 42 rfl) (fun q_14 => ?_) (fun q_14 => ?_)
    · refine j_sub [0, 1, 2, 3, 4, 5, 6] rfl ?_
      exact b116 rec23 hrec23 h x1 x2 x3 x4 x5 x6 
    · refine j_iload hC 6 rfl (dOk_at dt_X9_heldBits 43 rfl) ?_
      refine j_if_eq hC (tgt := 116) (by decide) (dOk_at dt_X9_heldBits 44 rfl) (fun q_15 => ?_) (fun q_15 => ?_)
      · refine j_sub [0, 1, 2, 3, 4, 5, 6] rfl ?_
        exact b116 rec23 hrec23 h x1 x2 x3 x4 x5 x6 
      · refine j_aload_n hC 0 rfl rfl (dOk_at dt_X9_heldBits 45 rfl) ?_
        refine j_getR hC flX9_45 (show shp 0 = (9, 12) from rfl) (Nat.lt_of_lt_of_le (Nat.le_of_ble_eq_true rfl : 0 < 152) hN) (by decide) (by decide) (fun _ _ _ => rfl) (fun hs => hs 0 7 84 rfl) (dOk_at dt_X9_heldBits 46 rfl) ?_
        refine j_callVv hC clX9_235 (fun r0 hr0 => c_X8_passNight hN ((show shp 84 = (8, 15) from rfl)) _ r0 hr0) (show shp 84 = (8, 15) from rfl) (Nat.lt_of_lt_of_le (Nat.le_of_ble_eq_true rfl : 84 < 152) hN) (by decide) rfl rfl ⟨Nat.le_of_ble_eq_true rfl, Nat.le_of_ble_eq_true rfl⟩ ⟨Nat.le_refl 0, Nat.le_refl 0⟩ (As := []) (st := []) rfl (Nat.le_of_ble_eq_true rfl) (dOk_at dt_X9_heldBits 47 rfl) (fun h_17 _ => ?_)
        refine j_aload_n hC 0 rfl rfl (dOk_at dt_X9_heldBits 48 rfl) ?_
        refine j_getR hC flX9_62 (show shp 0 = (9, 12) from rfl) (Nat.lt_of_lt_of_le (Nat.le_of_ble_eq_true rfl : 0 < 152) hN) (by decide) (by decide) (fun _ _ _ => rfl) (fun hs => hs 0 10 97 rfl) (dOk_at dt_X9_heldBits 49 rfl) ?_
        refine j_iload_n hC 2 rfl rfl (dOk_at dt_X9_heldBits 50 rfl) ?_
        refine j_aload_n hC 0 rfl rfl (dOk_at dt_X9_heldBits 51 rfl) ?_
        refine j_getR hC flX9_45 (show shp 0 = (9, 12) from rfl) (Nat.lt_of_lt_of_le (Nat.le_of_ble_eq_true rfl : 0 < 152) hN) (by decide) (by decide) (fun _ _ _ => rfl) (fun hs => hs 0 7 84 rfl) (dOk_at dt_X9_heldBits 52 rfl) ?_
        refine j_callVi hC clX9_382 (fun r0 hr0 => c_X2_isBorneOut hN ((show shp 84 = (8, 15) from rfl)) _ _ r0 hr0) (show shp 97 = (2, 7) from rfl) (Nat.lt_of_lt_of_le (Nat.le_of_ble_eq_true rfl : 97 < 152) hN) (by decide) rfl rfl ⟨Nat.le_of_ble_eq_true rfl, Nat.le_of_ble_eq_true rfl⟩ ⟨Nat.le_refl 0, Nat.le_refl 0⟩ (As := [.int x2, .ref 84]) (st := []) rfl (Nat.le_of_ble_eq_true rfl) (dOk_at dt_X9_heldBits 53 rfl) (fun v_18 h_19 _ => ?_)
        refine j_istore hC (lv' := [(6, .int v_18), (0, .ref 0), (1, .int x1), (2, .int x2), (3, .int x3), (4, .int x4), (5, .int x5), (7, .int x7)]) (by decide) rfl (dOk_at dt_X9_heldBits 54 rfl) ?_
        refine j_iinc hC (v := (x7 + (1 : Int32))) (lv' := [(7, .int (x7 + (1 : Int32))), (6, .int v_18), (0, .ref 0), (1, .int x1), (2, .int x2), (3, .int x3), (4, .int x4), (5, .int x5)]) 7 rfl (congrArg (fun z => x7 + z) (show Int32.ofInt (1) = (1 : Int32) from by decide)) (by decide) rfl (dOk_at dt_X9_heldBits 55 rfl) ?_
        refine j_goto hC (tgt := 78) (by decide) (dOk_at dt_X9_heldBits 56 rfl) ?_
        refine j_sub [2, 3, 4, 5, 6, 7, 1, 0] rfl ?_
        exact ih h_19 x1 x2 x3 x4 x5 v_18 (x7 + (1 : Int32)) 
  have b23 : ∀ (fu : Nat) (h : Hp) (x1 : Int32) (x2 : Int32) (x3 : Int32) (x4 : Int32) (x5 : Int32) , jJ p l e (rmD 6) s m args below meth c 8 sb D ids shp St (fun r => MQ below (jQi sb D ids shp St n r) args s 0 0 (jA sb)) n 0 0 h 23 [(0, .ref 0), (1, .int x1), (2, .int x2), (3, .int x3), (4, .int x4), (5, .int x5)] [] (fX9_heldBits_23 fu h x1 x2 x3 x4 x5) := by
    intro fu 
    induction fu with
    | zero => intro h x1 x2 x3 x4 x5 ; exact j_none
    | succ fu ih =>
    intro h x1 x2 x3 x4 x5 
    rw [fX9_heldBits_23]
    refine j_iload hC 5 rfl (dOk_at dt_X9_heldBits 13 rfl) ?_
    refine j_aload_n hC 0 rfl rfl (dOk_at dt_X9_heldBits 14 rfl) ?_
    refine j_getD (q := (7, 20)) hC flX9_10 (show shp 0 = (9, 12) from rfl) (Nat.lt_of_lt_of_le (Nat.le_of_ble_eq_true rfl : 0 < 152) hN) (by decide) (by decide) (fun _ _ _ => rfl) (dOk_at dt_X9_heldBits 15 rfl) (fun z_5 _ g_6 => ?_)
    refine j_getR hC flX9_106 g_6 (jlt hN g_6 (by decide)) (by decide) (by decide) (fun _ _ _ => rfl) (fun hs => hs _ _ _ (sf_7_0 g_6).1) (dOk_at dt_X9_heldBits 16 rfl) ?_
    refine j_getR hC flX9_110 (sf_7_0 g_6).2.1 (Nat.lt_of_lt_of_le (sf_7_0 g_6).2.2 hN) (by decide) (by decide) (fun _ _ _ => rfl) (fun hs => hs _ _ _ (sf_0_0 (sf_7_0 g_6).2.1).1) (dOk_at dt_X9_heldBits 17 rfl) ?_
    refine j_getI hC flX9_361 (sf_0_0 (sf_7_0 g_6).2.1).2.1 (Nat.lt_of_lt_of_le (sf_0_0 (sf_7_0 g_6).2.1).2.2 hN) (by decide) (by decide) (fun _ _ _ => rfl) (dOk_at dt_X9_heldBits 18 rfl) ?_
    refine j_icmp_ge hC (tgt := 136) (by decide) (dOk_at dt_X9_heldBits 19 rfl) (fun q_7 => ?_) (fun q_7 => ?_)
    · refine j_iload hC 4 rfl (dOk_at dt_X9_heldBits 67 rfl) ?_
      exact j_iret hC hret (dOk_at dt_X9_heldBits 68 rfl)
    · refine j_aload_n hC 0 rfl rfl (dOk_at dt_X9_heldBits 20 rfl) ?_
      refine j_getR hC flX9_45 (show shp 0 = (9, 12) from rfl) (Nat.lt_of_lt_of_le (Nat.le_of_ble_eq_true rfl : 0 < 152) hN) (by decide) (by decide) (fun _ _ _ => rfl) (fun hs => hs 0 7 84 rfl) (dOk_at dt_X9_heldBits 21 rfl) ?_
      refine j_aload_n hC 0 rfl rfl (dOk_at dt_X9_heldBits 22 rfl) ?_
      refine j_getD (q := (7, 20)) hC flX9_10 (show shp 0 = (9, 12) from rfl) (Nat.lt_of_lt_of_le (Nat.le_of_ble_eq_true rfl : 0 < 152) hN) (by decide) (by decide) (fun _ _ _ => rfl) (dOk_at dt_X9_heldBits 23 rfl) (fun z_8 _ g_9 => ?_)
      refine j_callVv hC clX9_97 (fun r0 hr0 => c_X8_begin hN ((show shp 84 = (8, 15) from rfl)) (g_9) _ r0 hr0) (show shp 84 = (8, 15) from rfl) (Nat.lt_of_lt_of_le (Nat.le_of_ble_eq_true rfl : 84 < 152) hN) (by decide) rfl rfl ⟨Nat.le_of_ble_eq_true rfl, Nat.le_of_ble_eq_true rfl⟩ ⟨Nat.le_refl 0, Nat.le_refl 0⟩ (As := [.ref z_8]) (st := []) rfl (Nat.le_of_ble_eq_true rfl) (dOk_at dt_X9_heldBits 24 rfl) (fun h_11 _ => ?_)
      refine j_aload_n hC 0 rfl rfl (dOk_at dt_X9_heldBits 25 rfl) ?_
      refine j_getR hC flX9_45 (show shp 0 = (9, 12) from rfl) (Nat.lt_of_lt_of_le (Nat.le_of_ble_eq_true rfl : 0 < 152) hN) (by decide) (by decide) (fun _ _ _ => rfl) (fun hs => hs 0 7 84 rfl) (dOk_at dt_X9_heldBits 26 rfl) ?_
      refine j_iconst hC (v := (0 : Int32)) rfl (dOk_at dt_X9_heldBits 27 rfl) ?_
      refine j_putZ hC St_SP flX9_362 (show shp 84 = (8, 15) from rfl) (Nat.lt_of_lt_of_le (Nat.le_of_ble_eq_true rfl : 84 < 152) hN) (by decide) (by decide) rfl rfl rfl (dOk_at dt_X9_heldBits 28 rfl) ?_
      refine j_aload_n hC 0 rfl rfl (dOk_at dt_X9_heldBits 29 rfl) ?_
      refine j_getR hC flX9_45 (show shp 0 = (9, 12) from rfl) (Nat.lt_of_lt_of_le (Nat.le_of_ble_eq_true rfl : 0 < 152) hN) (by decide) (by decide) (fun _ _ _ => rfl) (fun hs => hs 0 7 84 rfl) (dOk_at dt_X9_heldBits 30 rfl) ?_
      refine j_iload_n hC 1 rfl rfl (dOk_at dt_X9_heldBits 31 rfl) ?_
      refine j_iconst hC (v := (1 : Int32)) rfl (dOk_at dt_X9_heldBits 32 rfl) ?_
      refine j_iload hC 5 rfl (dOk_at dt_X9_heldBits 33 rfl) ?_
      refine j_ishl hC (dOk_at dt_X9_heldBits 34 rfl) ?_
      refine j_callVv hC clX9_205 (fun r0 hr0 => c_X8_setHolds hN ((show shp 84 = (8, 15) from rfl)) _ _ _ r0 hr0) (show shp 84 = (8, 15) from rfl) (Nat.lt_of_lt_of_le (Nat.le_of_ble_eq_true rfl : 84 < 152) hN) (by decide) rfl rfl ⟨Nat.le_of_ble_eq_true rfl, Nat.le_of_ble_eq_true rfl⟩ ⟨Nat.le_refl 0, Nat.le_refl 0⟩ (As := [.int x1, .int ((1 : Int32) <<< (x5 &&& 31))]) (st := []) rfl (Nat.le_of_ble_eq_true rfl) (dOk_at dt_X9_heldBits 35 rfl) (fun h_13 _ => ?_)
      refine j_iconst hC (v := (1 : Int32)) rfl (dOk_at dt_X9_heldBits 36 rfl) ?_
      refine j_istore hC (lv' := [(6, .int (1 : Int32)), (0, .ref 0), (1, .int x1), (2, .int x2), (3, .int x3), (4, .int x4), (5, .int x5)]) (by decide) rfl (dOk_at dt_X9_heldBits 37 rfl) ?_
      refine j_iconst hC (v := (1 : Int32)) rfl (dOk_at dt_X9_heldBits 38 rfl) ?_
      refine j_istore hC (lv' := [(7, .int (1 : Int32)), (6, .int (1 : Int32)), (0, .ref 0), (1, .int x1), (2, .int x2), (3, .int x3), (4, .int x4), (5, .int x5)]) (by decide) rfl (dOk_at dt_X9_heldBits 39 rfl) ?_
      refine j_sub [2, 3, 4, 5, 6, 7, 1, 0] rfl ?_
      exact b78 FU (fX9_heldBits_23 fu) ih h_13 x1 x2 x3 x4 x5 (1 : Int32) (1 : Int32) 
  unfold fX9_heldBits
  refine j_aload_n hC 0 rfl rfl (dOk_at dt_X9_heldBits 0 rfl) ?_
  refine j_getR hC flX9_62 (show shp 0 = (9, 12) from rfl) (Nat.lt_of_lt_of_le (Nat.le_of_ble_eq_true rfl : 0 < 152) hN) (by decide) (by decide) (fun _ _ _ => rfl) (fun hs => hs 0 10 97 rfl) (dOk_at dt_X9_heldBits 1 rfl) ?_
  refine j_callVi hC clX9_376 (fun r0 hr0 => c_X2_knownOnes hN _ r0 hr0) (show shp 97 = (2, 7) from rfl) (Nat.lt_of_lt_of_le (Nat.le_of_ble_eq_true rfl : 97 < 152) hN) (by decide) rfl rfl ⟨Nat.le_of_ble_eq_true rfl, Nat.le_of_ble_eq_true rfl⟩ ⟨Nat.le_refl 0, Nat.le_refl 0⟩ (As := []) (st := []) rfl (Nat.le_of_ble_eq_true rfl) (dOk_at dt_X9_heldBits 2 rfl) (fun v_1 h_2 _ => ?_)
  refine j_istore_n hC rfl (lv' := [(2, .int v_1), (0, .ref 0), (1, .int x1)]) (by decide) rfl (dOk_at dt_X9_heldBits 3 rfl) ?_
  refine j_aload_n hC 1 rfl rfl (dOk_at dt_X9_heldBits 4 rfl) ?_
  refine j_getR hC flX9_62 (show shp 0 = (9, 12) from rfl) (Nat.lt_of_lt_of_le (Nat.le_of_ble_eq_true rfl : 0 < 152) hN) (by decide) (by decide) (fun _ _ _ => rfl) (fun hs => hs 0 10 97 rfl) (dOk_at dt_X9_heldBits 5 rfl) ?_
  refine j_iload_n hC 0 rfl rfl (dOk_at dt_X9_heldBits 6 rfl) ?_
  refine j_callVi hC clX9_379 (fun r0 hr0 => c_X2_latestNight hN _ _ r0 hr0) (show shp 97 = (2, 7) from rfl) (Nat.lt_of_lt_of_le (Nat.le_of_ble_eq_true rfl : 97 < 152) hN) (by decide) rfl rfl ⟨Nat.le_of_ble_eq_true rfl, Nat.le_of_ble_eq_true rfl⟩ ⟨Nat.le_refl 0, Nat.le_refl 0⟩ (As := [.int v_1]) (st := []) rfl (Nat.le_of_ble_eq_true rfl) (dOk_at dt_X9_heldBits 7 rfl) (fun v_3 h_4 _ => ?_)
  refine j_istore_n hC rfl (lv' := [(3, .int v_3), (2, .int v_1), (0, .ref 0), (1, .int x1)]) (by decide) rfl (dOk_at dt_X9_heldBits 8 rfl) ?_
  refine j_iconst hC (v := (0 : Int32)) rfl (dOk_at dt_X9_heldBits 9 rfl) ?_
  refine j_istore hC (lv' := [(4, .int (0 : Int32)), (3, .int v_3), (2, .int v_1), (0, .ref 0), (1, .int x1)]) (by decide) rfl (dOk_at dt_X9_heldBits 10 rfl) ?_
  refine j_iconst hC (v := (0 : Int32)) rfl (dOk_at dt_X9_heldBits 11 rfl) ?_
  refine j_istore hC (lv' := [(5, .int (0 : Int32)), (4, .int (0 : Int32)), (3, .int v_3), (2, .int v_1), (0, .ref 0), (1, .int x1)]) (by decide) rfl (dOk_at dt_X9_heldBits 12 rfl) ?_
  refine j_sub [4, 5, 3, 2, 1, 0] rfl ?_
  exact b23 FU h_4 x1 v_1 v_3 (0 : Int32) (0 : Int32) 
def tb_X9_held : List (Nat × Instr × Nat) := [(0, .aload_n 0, 1), (1, .iload_n 1, 1), (2, .invokevirtual 168, 3), (5, .ifCond .eq 11, 3), (8, .aload_n 0, 1), (9, .iload_n 1, 1), (10, .invokevirtual 319, 3), (13, .goto 4, 3), (16, .iconst (-1), 1), (17, .ireturn, 1)]
theorem dt_X9_held : dOk cX9_held tb_X9_held = true := by decide +kernel
def fX9_held (h : Hp) (x1 : Int32) : Option (Int32 × Hp) := bnd (fX9_isMember h x1) (fun v_1 h_2 => if v_1 = 0 then (some ((-1 : Int32), h_2)) else (bnd (fX9_heldBits h_2 x1) (fun v_4 h_5 => some (v_4, h_5))))
set_option maxRecDepth 100000 in
set_option maxHeartbeats 4000000 in
theorem c_X9_held {l : Launch} {sb : State} {D : va_G} {ids : Nat → ClassId} {n : Nat} (hN : 152 ≤ n) (h : Hp) (x1 : Int32) (r : Int32 × Hp) (hr : fX9_held h x1 = some r) : jM l yX9_held cX9_held 2 (some .int) 7 sb D ids shp St n [.ref 0, .int x1] h (jQi sb D ids shp St n r) := by
  refine jM_of hr rfl (Nat.le_of_ble_eq_true rfl) ?_
  intro p e s m args below meth c hC hret
  unfold fX9_held
  refine j_aload_n hC 0 rfl rfl (dOk_at dt_X9_held 0 rfl) ?_
  refine j_iload_n hC 1 rfl rfl (dOk_at dt_X9_held 1 rfl) ?_
  refine j_callVi hC clX9_168 (fun r0 hr0 => c_X9_isMember hN _ _ r0 hr0) (show shp 0 = (9, 12) from rfl) (Nat.lt_of_lt_of_le (Nat.le_of_ble_eq_true rfl : 0 < 152) hN) (by decide) rfl rfl ⟨Nat.le_of_ble_eq_true rfl, Nat.le_of_ble_eq_true rfl⟩ ⟨Nat.le_refl 0, Nat.le_refl 0⟩ (As := [.int x1]) (st := []) rfl (Nat.le_of_ble_eq_true rfl) (dOk_at dt_X9_held 2 rfl) (fun v_1 h_2 _ => ?_)
  refine j_if_eq hC (tgt := 16) (by decide) (dOk_at dt_X9_held 3 rfl) (fun q_3 => ?_) (fun q_3 => ?_)
  · refine j_iconst hC (v := (-1 : Int32)) rfl (dOk_at dt_X9_held 8 rfl) ?_
    exact j_iret hC hret (dOk_at dt_X9_held 9 rfl)
  · refine j_aload_n hC 0 rfl rfl (dOk_at dt_X9_held 4 rfl) ?_
    refine j_iload_n hC 1 rfl rfl (dOk_at dt_X9_held 5 rfl) ?_
    refine j_callVi hC clX9_319 (fun r0 hr0 => c_X9_heldBits hN _ _ r0 hr0) (show shp 0 = (9, 12) from rfl) (Nat.lt_of_lt_of_le (Nat.le_of_ble_eq_true rfl : 0 < 152) hN) (by decide) rfl rfl ⟨Nat.le_of_ble_eq_true rfl, Nat.le_of_ble_eq_true rfl⟩ ⟨Nat.le_refl 0, Nat.le_refl 0⟩ (As := [.int x1]) (st := []) rfl (Nat.le_of_ble_eq_true rfl) (dOk_at dt_X9_held 6 rfl) (fun v_4 h_5 _ => ?_)
    refine j_goto hC (tgt := 17) (by decide) (dOk_at dt_X9_held 7 rfl) ?_
    exact j_iret hC hret (dOk_at dt_X9_held 9 rfl)
def tb_X9_ask : List (Nat × Instr × Nat) := [(0, .aload_n 0, 1), (1, .iload_n 1, 1), (2, .invokevirtual 168, 3), (5, .ifCond .eq 12, 3), (8, .iload_n 2, 1), (9, .ifCond .lt 8, 3), (12, .iload_n 2, 1), (13, .iconst 1, 1), (14, .if_icmp .le 5, 3), (17, .iconst (-1), 1), (18, .ireturn, 1), (19, .aload_n 0, 1), (20, .iload_n 1, 1), (21, .invokevirtual 319, 3), (24, .istore_n 3, 1), (25, .iload_n 3, 1), (26, .invokestatic 208, 3), (29, .istore 4, 2), (31, .iconst 0, 1), (32, .istore 5, 2), (34, .iload 4, 2), (36, .istore 6, 2), (38, .iconst 0, 1), (39, .istore 7, 2), (41, .iload 7, 2), (43, .bipush 99, 2), (45, .if_icmp .gt 51, 3), (48, .aload_n 0, 1), (49, .getfield 10, 3), (52, .getfield 106, 3), (55, .iload_n 3, 1), (56, .iload 7, 2), (58, .invokevirtual 322, 3), (61, .istore 8, 2), (63, .iload 8, 2), (65, .iload 4, 2), (67, .iload 8, 2), (69, .isub, 1), (70, .invokestatic 325, 3), (73, .istore 9, 2), (75, .iload 9, 2), (77, .iload 6, 2), (79, .if_icmp .ge 11, 3), (82, .iload 9, 2), (84, .istore 6, 2), (86, .iload 7, 2), (88, .istore 5, 2), (90, .iinc 7 1, 3), (93, .goto (-52), 3), (96, .iload_n 2, 1), (97, .ifCond .ne 8, 3), (100, .iload 5, 2), (102, .goto 5, 3), (105, .iload 6, 2), (107, .ireturn, 1)]
theorem dt_X9_ask : dOk cX9_ask tb_X9_ask = true := by decide +kernel
def fX9_ask_90 (rec41 : Hp → Int32 → Int32 → Int32 → Int32 → Int32 → Int32 → Option (Int32 × Hp)) (h : Hp) (x2 : Int32) (x3 : Int32) (x4 : Int32) (x5 : Int32) (x6 : Int32) (x7 : Int32) : Option (Int32 × Hp) := rec41 h x2 x3 x4 x5 x6 (x7 + (1 : Int32))
def fX9_ask_41 : Nat → Hp → Int32 → Int32 → Int32 → Int32 → Int32 → Int32 → Option (Int32 × Hp)
  | 0, _, _, _, _, _, _, _ => none
  | fu + 1, h, x2, x3, x4, x5, x6, x7 => if (99 : Int32) < x7 then (if x2 = 0 then (some (x5, h)) else (some (x6, h))) else ((dref shp h 0 3 (7, 20)).bind (fun z_12 => bnd (fX0_countHeavy (rf z_12 0) h x3 x7) (fun v_14 h_15 => if x6 ≤ (if v_14 < (x4 - v_14) then (x4 - v_14) else v_14) then (fX9_ask_90 (fX9_ask_41 fu) h_15 x2 x3 x4 x5 x6 x7) else (fX9_ask_90 (fX9_ask_41 fu) h_15 x2 x3 x4 x7 (if v_14 < (x4 - v_14) then (x4 - v_14) else v_14) x7))))
def fX9_ask (h : Hp) (x1 : Int32) (x2 : Int32) : Option (Int32 × Hp) := bnd (fX9_isMember h x1) (fun v_1 h_2 => if v_1 = 0 then (some ((-1 : Int32), h_2)) else (if x2 < 0 then (some ((-1 : Int32), h_2)) else (if x2 ≤ (1 : Int32) then (bnd (fX9_heldBits h_2 x1) (fun v_6 h_7 => bnd (fJ6_bitCount_0f7a4 h_7 v_6) (fun v_8 h_9 => fX9_ask_41 FU h_9 x2 v_6 v_8 (0 : Int32) v_8 (0 : Int32)))) else (some ((-1 : Int32), h_2)))))
set_option maxRecDepth 100000 in
set_option maxHeartbeats 4000000 in
theorem c_X9_ask {l : Launch} {sb : State} {D : va_G} {ids : Nat → ClassId} {n : Nat} (hN : 152 ≤ n) (h : Hp) (x1 : Int32) (x2 : Int32) (r : Int32 × Hp) (hr : fX9_ask h x1 x2 = some r) : jM l yX9_ask cX9_ask 10 (some .int) 7 sb D ids shp St n [.ref 0, .int x1, .int x2] h (jQi sb D ids shp St n r) := by
  refine jM_of hr rfl (Nat.le_of_ble_eq_true rfl) ?_
  intro p e s m args below meth c hC hret
  have b90 : ∀ (rec41 : Hp → Int32 → Int32 → Int32 → Int32 → Int32 → Int32 → Option (Int32 × Hp)) (hrec41 : ∀ (h : Hp) (x2 : Int32) (x3 : Int32) (x4 : Int32) (x5 : Int32) (x6 : Int32) (x7 : Int32) , jJ p l e (rmD 7) s m args below meth c 10 sb D ids shp St (fun r => MQ below (jQi sb D ids shp St n r) args s 0 0 (jA sb)) n 0 0 h 41 [(0, .ref 0), (2, .int x2), (3, .int x3), (4, .int x4), (5, .int x5), (6, .int x6), (7, .int x7)] [] (rec41 h x2 x3 x4 x5 x6 x7)) (h : Hp) (x2 : Int32) (x3 : Int32) (x4 : Int32) (x5 : Int32) (x6 : Int32) (x7 : Int32) , jJ p l e (rmD 7) s m args below meth c 10 sb D ids shp St (fun r => MQ below (jQi sb D ids shp St n r) args s 0 0 (jA sb)) n 0 0 h 90 [(0, .ref 0), (2, .int x2), (3, .int x3), (4, .int x4), (5, .int x5), (6, .int x6), (7, .int x7)] [] (fX9_ask_90 rec41 h x2 x3 x4 x5 x6 x7) := by
    intro rec41 hrec41 h x2 x3 x4 x5 x6 x7 
    unfold fX9_ask_90
    refine j_iinc hC (v := (x7 + (1 : Int32))) (lv' := [(7, .int (x7 + (1 : Int32))), (0, .ref 0), (2, .int x2), (3, .int x3), (4, .int x4), (5, .int x5), (6, .int x6)]) 6 rfl (congrArg (fun z => x7 + z) (show Int32.ofInt (1) = (1 : Int32) from by decide)) (by decide) rfl (dOk_at dt_X9_ask 47 rfl) ?_
    refine j_goto hC (tgt := 41) (by decide) (dOk_at dt_X9_ask 48 rfl) ?_
    refine j_sub [1, 2, 3, 4, 5, 6, 0] rfl ?_
    exact hrec41 h x2 x3 x4 x5 x6 (x7 + (1 : Int32)) 
  have b41 : ∀ (fu : Nat) (h : Hp) (x2 : Int32) (x3 : Int32) (x4 : Int32) (x5 : Int32) (x6 : Int32) (x7 : Int32) , jJ p l e (rmD 7) s m args below meth c 10 sb D ids shp St (fun r => MQ below (jQi sb D ids shp St n r) args s 0 0 (jA sb)) n 0 0 h 41 [(0, .ref 0), (2, .int x2), (3, .int x3), (4, .int x4), (5, .int x5), (6, .int x6), (7, .int x7)] [] (fX9_ask_41 fu h x2 x3 x4 x5 x6 x7) := by
    intro fu 
    induction fu with
    | zero => intro h x2 x3 x4 x5 x6 x7 ; exact j_none
    | succ fu ih =>
    intro h x2 x3 x4 x5 x6 x7 
    rw [fX9_ask_41]
    refine j_iload hC 6 rfl (dOk_at dt_X9_ask 24 rfl) ?_
    refine j_bipush hC (v := (99 : Int32)) rfl (dOk_at dt_X9_ask 25 rfl) ?_
    refine j_icmp_gt hC (tgt := 96) (by decide) (dOk_at dt_X9_ask 26 rfl) (fun q_10 => ?_) (fun q_10 => ?_)
    · refine j_iload_n hC 1 rfl rfl (dOk_at dt_X9_ask 49 rfl) ?_
      refine j_if_ne hC (tgt := 105) (by decide) (dOk_at dt_X9_ask 50 rfl) (fun q_11 => ?_) (fun q_11 => ?_)
      · refine j_iload hC 5 rfl (dOk_at dt_X9_ask 53 rfl) ?_
        exact j_iret hC hret (dOk_at dt_X9_ask 54 rfl)
      · refine j_iload hC 4 rfl (dOk_at dt_X9_ask 51 rfl) ?_
        refine j_goto hC (tgt := 107) (by decide) (dOk_at dt_X9_ask 52 rfl) ?_
        exact j_iret hC hret (dOk_at dt_X9_ask 54 rfl)
    · refine j_aload_n hC 0 rfl rfl (dOk_at dt_X9_ask 27 rfl) ?_
      refine j_getD (q := (7, 20)) hC flX9_10 (show shp 0 = (9, 12) from rfl) (Nat.lt_of_lt_of_le (Nat.le_of_ble_eq_true rfl : 0 < 152) hN) (by decide) (by decide) (fun _ _ _ => rfl) (dOk_at dt_X9_ask 28 rfl) (fun z_12 _ g_13 => ?_)
      refine j_getR hC flX9_106 g_13 (jlt hN g_13 (by decide)) (by decide) (by decide) (fun _ _ _ => rfl) (fun hs => hs _ _ _ (sf_7_0 g_13).1) (dOk_at dt_X9_ask 29 rfl) ?_
      refine j_iload_n hC 2 rfl rfl (dOk_at dt_X9_ask 30 rfl) ?_
      refine j_iload hC 6 rfl (dOk_at dt_X9_ask 31 rfl) ?_
      refine j_callVi hC clX9_322 (fun r0 hr0 => c_X0_countHeavy hN ((sf_7_0 g_13).2.1) _ _ _ r0 hr0) (sf_7_0 g_13).2.1 (Nat.lt_of_lt_of_le (sf_7_0 g_13).2.2 hN) (by decide) rfl rfl ⟨Nat.le_of_ble_eq_true rfl, Nat.le_of_ble_eq_true rfl⟩ ⟨Nat.le_refl 0, Nat.le_refl 0⟩ (As := [.int x3, .int x7]) (st := []) rfl (Nat.le_of_ble_eq_true rfl) (dOk_at dt_X9_ask 32 rfl) (fun v_14 h_15 _ => ?_)
      refine j_istore hC (lv' := [(8, .int v_14), (0, .ref 0), (2, .int x2), (3, .int x3), (4, .int x4), (5, .int x5), (6, .int x6), (7, .int x7)]) (by decide) rfl (dOk_at dt_X9_ask 33 rfl) ?_
      refine j_iload hC 0 rfl (dOk_at dt_X9_ask 34 rfl) ?_
      refine j_iload hC 4 rfl (dOk_at dt_X9_ask 35 rfl) ?_
      refine j_iload hC 0 rfl (dOk_at dt_X9_ask 36 rfl) ?_
      refine j_isub hC (dOk_at dt_X9_ask 37 rfl) ?_
      refine j_mmax hC mtX9_325 ⟨Nat.le_of_ble_eq_true rfl, Nat.le_of_ble_eq_true rfl⟩ ⟨Nat.le_refl 0, Nat.le_refl 0⟩ (Nat.le_of_ble_eq_true rfl) (dOk_at dt_X9_ask 38 rfl) ?_
      refine j_istore hC (lv' := [(9, .int (if v_14 < (x4 - v_14) then (x4 - v_14) else v_14)), (8, .int v_14), (0, .ref 0), (2, .int x2), (3, .int x3), (4, .int x4), (5, .int x5), (6, .int x6), (7, .int x7)]) (by decide) rfl (dOk_at dt_X9_ask 39 rfl) ?_
      refine j_iload hC 0 rfl (dOk_at dt_X9_ask 40 rfl) ?_
      refine j_iload hC 7 rfl (dOk_at dt_X9_ask 41 rfl) ?_
      refine j_icmp_ge hC (tgt := 90) (by decide) (dOk_at dt_X9_ask 42 rfl) (fun q_16 => ?_) (fun q_16 => ?_)
      · refine j_sub [2, 3, 4, 5, 6, 7, 8] rfl ?_
        exact b90 (fX9_ask_41 fu) ih h_15 x2 x3 x4 x5 x6 x7 
      · refine j_iload hC 0 rfl (dOk_at dt_X9_ask 43 rfl) ?_
        refine j_istore hC (lv' := [(6, .int (if v_14 < (x4 - v_14) then (x4 - v_14) else v_14)), (9, .int (if v_14 < (x4 - v_14) then (x4 - v_14) else v_14)), (8, .int v_14), (0, .ref 0), (2, .int x2), (3, .int x3), (4, .int x4), (5, .int x5), (7, .int x7)]) (by decide) rfl (dOk_at dt_X9_ask 44 rfl) ?_
        refine j_iload hC 8 rfl (dOk_at dt_X9_ask 45 rfl) ?_
        refine j_istore hC (lv' := [(5, .int x7), (6, .int (if v_14 < (x4 - v_14) then (x4 - v_14) else v_14)), (9, .int (if v_14 < (x4 - v_14) then (x4 - v_14) else v_14)), (8, .int v_14), (0, .ref 0), (2, .int x2), (3, .int x3), (4, .int x4), (7, .int x7)]) (by decide) rfl (dOk_at dt_X9_ask 46 rfl) ?_
        refine j_sub [4, 5, 6, 7, 0, 1, 8] rfl ?_
        exact b90 (fX9_ask_41 fu) ih h_15 x2 x3 x4 x7 (if v_14 < (x4 - v_14) then (x4 - v_14) else v_14) x7 
  unfold fX9_ask
  refine j_aload_n hC 0 rfl rfl (dOk_at dt_X9_ask 0 rfl) ?_
  refine j_iload_n hC 1 rfl rfl (dOk_at dt_X9_ask 1 rfl) ?_
  refine j_callVi hC clX9_168 (fun r0 hr0 => c_X9_isMember hN _ _ r0 hr0) (show shp 0 = (9, 12) from rfl) (Nat.lt_of_lt_of_le (Nat.le_of_ble_eq_true rfl : 0 < 152) hN) (by decide) rfl rfl ⟨Nat.le_of_ble_eq_true rfl, Nat.le_of_ble_eq_true rfl⟩ ⟨Nat.le_refl 0, Nat.le_refl 0⟩ (As := [.int x1]) (st := []) rfl (Nat.le_of_ble_eq_true rfl) (dOk_at dt_X9_ask 2 rfl) (fun v_1 h_2 _ => ?_)
  refine j_if_eq hC (tgt := 17) (by decide) (dOk_at dt_X9_ask 3 rfl) (fun q_3 => ?_) (fun q_3 => ?_)
  · refine j_iconst hC (v := (-1 : Int32)) rfl (dOk_at dt_X9_ask 9 rfl) ?_
    exact j_iret hC hret (dOk_at dt_X9_ask 10 rfl)
  · refine j_iload_n hC 2 rfl rfl (dOk_at dt_X9_ask 4 rfl) ?_
    refine j_if_lt hC (tgt := 17) (by decide) (dOk_at dt_X9_ask 5 rfl) (fun q_4 => ?_) (fun q_4 => ?_)
    · refine j_iconst hC (v := (-1 : Int32)) rfl (dOk_at dt_X9_ask 9 rfl) ?_
      exact j_iret hC hret (dOk_at dt_X9_ask 10 rfl)
    · refine j_iload_n hC 2 rfl rfl (dOk_at dt_X9_ask 6 rfl) ?_
      refine j_iconst hC (v := (1 : Int32)) rfl (dOk_at dt_X9_ask 7 rfl) ?_
      refine j_icmp_le hC (tgt := 19) (by decide) (dOk_at dt_X9_ask 8 rfl) (fun q_5 => ?_) (fun q_5 => ?_)
      · refine j_aload_n hC 0 rfl rfl (dOk_at dt_X9_ask 11 rfl) ?_
        refine j_iload_n hC 1 rfl rfl (dOk_at dt_X9_ask 12 rfl) ?_
        refine j_callVi hC clX9_319 (fun r0 hr0 => c_X9_heldBits hN _ _ r0 hr0) (show shp 0 = (9, 12) from rfl) (Nat.lt_of_lt_of_le (Nat.le_of_ble_eq_true rfl : 0 < 152) hN) (by decide) rfl rfl ⟨Nat.le_of_ble_eq_true rfl, Nat.le_of_ble_eq_true rfl⟩ ⟨Nat.le_refl 0, Nat.le_refl 0⟩ (As := [.int x1]) (st := []) rfl (Nat.le_of_ble_eq_true rfl) (dOk_at dt_X9_ask 13 rfl) (fun v_6 h_7 _ => ?_)
        refine j_istore_n hC rfl (lv' := [(3, .int v_6), (0, .ref 0), (1, .int x1), (2, .int x2)]) (by decide) rfl (dOk_at dt_X9_ask 14 rfl) ?_
        refine j_iload_n hC 0 rfl rfl (dOk_at dt_X9_ask 15 rfl) ?_
        refine j_callSi hC clX9_208 (fun r0 hr0 => c_J6_bitCount_0f7a4 hN _ _ r0 hr0) rfl ⟨Nat.le_of_ble_eq_true rfl, Nat.le_of_ble_eq_true rfl⟩ ⟨Nat.le_refl 0, Nat.le_refl 0⟩ (As := [.int v_6]) (st := []) rfl (Nat.le_of_ble_eq_true rfl) (dOk_at dt_X9_ask 16 rfl) (fun v_8 h_9 _ => ?_)
        refine j_istore hC (lv' := [(4, .int v_8), (3, .int v_6), (0, .ref 0), (1, .int x1), (2, .int x2)]) (by decide) rfl (dOk_at dt_X9_ask 17 rfl) ?_
        refine j_iconst hC (v := (0 : Int32)) rfl (dOk_at dt_X9_ask 18 rfl) ?_
        refine j_istore hC (lv' := [(5, .int (0 : Int32)), (4, .int v_8), (3, .int v_6), (0, .ref 0), (1, .int x1), (2, .int x2)]) (by decide) rfl (dOk_at dt_X9_ask 19 rfl) ?_
        refine j_iload hC 1 rfl (dOk_at dt_X9_ask 20 rfl) ?_
        refine j_istore hC (lv' := [(6, .int v_8), (5, .int (0 : Int32)), (4, .int v_8), (3, .int v_6), (0, .ref 0), (1, .int x1), (2, .int x2)]) (by decide) rfl (dOk_at dt_X9_ask 21 rfl) ?_
        refine j_iconst hC (v := (0 : Int32)) rfl (dOk_at dt_X9_ask 22 rfl) ?_
        refine j_istore hC (lv' := [(7, .int (0 : Int32)), (6, .int v_8), (5, .int (0 : Int32)), (4, .int v_8), (3, .int v_6), (0, .ref 0), (1, .int x1), (2, .int x2)]) (by decide) rfl (dOk_at dt_X9_ask 23 rfl) ?_
        refine j_sub [5, 7, 4, 3, 2, 1, 0] rfl ?_
        exact b41 FU h_9 x2 v_6 v_8 (0 : Int32) v_8 (0 : Int32) 
      · refine j_iconst hC (v := (-1 : Int32)) rfl (dOk_at dt_X9_ask 9 rfl) ?_
        exact j_iret hC hret (dOk_at dt_X9_ask 10 rfl)
def tb_X9_chance : List (Nat × Instr × Nat) := [(0, .iload_n 1, 1), (1, .ifCond .lt 22, 3), (4, .iload_n 2, 1), (5, .iconst 1, 1), (6, .if_icmp .lt 17, 3), (9, .iload_n 2, 1), (10, .bipush 99, 2), (12, .if_icmp .gt 11, 3), (15, .aload_n 0, 1), (16, .iload_n 3, 1), (17, .invokevirtual 156, 3), (20, .ifCond .ne 5, 3), (23, .iconst (-1), 1), (24, .ireturn, 1), (25, .iconst 0, 1), (26, .istore 4, 2), (28, .iload_n 1, 1), (29, .istore 5, 2), (31, .iconst 0, 1), (32, .istore 6, 2), (34, .iload 6, 2), (36, .bipush 10, 2), (38, .if_icmp .ge 60, 3), (41, .aload_n 0, 1), (42, .getfield 45, 3), (45, .aload_n 0, 1), (46, .getfield 38, 3), (49, .invokevirtual 330, 3), (52, .aload_n 0, 1), (53, .getfield 45, 3), (56, .iload 5, 2), (58, .putfield 333, 3), (61, .aload_n 0, 1), (62, .getfield 45, 3), (65, .iload_n 2, 1), (66, .invokevirtual 216, 3), (69, .aload_n 0, 1), (70, .getfield 45, 3), (73, .getfield 333, 3), (76, .istore 5, 2), (78, .aload_n 0, 1), (79, .getfield 45, 3), (82, .iload_n 3, 1), (83, .invokevirtual 165, 3), (86, .ifCond .eq 6, 3), (89, .iinc 4 1, 3), (92, .iinc 6 1, 3), (95, .goto (-61), 3), (98, .iload 4, 2), (100, .ireturn, 1)]
theorem dt_X9_chance : dOk cX9_chance tb_X9_chance = true := by decide +kernel
def fX9_chance_92 (rec34 : Hp → Int32 → Int32 → Int32 → Int32 → Int32 → Option (Int32 × Hp)) (h : Hp) (x2 : Int32) (x3 : Int32) (x4 : Int32) (x5 : Int32) (x6 : Int32) : Option (Int32 × Hp) := rec34 h x2 x3 x4 x5 (x6 + (1 : Int32))
def fX9_chance_34 : Nat → Hp → Int32 → Int32 → Int32 → Int32 → Int32 → Option (Int32 × Hp)
  | 0, _, _, _, _, _, _ => none
  | fu + 1, h, x2, x3, x4, x5, x6 => if (10 : Int32) ≤ x6 then (some (x4, h)) else ((fX8_copyFrom 84 72 h).bind (fun h_9 => (fX8_passNights 84 (uI h_9 84 4 x5) x2).bind (fun h_11 => bnd (fX8_inShed 84 h_11 x3) (fun v_12 h_13 => if v_12 = 0 then (fX9_chance_92 (fX9_chance_34 fu) h_13 x2 x3 x4 (hI h_11 84 4) x6) else (fX9_chance_92 (fX9_chance_34 fu) h_13 x2 x3 (x4 + (1 : Int32)) (hI h_11 84 4) x6)))))
def fX9_chance (h : Hp) (x1 : Int32) (x2 : Int32) (x3 : Int32) : Option (Int32 × Hp) := if x1 < 0 then (some ((-1 : Int32), h)) else (if x2 < (1 : Int32) then (some ((-1 : Int32), h)) else (if (99 : Int32) < x2 then (some ((-1 : Int32), h)) else (bnd (fX9_isStraw h x3) (fun v_4 h_5 => if v_4 = 0 then (some ((-1 : Int32), h_5)) else (fX9_chance_34 FU h_5 x2 x3 (0 : Int32) x1 (0 : Int32))))))
set_option maxRecDepth 100000 in
set_option maxHeartbeats 4000000 in
theorem c_X9_chance {l : Launch} {sb : State} {D : va_G} {ids : Nat → ClassId} {n : Nat} (hN : 152 ≤ n) (h : Hp) (x1 : Int32) (x2 : Int32) (x3 : Int32) (r : Int32 × Hp) (hr : fX9_chance h x1 x2 x3 = some r) : jM l yX9_chance cX9_chance 7 (some .int) 7 sb D ids shp St n [.ref 0, .int x1, .int x2, .int x3] h (jQi sb D ids shp St n r) := by
  refine jM_of hr rfl (Nat.le_of_ble_eq_true rfl) ?_
  intro p e s m args below meth c hC hret
  have b92 : ∀ (rec34 : Hp → Int32 → Int32 → Int32 → Int32 → Int32 → Option (Int32 × Hp)) (hrec34 : ∀ (h : Hp) (x2 : Int32) (x3 : Int32) (x4 : Int32) (x5 : Int32) (x6 : Int32) , jJ p l e (rmD 7) s m args below meth c 7 sb D ids shp St (fun r => MQ below (jQi sb D ids shp St n r) args s 0 0 (jA sb)) n 0 0 h 34 [(0, .ref 0), (2, .int x2), (3, .int x3), (4, .int x4), (5, .int x5), (6, .int x6)] [] (rec34 h x2 x3 x4 x5 x6)) (h : Hp) (x2 : Int32) (x3 : Int32) (x4 : Int32) (x5 : Int32) (x6 : Int32) , jJ p l e (rmD 7) s m args below meth c 7 sb D ids shp St (fun r => MQ below (jQi sb D ids shp St n r) args s 0 0 (jA sb)) n 0 0 h 92 [(0, .ref 0), (2, .int x2), (3, .int x3), (4, .int x4), (5, .int x5), (6, .int x6)] [] (fX9_chance_92 rec34 h x2 x3 x4 x5 x6) := by
    intro rec34 hrec34 h x2 x3 x4 x5 x6 
    unfold fX9_chance_92
    refine j_iinc hC (v := (x6 + (1 : Int32))) (lv' := [(6, .int (x6 + (1 : Int32))), (0, .ref 0), (2, .int x2), (3, .int x3), (4, .int x4), (5, .int x5)]) 5 rfl (congrArg (fun z => x6 + z) (show Int32.ofInt (1) = (1 : Int32) from by decide)) (by decide) rfl (dOk_at dt_X9_chance 46 rfl) ?_
    refine j_goto hC (tgt := 34) (by decide) (dOk_at dt_X9_chance 47 rfl) ?_
    refine j_sub [1, 2, 3, 4, 5, 0] rfl ?_
    exact hrec34 h x2 x3 x4 x5 (x6 + (1 : Int32)) 
  have b34 : ∀ (fu : Nat) (h : Hp) (x2 : Int32) (x3 : Int32) (x4 : Int32) (x5 : Int32) (x6 : Int32) , jJ p l e (rmD 7) s m args below meth c 7 sb D ids shp St (fun r => MQ below (jQi sb D ids shp St n r) args s 0 0 (jA sb)) n 0 0 h 34 [(0, .ref 0), (2, .int x2), (3, .int x3), (4, .int x4), (5, .int x5), (6, .int x6)] [] (fX9_chance_34 fu h x2 x3 x4 x5 x6) := by
    intro fu 
    induction fu with
    | zero => intro h x2 x3 x4 x5 x6 ; exact j_none
    | succ fu ih =>
    intro h x2 x3 x4 x5 x6 
    rw [fX9_chance_34]
    refine j_iload hC 5 rfl (dOk_at dt_X9_chance 20 rfl) ?_
    refine j_bipush hC (v := (10 : Int32)) rfl (dOk_at dt_X9_chance 21 rfl) ?_
    refine j_icmp_ge hC (tgt := 98) (by decide) (dOk_at dt_X9_chance 22 rfl) (fun q_7 => ?_) (fun q_7 => ?_)
    · refine j_iload hC 3 rfl (dOk_at dt_X9_chance 48 rfl) ?_
      exact j_iret hC hret (dOk_at dt_X9_chance 49 rfl)
    · refine j_aload_n hC 0 rfl rfl (dOk_at dt_X9_chance 23 rfl) ?_
      refine j_getR hC flX9_45 (show shp 0 = (9, 12) from rfl) (Nat.lt_of_lt_of_le (Nat.le_of_ble_eq_true rfl : 0 < 152) hN) (by decide) (by decide) (fun _ _ _ => rfl) (fun hs => hs 0 7 84 rfl) (dOk_at dt_X9_chance 24 rfl) ?_
      refine j_aload_n hC 0 rfl rfl (dOk_at dt_X9_chance 25 rfl) ?_
      refine j_getR hC flX9_38 (show shp 0 = (9, 12) from rfl) (Nat.lt_of_lt_of_le (Nat.le_of_ble_eq_true rfl : 0 < 152) hN) (by decide) (by decide) (fun _ _ _ => rfl) (fun hs => hs 0 5 72 rfl) (dOk_at dt_X9_chance 26 rfl) ?_
      refine j_callVv hC clX9_330 (fun r0 hr0 => c_X8_copyFrom hN ((show shp 84 = (8, 15) from rfl)) ((show shp 72 = (8, 15) from rfl)) _ r0 hr0) (show shp 84 = (8, 15) from rfl) (Nat.lt_of_lt_of_le (Nat.le_of_ble_eq_true rfl : 84 < 152) hN) (by decide) rfl rfl ⟨Nat.le_of_ble_eq_true rfl, Nat.le_of_ble_eq_true rfl⟩ ⟨Nat.le_refl 0, Nat.le_refl 0⟩ (As := [.ref 72]) (st := []) rfl (Nat.le_of_ble_eq_true rfl) (dOk_at dt_X9_chance 27 rfl) (fun h_9 _ => ?_)
      refine j_aload_n hC 0 rfl rfl (dOk_at dt_X9_chance 28 rfl) ?_
      refine j_getR hC flX9_45 (show shp 0 = (9, 12) from rfl) (Nat.lt_of_lt_of_le (Nat.le_of_ble_eq_true rfl : 0 < 152) hN) (by decide) (by decide) (fun _ _ _ => rfl) (fun hs => hs 0 7 84 rfl) (dOk_at dt_X9_chance 29 rfl) ?_
      refine j_iload hC 4 rfl (dOk_at dt_X9_chance 30 rfl) ?_
      refine j_putI hC St_SP flX9_333 (show shp 84 = (8, 15) from rfl) (Nat.lt_of_lt_of_le (Nat.le_of_ble_eq_true rfl : 84 < 152) hN) (by decide) (by decide) rfl rfl (dOk_at dt_X9_chance 31 rfl) ?_
      refine j_aload_n hC 0 rfl rfl (dOk_at dt_X9_chance 32 rfl) ?_
      refine j_getR hC flX9_45 (show shp 0 = (9, 12) from rfl) (Nat.lt_of_lt_of_le (Nat.le_of_ble_eq_true rfl : 0 < 152) hN) (by decide) (by decide) (fun _ _ _ => rfl) (fun hs => hs 0 7 84 rfl) (dOk_at dt_X9_chance 33 rfl) ?_
      refine j_iload_n hC 1 rfl rfl (dOk_at dt_X9_chance 34 rfl) ?_
      refine j_callVv hC clX9_216 (fun r0 hr0 => c_X8_passNights hN ((show shp 84 = (8, 15) from rfl)) _ _ r0 hr0) (show shp 84 = (8, 15) from rfl) (Nat.lt_of_lt_of_le (Nat.le_of_ble_eq_true rfl : 84 < 152) hN) (by decide) rfl rfl ⟨Nat.le_of_ble_eq_true rfl, Nat.le_of_ble_eq_true rfl⟩ ⟨Nat.le_refl 0, Nat.le_refl 0⟩ (As := [.int x2]) (st := []) rfl (Nat.le_of_ble_eq_true rfl) (dOk_at dt_X9_chance 35 rfl) (fun h_11 _ => ?_)
      refine j_aload_n hC 0 rfl rfl (dOk_at dt_X9_chance 36 rfl) ?_
      refine j_getR hC flX9_45 (show shp 0 = (9, 12) from rfl) (Nat.lt_of_lt_of_le (Nat.le_of_ble_eq_true rfl : 0 < 152) hN) (by decide) (by decide) (fun _ _ _ => rfl) (fun hs => hs 0 7 84 rfl) (dOk_at dt_X9_chance 37 rfl) ?_
      refine j_getI hC flX9_333 (show shp 84 = (8, 15) from rfl) (Nat.lt_of_lt_of_le (Nat.le_of_ble_eq_true rfl : 84 < 152) hN) (by decide) (by decide) (fun _ _ _ => rfl) (dOk_at dt_X9_chance 38 rfl) ?_
      refine j_istore hC (lv' := [(5, .int (hI h_11 84 4)), (0, .ref 0), (2, .int x2), (3, .int x3), (4, .int x4), (6, .int x6)]) (by decide) rfl (dOk_at dt_X9_chance 39 rfl) ?_
      refine j_aload_n hC 1 rfl rfl (dOk_at dt_X9_chance 40 rfl) ?_
      refine j_getR hC flX9_45 (show shp 0 = (9, 12) from rfl) (Nat.lt_of_lt_of_le (Nat.le_of_ble_eq_true rfl : 0 < 152) hN) (by decide) (by decide) (fun _ _ _ => rfl) (fun hs => hs 0 7 84 rfl) (dOk_at dt_X9_chance 41 rfl) ?_
      refine j_iload_n hC 3 rfl rfl (dOk_at dt_X9_chance 42 rfl) ?_
      refine j_callVi hC clX9_165 (fun r0 hr0 => c_X8_inShed hN ((show shp 84 = (8, 15) from rfl)) _ _ r0 hr0) (show shp 84 = (8, 15) from rfl) (Nat.lt_of_lt_of_le (Nat.le_of_ble_eq_true rfl : 84 < 152) hN) (by decide) rfl rfl ⟨Nat.le_of_ble_eq_true rfl, Nat.le_of_ble_eq_true rfl⟩ ⟨Nat.le_refl 0, Nat.le_refl 0⟩ (As := [.int x3]) (st := []) rfl (Nat.le_of_ble_eq_true rfl) (dOk_at dt_X9_chance 43 rfl) (fun v_12 h_13 _ => ?_)
      refine j_if_eq hC (tgt := 92) (by decide) (dOk_at dt_X9_chance 44 rfl) (fun q_14 => ?_) (fun q_14 => ?_)
      · refine j_sub [1, 2, 3, 4, 0, 5] rfl ?_
        exact b92 (fX9_chance_34 fu) ih h_13 x2 x3 x4 (hI h_11 84 4) x6 
      · refine j_iinc hC (v := (x4 + (1 : Int32))) (lv' := [(4, .int (x4 + (1 : Int32))), (5, .int (hI h_11 84 4)), (0, .ref 0), (2, .int x2), (3, .int x3), (6, .int x6)]) 4 rfl (congrArg (fun z => x4 + z) (show Int32.ofInt (1) = (1 : Int32) from by decide)) (by decide) rfl (dOk_at dt_X9_chance 45 rfl) ?_
        refine j_sub [2, 3, 4, 0, 1, 5] rfl ?_
        exact b92 (fX9_chance_34 fu) ih h_13 x2 x3 (x4 + (1 : Int32)) (hI h_11 84 4) x6 
  unfold fX9_chance
  refine j_iload_n hC 1 rfl rfl (dOk_at dt_X9_chance 0 rfl) ?_
  refine j_if_lt hC (tgt := 23) (by decide) (dOk_at dt_X9_chance 1 rfl) (fun q_1 => ?_) (fun q_1 => ?_)
  · refine j_iconst hC (v := (-1 : Int32)) rfl (dOk_at dt_X9_chance 12 rfl) ?_
    exact j_iret hC hret (dOk_at dt_X9_chance 13 rfl)
  · refine j_iload_n hC 2 rfl rfl (dOk_at dt_X9_chance 2 rfl) ?_
    refine j_iconst hC (v := (1 : Int32)) rfl (dOk_at dt_X9_chance 3 rfl) ?_
    refine j_icmp_lt hC (tgt := 23) (by decide) (dOk_at dt_X9_chance 4 rfl) (fun q_2 => ?_) (fun q_2 => ?_)
    · refine j_iconst hC (v := (-1 : Int32)) rfl (dOk_at dt_X9_chance 12 rfl) ?_
      exact j_iret hC hret (dOk_at dt_X9_chance 13 rfl)
    · refine j_iload_n hC 2 rfl rfl (dOk_at dt_X9_chance 5 rfl) ?_
      refine j_bipush hC (v := (99 : Int32)) rfl (dOk_at dt_X9_chance 6 rfl) ?_
      refine j_icmp_gt hC (tgt := 23) (by decide) (dOk_at dt_X9_chance 7 rfl) (fun q_3 => ?_) (fun q_3 => ?_)
      · refine j_iconst hC (v := (-1 : Int32)) rfl (dOk_at dt_X9_chance 12 rfl) ?_
        exact j_iret hC hret (dOk_at dt_X9_chance 13 rfl)
      · refine j_aload_n hC 0 rfl rfl (dOk_at dt_X9_chance 8 rfl) ?_
        refine j_iload_n hC 3 rfl rfl (dOk_at dt_X9_chance 9 rfl) ?_
        refine j_callVi hC clX9_156 (fun r0 hr0 => c_X9_isStraw hN _ _ r0 hr0) (show shp 0 = (9, 12) from rfl) (Nat.lt_of_lt_of_le (Nat.le_of_ble_eq_true rfl : 0 < 152) hN) (by decide) rfl rfl ⟨Nat.le_of_ble_eq_true rfl, Nat.le_of_ble_eq_true rfl⟩ ⟨Nat.le_refl 0, Nat.le_refl 0⟩ (As := [.int x3]) (st := []) rfl (Nat.le_of_ble_eq_true rfl) (dOk_at dt_X9_chance 10 rfl) (fun v_4 h_5 _ => ?_)
        refine j_if_ne hC (tgt := 25) (by decide) (dOk_at dt_X9_chance 11 rfl) (fun q_6 => ?_) (fun q_6 => ?_)
        · refine j_iconst hC (v := (0 : Int32)) rfl (dOk_at dt_X9_chance 14 rfl) ?_
          refine j_istore hC (lv' := [(4, .int (0 : Int32)), (0, .ref 0), (1, .int x1), (2, .int x2), (3, .int x3)]) (by decide) rfl (dOk_at dt_X9_chance 15 rfl) ?_
          refine j_iload_n hC 2 rfl rfl (dOk_at dt_X9_chance 16 rfl) ?_
          refine j_istore hC (lv' := [(5, .int x1), (4, .int (0 : Int32)), (0, .ref 0), (1, .int x1), (2, .int x2), (3, .int x3)]) (by decide) rfl (dOk_at dt_X9_chance 17 rfl) ?_
          refine j_iconst hC (v := (0 : Int32)) rfl (dOk_at dt_X9_chance 18 rfl) ?_
          refine j_istore hC (lv' := [(6, .int (0 : Int32)), (5, .int x1), (4, .int (0 : Int32)), (0, .ref 0), (1, .int x1), (2, .int x2), (3, .int x3)]) (by decide) rfl (dOk_at dt_X9_chance 19 rfl) ?_
          refine j_sub [3, 5, 6, 2, 1, 0] rfl ?_
          exact b34 FU h_5 x2 x3 (0 : Int32) x1 (0 : Int32) 
        · refine j_iconst hC (v := (-1 : Int32)) rfl (dOk_at dt_X9_chance 12 rfl) ?_
          exact j_iret hC hret (dOk_at dt_X9_chance 13 rfl)
def tb_X9_tried : List (Nat × Instr × Nat) := [(0, .iload_n 3, 1), (1, .ifCond .lt 19, 3), (4, .iload_n 3, 1), (5, .sipush 200, 3), (8, .if_icmp .gt 12, 3), (11, .iload_n 1, 1), (12, .ifCond .lt 8, 3), (15, .iload_n 1, 1), (16, .iconst 4, 1), (17, .if_icmp .le 5, 3), (20, .iconst (-1), 1), (21, .ireturn, 1), (22, .iload_n 1, 1), (23, .iconst 2, 1), (24, .if_icmp .ne 14, 3), (27, .aload_n 0, 1), (28, .iload_n 2, 1), (29, .invokevirtual 168, 3), (32, .ifCond .ne 12, 3), (35, .goto 7, 3), (38, .iload_n 2, 1), (39, .ifCond .eq 5, 3), (42, .iconst (-1), 1), (43, .ireturn, 1), (44, .aload_n 0, 1), (45, .invokevirtual 219, 3), (48, .aload_n 0, 1), (49, .getfield 45, 3), (52, .iload_n 1, 1), (53, .ifCond .ne 7, 3), (56, .iconst 1, 1), (57, .goto 4, 3), (60, .iconst 0, 1), (61, .putfield 336, 3), (64, .aload_n 0, 1), (65, .getfield 45, 3), (68, .iload_n 1, 1), (69, .iconst 1, 1), (70, .if_icmp .ne 7, 3), (73, .iconst 1, 1), (74, .goto 4, 3), (77, .iconst 0, 1), (78, .putfield 339, 3), (81, .aload_n 0, 1), (82, .getfield 45, 3), (85, .iload_n 1, 1), (86, .iconst 2, 1), (87, .if_icmp .ne 7, 3), (90, .iload_n 2, 1), (91, .goto 4, 3), (94, .iconst (-1), 1), (95, .putfield 342, 3), (98, .iload_n 1, 1), (99, .iconst 3, 1), (100, .if_icmp .ne 10, 3), (103, .aload_n 0, 1), (104, .getfield 45, 3), (107, .invokevirtual 345, 3), (110, .aload_n 0, 1), (111, .getfield 45, 3), (114, .iload_n 1, 1), (115, .iconst 4, 1), (116, .if_icmp .ne 7, 3), (119, .iconst 1, 1), (120, .goto 4, 3), (123, .iconst 0, 1), (124, .putfield 348, 3), (127, .aload_n 0, 1), (128, .getfield 45, 3), (131, .iload_n 3, 1), (132, .invokevirtual 216, 3), (135, .aload_n 0, 1), (136, .getfield 45, 3), (139, .invokevirtual 222, 3), (142, .aload_n 0, 1), (143, .getfield 38, 3), (146, .invokevirtual 222, 3), (149, .isub, 1), (150, .ireturn, 1)]
theorem dt_X9_tried : dOk cX9_tried tb_X9_tried = true := by decide +kernel
def fX9_tried_124 (h : Hp) (x3 : Int32) (s1 : Int32) : Option (Int32 × Hp) := if isZ s1 then ((fX8_passNights 84 (uI h 84 13 s1) x3).bind (fun h_23 => bnd (fX8_wonByAll 84 h_23) (fun v_24 h_25 => bnd (fX8_wonByAll 72 h_25) (fun v_26 h_27 => some ((v_24 - v_26), h_27))))) else none
def fX9_tried_110 (h : Hp) (x1 : Int32) (x3 : Int32) : Option (Int32 × Hp) := if x1 = (4 : Int32) then (fX9_tried_124 h x3 (1 : Int32)) else (fX9_tried_124 h x3 (0 : Int32))
def fX9_tried_95 (h : Hp) (x1 : Int32) (x3 : Int32) (s1 : Int32) : Option (Int32 × Hp) := if x1 = (3 : Int32) then ((fX8_stuffAll 84 (uI h 84 14 s1)).bind (fun h_19 => fX9_tried_110 h_19 x1 x3)) else (fX9_tried_110 (uI h 84 14 s1) x1 x3)
def fX9_tried_78 (h : Hp) (x1 : Int32) (x2 : Int32) (x3 : Int32) (s1 : Int32) : Option (Int32 × Hp) := if isZ s1 then (if x1 = (2 : Int32) then (fX9_tried_95 (uI h 84 12 s1) x1 x3 x2) else (fX9_tried_95 (uI h 84 12 s1) x1 x3 (-1 : Int32))) else none
def fX9_tried_61 (h : Hp) (x1 : Int32) (x2 : Int32) (x3 : Int32) (s1 : Int32) : Option (Int32 × Hp) := if isZ s1 then (if x1 = (1 : Int32) then (fX9_tried_78 (uI h 84 11 s1) x1 x2 x3 (1 : Int32)) else (fX9_tried_78 (uI h 84 11 s1) x1 x2 x3 (0 : Int32))) else none
def fX9_tried_44 (h : Hp) (x1 : Int32) (x2 : Int32) (x3 : Int32) : Option (Int32 × Hp) := (fX9_startTrial h).bind (fun h_11 => if x1 = 0 then (fX9_tried_61 h_11 x1 x2 x3 (1 : Int32)) else (fX9_tried_61 h_11 x1 x2 x3 (0 : Int32)))
def fX9_tried (h : Hp) (x1 : Int32) (x2 : Int32) (x3 : Int32) : Option (Int32 × Hp) := if x3 < 0 then (some ((-1 : Int32), h)) else (if (200 : Int32) < x3 then (some ((-1 : Int32), h)) else (if x1 < 0 then (some ((-1 : Int32), h)) else (if x1 ≤ (4 : Int32) then (if x1 = (2 : Int32) then (bnd (fX9_isMember h x2) (fun v_7 h_8 => if v_7 = 0 then (some ((-1 : Int32), h_8)) else (fX9_tried_44 h_8 x1 x2 x3))) else (if x2 = 0 then (fX9_tried_44 h x1 x2 x3) else (some ((-1 : Int32), h)))) else (some ((-1 : Int32), h)))))
set_option maxRecDepth 100000 in
set_option maxHeartbeats 4000000 in
theorem c_X9_tried {l : Launch} {sb : State} {D : va_G} {ids : Nat → ClassId} {n : Nat} (hN : 152 ≤ n) (h : Hp) (x1 : Int32) (x2 : Int32) (x3 : Int32) (r : Int32 × Hp) (hr : fX9_tried h x1 x2 x3 = some r) : jM l yX9_tried cX9_tried 4 (some .int) 7 sb D ids shp St n [.ref 0, .int x1, .int x2, .int x3] h (jQi sb D ids shp St n r) := by
  refine jM_of hr rfl (Nat.le_of_ble_eq_true rfl) ?_
  intro p e s m args below meth c hC hret
  have b124 : ∀ (h : Hp) (x3 : Int32) (s1 : Int32) , jJ p l e (rmD 7) s m args below meth c 4 sb D ids shp St (fun r => MQ below (jQi sb D ids shp St n r) args s 0 0 (jA sb)) n 0 0 h 124 [(0, .ref 0), (3, .int x3)] [.int s1, .ref 84] (fX9_tried_124 h x3 s1) := by
    intro h x3 s1 
    unfold fX9_tried_124
    refine j_ite (P := isZ s1 = true) (fun hz_21 => ?_) (fun _ => j_none)
    refine j_putZ hC St_SP flX9_348 (show shp 84 = (8, 15) from rfl) (Nat.lt_of_lt_of_le (Nat.le_of_ble_eq_true rfl : 84 < 152) hN) (by decide) (by decide) rfl rfl hz_21 (dOk_at dt_X9_tried 66 rfl) ?_
    refine j_aload_n hC 0 rfl rfl (dOk_at dt_X9_tried 67 rfl) ?_
    refine j_getR hC flX9_45 (show shp 0 = (9, 12) from rfl) (Nat.lt_of_lt_of_le (Nat.le_of_ble_eq_true rfl : 0 < 152) hN) (by decide) (by decide) (fun _ _ _ => rfl) (fun hs => hs 0 7 84 rfl) (dOk_at dt_X9_tried 68 rfl) ?_
    refine j_iload_n hC 1 rfl rfl (dOk_at dt_X9_tried 69 rfl) ?_
    refine j_callVv hC clX9_216 (fun r0 hr0 => c_X8_passNights hN ((show shp 84 = (8, 15) from rfl)) _ _ r0 hr0) (show shp 84 = (8, 15) from rfl) (Nat.lt_of_lt_of_le (Nat.le_of_ble_eq_true rfl : 84 < 152) hN) (by decide) rfl rfl ⟨Nat.le_of_ble_eq_true rfl, Nat.le_of_ble_eq_true rfl⟩ ⟨Nat.le_refl 0, Nat.le_refl 0⟩ (As := [.int x3]) (st := []) rfl (Nat.le_of_ble_eq_true rfl) (dOk_at dt_X9_tried 70 rfl) (fun h_23 _ => ?_)
    refine j_aload_n hC 0 rfl rfl (dOk_at dt_X9_tried 71 rfl) ?_
    refine j_getR hC flX9_45 (show shp 0 = (9, 12) from rfl) (Nat.lt_of_lt_of_le (Nat.le_of_ble_eq_true rfl : 0 < 152) hN) (by decide) (by decide) (fun _ _ _ => rfl) (fun hs => hs 0 7 84 rfl) (dOk_at dt_X9_tried 72 rfl) ?_
    refine j_callVi hC clX9_222 (fun r0 hr0 => c_X8_wonByAll hN ((show shp 84 = (8, 15) from rfl)) _ r0 hr0) (show shp 84 = (8, 15) from rfl) (Nat.lt_of_lt_of_le (Nat.le_of_ble_eq_true rfl : 84 < 152) hN) (by decide) rfl rfl ⟨Nat.le_of_ble_eq_true rfl, Nat.le_of_ble_eq_true rfl⟩ ⟨Nat.le_refl 0, Nat.le_refl 0⟩ (As := []) (st := []) rfl (Nat.le_of_ble_eq_true rfl) (dOk_at dt_X9_tried 73 rfl) (fun v_24 h_25 _ => ?_)
    refine j_aload_n hC 0 rfl rfl (dOk_at dt_X9_tried 74 rfl) ?_
    refine j_getR hC flX9_38 (show shp 0 = (9, 12) from rfl) (Nat.lt_of_lt_of_le (Nat.le_of_ble_eq_true rfl : 0 < 152) hN) (by decide) (by decide) (fun _ _ _ => rfl) (fun hs => hs 0 5 72 rfl) (dOk_at dt_X9_tried 75 rfl) ?_
    refine j_callVi hC clX9_222 (fun r0 hr0 => c_X8_wonByAll hN ((show shp 72 = (8, 15) from rfl)) _ r0 hr0) (show shp 72 = (8, 15) from rfl) (Nat.lt_of_lt_of_le (Nat.le_of_ble_eq_true rfl : 72 < 152) hN) (by decide) rfl rfl ⟨Nat.le_of_ble_eq_true rfl, Nat.le_of_ble_eq_true rfl⟩ ⟨Nat.le_refl 0, Nat.le_refl 0⟩ (As := []) (st := [.int v_24]) rfl (Nat.le_of_ble_eq_true rfl) (dOk_at dt_X9_tried 76 rfl) (fun v_26 h_27 _ => ?_)
    refine j_isub hC (dOk_at dt_X9_tried 77 rfl) ?_
    exact j_iret hC hret (dOk_at dt_X9_tried 78 rfl)
  have b110 : ∀ (h : Hp) (x1 : Int32) (x3 : Int32) , jJ p l e (rmD 7) s m args below meth c 4 sb D ids shp St (fun r => MQ below (jQi sb D ids shp St n r) args s 0 0 (jA sb)) n 0 0 h 110 [(0, .ref 0), (1, .int x1), (3, .int x3)] [] (fX9_tried_110 h x1 x3) := by
    intro h x1 x3 
    unfold fX9_tried_110
    refine j_aload_n hC 0 rfl rfl (dOk_at dt_X9_tried 58 rfl) ?_
    refine j_getR hC flX9_45 (show shp 0 = (9, 12) from rfl) (Nat.lt_of_lt_of_le (Nat.le_of_ble_eq_true rfl : 0 < 152) hN) (by decide) (by decide) (fun _ _ _ => rfl) (fun hs => hs 0 7 84 rfl) (dOk_at dt_X9_tried 59 rfl) ?_
    refine j_iload_n hC 1 rfl rfl (dOk_at dt_X9_tried 60 rfl) ?_
    refine j_iconst hC (v := (4 : Int32)) rfl (dOk_at dt_X9_tried 61 rfl) ?_
    refine j_icmp_ne hC (tgt := 123) (by decide) (dOk_at dt_X9_tried 62 rfl) (fun q_20 => ?_) (fun q_20 => ?_)
    · refine j_iconst hC (v := (0 : Int32)) rfl (dOk_at dt_X9_tried 65 rfl) ?_
      refine j_sub [0, 2] rfl ?_
      exact b124 h x3 (0 : Int32) 
    · refine j_iconst hC (v := (1 : Int32)) rfl (dOk_at dt_X9_tried 63 rfl) ?_
      refine j_goto hC (tgt := 124) (by decide) (dOk_at dt_X9_tried 64 rfl) ?_
      refine j_sub [0, 2] rfl ?_
      exact b124 h x3 (1 : Int32) 
  have b95 : ∀ (h : Hp) (x1 : Int32) (x3 : Int32) (s1 : Int32) , jJ p l e (rmD 7) s m args below meth c 4 sb D ids shp St (fun r => MQ below (jQi sb D ids shp St n r) args s 0 0 (jA sb)) n 0 0 h 95 [(0, .ref 0), (1, .int x1), (3, .int x3)] [.int s1, .ref 84] (fX9_tried_95 h x1 x3 s1) := by
    intro h x1 x3 s1 
    unfold fX9_tried_95
    refine j_putI hC St_SP flX9_342 (show shp 84 = (8, 15) from rfl) (Nat.lt_of_lt_of_le (Nat.le_of_ble_eq_true rfl : 84 < 152) hN) (by decide) (by decide) rfl rfl (dOk_at dt_X9_tried 51 rfl) ?_
    refine j_iload_n hC 1 rfl rfl (dOk_at dt_X9_tried 52 rfl) ?_
    refine j_iconst hC (v := (3 : Int32)) rfl (dOk_at dt_X9_tried 53 rfl) ?_
    refine j_icmp_ne hC (tgt := 110) (by decide) (dOk_at dt_X9_tried 54 rfl) (fun q_17 => ?_) (fun q_17 => ?_)
    · exact b110 (uI h 84 14 s1) x1 x3 
    · refine j_aload_n hC 0 rfl rfl (dOk_at dt_X9_tried 55 rfl) ?_
      refine j_getR hC flX9_45 (show shp 0 = (9, 12) from rfl) (Nat.lt_of_lt_of_le (Nat.le_of_ble_eq_true rfl : 0 < 152) hN) (by decide) (by decide) (fun _ _ _ => rfl) (fun hs => hs 0 7 84 rfl) (dOk_at dt_X9_tried 56 rfl) ?_
      refine j_callVv hC clX9_345 (fun r0 hr0 => c_X8_stuffAll hN ((show shp 84 = (8, 15) from rfl)) _ r0 hr0) (show shp 84 = (8, 15) from rfl) (Nat.lt_of_lt_of_le (Nat.le_of_ble_eq_true rfl : 84 < 152) hN) (by decide) rfl rfl ⟨Nat.le_of_ble_eq_true rfl, Nat.le_of_ble_eq_true rfl⟩ ⟨Nat.le_refl 0, Nat.le_refl 0⟩ (As := []) (st := []) rfl (Nat.le_of_ble_eq_true rfl) (dOk_at dt_X9_tried 57 rfl) (fun h_19 _ => ?_)
      exact b110 h_19 x1 x3 
  have b78 : ∀ (h : Hp) (x1 : Int32) (x2 : Int32) (x3 : Int32) (s1 : Int32) , jJ p l e (rmD 7) s m args below meth c 4 sb D ids shp St (fun r => MQ below (jQi sb D ids shp St n r) args s 0 0 (jA sb)) n 0 0 h 78 [(0, .ref 0), (1, .int x1), (2, .int x2), (3, .int x3)] [.int s1, .ref 84] (fX9_tried_78 h x1 x2 x3 s1) := by
    intro h x1 x2 x3 s1 
    unfold fX9_tried_78
    refine j_ite (P := isZ s1 = true) (fun hz_15 => ?_) (fun _ => j_none)
    refine j_putZ hC St_SP flX9_339 (show shp 84 = (8, 15) from rfl) (Nat.lt_of_lt_of_le (Nat.le_of_ble_eq_true rfl : 84 < 152) hN) (by decide) (by decide) rfl rfl hz_15 (dOk_at dt_X9_tried 42 rfl) ?_
    refine j_aload_n hC 0 rfl rfl (dOk_at dt_X9_tried 43 rfl) ?_
    refine j_getR hC flX9_45 (show shp 0 = (9, 12) from rfl) (Nat.lt_of_lt_of_le (Nat.le_of_ble_eq_true rfl : 0 < 152) hN) (by decide) (by decide) (fun _ _ _ => rfl) (fun hs => hs 0 7 84 rfl) (dOk_at dt_X9_tried 44 rfl) ?_
    refine j_iload_n hC 1 rfl rfl (dOk_at dt_X9_tried 45 rfl) ?_
    refine j_iconst hC (v := (2 : Int32)) rfl (dOk_at dt_X9_tried 46 rfl) ?_
    refine j_icmp_ne hC (tgt := 94) (by decide) (dOk_at dt_X9_tried 47 rfl) (fun q_16 => ?_) (fun q_16 => ?_)
    · refine j_iconst hC (v := (-1 : Int32)) rfl (dOk_at dt_X9_tried 50 rfl) ?_
      refine j_sub [0, 1, 3] rfl ?_
      exact b95 (uI h 84 12 s1) x1 x3 (-1 : Int32) 
    · refine j_iload_n hC 2 rfl rfl (dOk_at dt_X9_tried 48 rfl) ?_
      refine j_goto hC (tgt := 95) (by decide) (dOk_at dt_X9_tried 49 rfl) ?_
      refine j_sub [0, 1, 3] rfl ?_
      exact b95 (uI h 84 12 s1) x1 x3 x2 
  have b61 : ∀ (h : Hp) (x1 : Int32) (x2 : Int32) (x3 : Int32) (s1 : Int32) , jJ p l e (rmD 7) s m args below meth c 4 sb D ids shp St (fun r => MQ below (jQi sb D ids shp St n r) args s 0 0 (jA sb)) n 0 0 h 61 [(0, .ref 0), (1, .int x1), (2, .int x2), (3, .int x3)] [.int s1, .ref 84] (fX9_tried_61 h x1 x2 x3 s1) := by
    intro h x1 x2 x3 s1 
    unfold fX9_tried_61
    refine j_ite (P := isZ s1 = true) (fun hz_13 => ?_) (fun _ => j_none)
    refine j_putZ hC St_SP flX9_336 (show shp 84 = (8, 15) from rfl) (Nat.lt_of_lt_of_le (Nat.le_of_ble_eq_true rfl : 84 < 152) hN) (by decide) (by decide) rfl rfl hz_13 (dOk_at dt_X9_tried 33 rfl) ?_
    refine j_aload_n hC 0 rfl rfl (dOk_at dt_X9_tried 34 rfl) ?_
    refine j_getR hC flX9_45 (show shp 0 = (9, 12) from rfl) (Nat.lt_of_lt_of_le (Nat.le_of_ble_eq_true rfl : 0 < 152) hN) (by decide) (by decide) (fun _ _ _ => rfl) (fun hs => hs 0 7 84 rfl) (dOk_at dt_X9_tried 35 rfl) ?_
    refine j_iload_n hC 1 rfl rfl (dOk_at dt_X9_tried 36 rfl) ?_
    refine j_iconst hC (v := (1 : Int32)) rfl (dOk_at dt_X9_tried 37 rfl) ?_
    refine j_icmp_ne hC (tgt := 77) (by decide) (dOk_at dt_X9_tried 38 rfl) (fun q_14 => ?_) (fun q_14 => ?_)
    · refine j_iconst hC (v := (0 : Int32)) rfl (dOk_at dt_X9_tried 41 rfl) ?_
      exact b78 (uI h 84 11 s1) x1 x2 x3 (0 : Int32) 
    · refine j_iconst hC (v := (1 : Int32)) rfl (dOk_at dt_X9_tried 39 rfl) ?_
      refine j_goto hC (tgt := 78) (by decide) (dOk_at dt_X9_tried 40 rfl) ?_
      exact b78 (uI h 84 11 s1) x1 x2 x3 (1 : Int32) 
  have b44 : ∀ (h : Hp) (x1 : Int32) (x2 : Int32) (x3 : Int32) , jJ p l e (rmD 7) s m args below meth c 4 sb D ids shp St (fun r => MQ below (jQi sb D ids shp St n r) args s 0 0 (jA sb)) n 0 0 h 44 [(0, .ref 0), (1, .int x1), (2, .int x2), (3, .int x3)] [] (fX9_tried_44 h x1 x2 x3) := by
    intro h x1 x2 x3 
    unfold fX9_tried_44
    refine j_aload_n hC 0 rfl rfl (dOk_at dt_X9_tried 24 rfl) ?_
    refine j_callVv hC clX9_219 (fun r0 hr0 => c_X9_startTrial hN _ r0 hr0) (show shp 0 = (9, 12) from rfl) (Nat.lt_of_lt_of_le (Nat.le_of_ble_eq_true rfl : 0 < 152) hN) (by decide) rfl rfl ⟨Nat.le_of_ble_eq_true rfl, Nat.le_of_ble_eq_true rfl⟩ ⟨Nat.le_refl 0, Nat.le_refl 0⟩ (As := []) (st := []) rfl (Nat.le_of_ble_eq_true rfl) (dOk_at dt_X9_tried 25 rfl) (fun h_11 _ => ?_)
    refine j_aload_n hC 0 rfl rfl (dOk_at dt_X9_tried 26 rfl) ?_
    refine j_getR hC flX9_45 (show shp 0 = (9, 12) from rfl) (Nat.lt_of_lt_of_le (Nat.le_of_ble_eq_true rfl : 0 < 152) hN) (by decide) (by decide) (fun _ _ _ => rfl) (fun hs => hs 0 7 84 rfl) (dOk_at dt_X9_tried 27 rfl) ?_
    refine j_iload_n hC 1 rfl rfl (dOk_at dt_X9_tried 28 rfl) ?_
    refine j_if_ne hC (tgt := 60) (by decide) (dOk_at dt_X9_tried 29 rfl) (fun q_12 => ?_) (fun q_12 => ?_)
    · refine j_iconst hC (v := (0 : Int32)) rfl (dOk_at dt_X9_tried 32 rfl) ?_
      exact b61 h_11 x1 x2 x3 (0 : Int32) 
    · refine j_iconst hC (v := (1 : Int32)) rfl (dOk_at dt_X9_tried 30 rfl) ?_
      refine j_goto hC (tgt := 61) (by decide) (dOk_at dt_X9_tried 31 rfl) ?_
      exact b61 h_11 x1 x2 x3 (1 : Int32) 
  unfold fX9_tried
  refine j_iload_n hC 3 rfl rfl (dOk_at dt_X9_tried 0 rfl) ?_
  refine j_if_lt hC (tgt := 20) (by decide) (dOk_at dt_X9_tried 1 rfl) (fun q_1 => ?_) (fun q_1 => ?_)
  · refine j_iconst hC (v := (-1 : Int32)) rfl (dOk_at dt_X9_tried 10 rfl) ?_
    exact j_iret hC hret (dOk_at dt_X9_tried 11 rfl)
  · refine j_iload_n hC 3 rfl rfl (dOk_at dt_X9_tried 2 rfl) ?_
    refine j_sipush hC (v := (200 : Int32)) rfl (dOk_at dt_X9_tried 3 rfl) ?_
    refine j_icmp_gt hC (tgt := 20) (by decide) (dOk_at dt_X9_tried 4 rfl) (fun q_2 => ?_) (fun q_2 => ?_)
    · refine j_iconst hC (v := (-1 : Int32)) rfl (dOk_at dt_X9_tried 10 rfl) ?_
      exact j_iret hC hret (dOk_at dt_X9_tried 11 rfl)
    · refine j_iload_n hC 1 rfl rfl (dOk_at dt_X9_tried 5 rfl) ?_
      refine j_if_lt hC (tgt := 20) (by decide) (dOk_at dt_X9_tried 6 rfl) (fun q_3 => ?_) (fun q_3 => ?_)
      · refine j_iconst hC (v := (-1 : Int32)) rfl (dOk_at dt_X9_tried 10 rfl) ?_
        exact j_iret hC hret (dOk_at dt_X9_tried 11 rfl)
      · refine j_iload_n hC 1 rfl rfl (dOk_at dt_X9_tried 7 rfl) ?_
        refine j_iconst hC (v := (4 : Int32)) rfl (dOk_at dt_X9_tried 8 rfl) ?_
        refine j_icmp_le hC (tgt := 22) (by decide) (dOk_at dt_X9_tried 9 rfl) (fun q_4 => ?_) (fun q_4 => ?_)
        · refine j_iload_n hC 1 rfl rfl (dOk_at dt_X9_tried 12 rfl) ?_
          refine j_iconst hC (v := (2 : Int32)) rfl (dOk_at dt_X9_tried 13 rfl) ?_
          refine j_icmp_ne hC (tgt := 38) (by decide) (dOk_at dt_X9_tried 14 rfl) (fun q_5 => ?_) (fun q_5 => ?_)
          · refine j_iload_n hC 2 rfl rfl (dOk_at dt_X9_tried 20 rfl) ?_
            refine j_if_eq hC (tgt := 44) (by decide) (dOk_at dt_X9_tried 21 rfl) (fun q_6 => ?_) (fun q_6 => ?_)
            · exact b44 h x1 x2 x3 
            · refine j_iconst hC (v := (-1 : Int32)) rfl (dOk_at dt_X9_tried 22 rfl) ?_
              exact j_iret hC hret (dOk_at dt_X9_tried 23 rfl)
          · refine j_aload_n hC 0 rfl rfl (dOk_at dt_X9_tried 15 rfl) ?_
            refine j_iload_n hC 2 rfl rfl (dOk_at dt_X9_tried 16 rfl) ?_
            refine j_callVi hC clX9_168 (fun r0 hr0 => c_X9_isMember hN _ _ r0 hr0) (show shp 0 = (9, 12) from rfl) (Nat.lt_of_lt_of_le (Nat.le_of_ble_eq_true rfl : 0 < 152) hN) (by decide) rfl rfl ⟨Nat.le_of_ble_eq_true rfl, Nat.le_of_ble_eq_true rfl⟩ ⟨Nat.le_refl 0, Nat.le_refl 0⟩ (As := [.int x2]) (st := []) rfl (Nat.le_of_ble_eq_true rfl) (dOk_at dt_X9_tried 17 rfl) (fun v_7 h_8 _ => ?_)
            refine j_if_ne hC (tgt := 44) (by decide) (dOk_at dt_X9_tried 18 rfl) (fun q_9 => ?_) (fun q_9 => ?_)
            · exact b44 h_8 x1 x2 x3 
            · refine j_goto hC (tgt := 42) (by decide) (dOk_at dt_X9_tried 19 rfl) ?_
              refine j_iconst hC (v := (-1 : Int32)) rfl (dOk_at dt_X9_tried 22 rfl) ?_
              exact j_iret hC hret (dOk_at dt_X9_tried 23 rfl)
        · refine j_iconst hC (v := (-1 : Int32)) rfl (dOk_at dt_X9_tried 10 rfl) ?_
          exact j_iret hC hret (dOk_at dt_X9_tried 11 rfl)
def tb_X9_undo : List (Nat × Instr × Nat) := [(0, .aload_n 0, 1), (1, .getfield 55, 3), (4, .aload_n 0, 1), (5, .getfield 38, 3), (8, .invokevirtual 351, 3), (11, .ireturn, 1)]
theorem dt_X9_undo : dOk cX9_undo tb_X9_undo = true := by decide +kernel
def fX9_undo (h : Hp) : Option (Int32 × Hp) := bnd (fX4_takeBack 72 h) (fun v_1 h_2 => some (v_1, h_2))
set_option maxRecDepth 100000 in
set_option maxHeartbeats 4000000 in
theorem c_X9_undo {l : Launch} {sb : State} {D : va_G} {ids : Nat → ClassId} {n : Nat} (hN : 152 ≤ n) (h : Hp) (r : Int32 × Hp) (hr : fX9_undo h = some r) : jM l yX9_undo cX9_undo 1 (some .int) 2 sb D ids shp St n [.ref 0] h (jQi sb D ids shp St n r) := by
  refine jM_of hr rfl (Nat.le_of_ble_eq_true rfl) ?_
  intro p e s m args below meth c hC hret
  unfold fX9_undo
  refine j_aload_n hC 0 rfl rfl (dOk_at dt_X9_undo 0 rfl) ?_
  refine j_getR hC flX9_55 (show shp 0 = (9, 12) from rfl) (Nat.lt_of_lt_of_le (Nat.le_of_ble_eq_true rfl : 0 < 152) hN) (by decide) (by decide) (fun _ _ _ => rfl) (fun hs => hs 0 9 90 rfl) (dOk_at dt_X9_undo 1 rfl) ?_
  refine j_aload_n hC 0 rfl rfl (dOk_at dt_X9_undo 2 rfl) ?_
  refine j_getR hC flX9_38 (show shp 0 = (9, 12) from rfl) (Nat.lt_of_lt_of_le (Nat.le_of_ble_eq_true rfl : 0 < 152) hN) (by decide) (by decide) (fun _ _ _ => rfl) (fun hs => hs 0 5 72 rfl) (dOk_at dt_X9_undo 3 rfl) ?_
  refine j_callVi hC clX9_351 (fun r0 hr0 => c_X4_takeBack hN ((show shp 72 = (8, 15) from rfl)) _ r0 hr0) (show shp 90 = (4, 8) from rfl) (Nat.lt_of_lt_of_le (Nat.le_of_ble_eq_true rfl : 90 < 152) hN) (by decide) rfl rfl ⟨Nat.le_of_ble_eq_true rfl, Nat.le_of_ble_eq_true rfl⟩ ⟨Nat.le_refl 0, Nat.le_refl 0⟩ (As := [.ref 72]) (st := []) rfl (Nat.le_of_ble_eq_true rfl) (dOk_at dt_X9_undo 4 rfl) (fun v_1 h_2 _ => ?_)
  exact j_iret hC hret (dOk_at dt_X9_undo 5 rfl)
def tb_X9_keep : List (Nat × Instr × Nat) := [(0, .aload_n 0, 1), (1, .getfield 42, 3), (4, .aload_n 0, 1), (5, .getfield 38, 3), (8, .invokevirtual 330, 3), (11, .aload_n 0, 1), (12, .iconst 1, 1), (13, .putfield 48, 3), (16, .aload_n 0, 1), (17, .getfield 38, 3), (20, .getfield 213, 3), (23, .ireturn, 1)]
theorem dt_X9_keep : dOk cX9_keep tb_X9_keep = true := by decide +kernel
def fX9_keep (h : Hp) : Option (Int32 × Hp) := (fX8_copyFrom 78 72 h).bind (fun h_2 => some ((hI (uI h_2 0 8 (1 : Int32)) 72 1), (uI h_2 0 8 (1 : Int32))))
set_option maxRecDepth 100000 in
set_option maxHeartbeats 4000000 in
theorem c_X9_keep {l : Launch} {sb : State} {D : va_G} {ids : Nat → ClassId} {n : Nat} (hN : 152 ≤ n) (h : Hp) (r : Int32 × Hp) (hr : fX9_keep h = some r) : jM l yX9_keep cX9_keep 1 (some .int) 2 sb D ids shp St n [.ref 0] h (jQi sb D ids shp St n r) := by
  refine jM_of hr rfl (Nat.le_of_ble_eq_true rfl) ?_
  intro p e s m args below meth c hC hret
  unfold fX9_keep
  refine j_aload_n hC 0 rfl rfl (dOk_at dt_X9_keep 0 rfl) ?_
  refine j_getR hC flX9_42 (show shp 0 = (9, 12) from rfl) (Nat.lt_of_lt_of_le (Nat.le_of_ble_eq_true rfl : 0 < 152) hN) (by decide) (by decide) (fun _ _ _ => rfl) (fun hs => hs 0 6 78 rfl) (dOk_at dt_X9_keep 1 rfl) ?_
  refine j_aload_n hC 0 rfl rfl (dOk_at dt_X9_keep 2 rfl) ?_
  refine j_getR hC flX9_38 (show shp 0 = (9, 12) from rfl) (Nat.lt_of_lt_of_le (Nat.le_of_ble_eq_true rfl : 0 < 152) hN) (by decide) (by decide) (fun _ _ _ => rfl) (fun hs => hs 0 5 72 rfl) (dOk_at dt_X9_keep 3 rfl) ?_
  refine j_callVv hC clX9_330 (fun r0 hr0 => c_X8_copyFrom hN ((show shp 78 = (8, 15) from rfl)) ((show shp 72 = (8, 15) from rfl)) _ r0 hr0) (show shp 78 = (8, 15) from rfl) (Nat.lt_of_lt_of_le (Nat.le_of_ble_eq_true rfl : 78 < 152) hN) (by decide) rfl rfl ⟨Nat.le_of_ble_eq_true rfl, Nat.le_of_ble_eq_true rfl⟩ ⟨Nat.le_refl 0, Nat.le_refl 0⟩ (As := [.ref 72]) (st := []) rfl (Nat.le_of_ble_eq_true rfl) (dOk_at dt_X9_keep 4 rfl) (fun h_2 _ => ?_)
  refine j_aload_n hC 0 rfl rfl (dOk_at dt_X9_keep 5 rfl) ?_
  refine j_iconst hC (v := (1 : Int32)) rfl (dOk_at dt_X9_keep 6 rfl) ?_
  refine j_putZ hC St_SP flX9_48 (show shp 0 = (9, 12) from rfl) (Nat.lt_of_lt_of_le (Nat.le_of_ble_eq_true rfl : 0 < 152) hN) (by decide) (by decide) rfl rfl rfl (dOk_at dt_X9_keep 7 rfl) ?_
  refine j_aload_n hC 0 rfl rfl (dOk_at dt_X9_keep 8 rfl) ?_
  refine j_getR hC flX9_38 (show shp 0 = (9, 12) from rfl) (Nat.lt_of_lt_of_le (Nat.le_of_ble_eq_true rfl : 0 < 152) hN) (by decide) (by decide) (fun _ _ _ => rfl) (fun hs => hs 0 5 72 rfl) (dOk_at dt_X9_keep 9 rfl) ?_
  refine j_getI hC flX9_213 (show shp 72 = (8, 15) from rfl) (Nat.lt_of_lt_of_le (Nat.le_of_ble_eq_true rfl : 72 < 152) hN) (by decide) (by decide) (fun _ _ _ => rfl) (dOk_at dt_X9_keep 10 rfl) ?_
  exact j_iret hC hret (dOk_at dt_X9_keep 11 rfl)
def tb_X9_back : List (Nat × Instr × Nat) := [(0, .aload_n 0, 1), (1, .getfield 48, 3), (4, .ifCond .ne 5, 3), (7, .iconst (-1), 1), (8, .ireturn, 1), (9, .aload_n 0, 1), (10, .getfield 38, 3), (13, .aload_n 0, 1), (14, .getfield 42, 3), (17, .invokevirtual 330, 3), (20, .aload_n 0, 1), (21, .getfield 55, 3), (24, .invokevirtual 99, 3), (27, .aload_n 0, 1), (28, .getfield 38, 3), (31, .getfield 213, 3), (34, .ireturn, 1)]
theorem dt_X9_back : dOk cX9_back tb_X9_back = true := by decide +kernel
def fX9_back (h : Hp) : Option (Int32 × Hp) := if (hI h 0 8) = 0 then (some ((-1 : Int32), h)) else ((fX8_copyFrom 72 78 h).bind (fun h_3 => (fX4_clear h_3).bind (fun h_5 => some ((hI h_5 72 1), h_5))))
set_option maxRecDepth 100000 in
set_option maxHeartbeats 4000000 in
theorem c_X9_back {l : Launch} {sb : State} {D : va_G} {ids : Nat → ClassId} {n : Nat} (hN : 152 ≤ n) (h : Hp) (r : Int32 × Hp) (hr : fX9_back h = some r) : jM l yX9_back cX9_back 1 (some .int) 2 sb D ids shp St n [.ref 0] h (jQi sb D ids shp St n r) := by
  refine jM_of hr rfl (Nat.le_of_ble_eq_true rfl) ?_
  intro p e s m args below meth c hC hret
  unfold fX9_back
  refine j_aload_n hC 0 rfl rfl (dOk_at dt_X9_back 0 rfl) ?_
  refine j_getI hC flX9_48 (show shp 0 = (9, 12) from rfl) (Nat.lt_of_lt_of_le (Nat.le_of_ble_eq_true rfl : 0 < 152) hN) (by decide) (by decide) (fun _ _ _ => rfl) (dOk_at dt_X9_back 1 rfl) ?_
  refine j_if_ne hC (tgt := 9) (by decide) (dOk_at dt_X9_back 2 rfl) (fun q_1 => ?_) (fun q_1 => ?_)
  · refine j_aload_n hC 0 rfl rfl (dOk_at dt_X9_back 5 rfl) ?_
    refine j_getR hC flX9_38 (show shp 0 = (9, 12) from rfl) (Nat.lt_of_lt_of_le (Nat.le_of_ble_eq_true rfl : 0 < 152) hN) (by decide) (by decide) (fun _ _ _ => rfl) (fun hs => hs 0 5 72 rfl) (dOk_at dt_X9_back 6 rfl) ?_
    refine j_aload_n hC 0 rfl rfl (dOk_at dt_X9_back 7 rfl) ?_
    refine j_getR hC flX9_42 (show shp 0 = (9, 12) from rfl) (Nat.lt_of_lt_of_le (Nat.le_of_ble_eq_true rfl : 0 < 152) hN) (by decide) (by decide) (fun _ _ _ => rfl) (fun hs => hs 0 6 78 rfl) (dOk_at dt_X9_back 8 rfl) ?_
    refine j_callVv hC clX9_330 (fun r0 hr0 => c_X8_copyFrom hN ((show shp 72 = (8, 15) from rfl)) ((show shp 78 = (8, 15) from rfl)) _ r0 hr0) (show shp 72 = (8, 15) from rfl) (Nat.lt_of_lt_of_le (Nat.le_of_ble_eq_true rfl : 72 < 152) hN) (by decide) rfl rfl ⟨Nat.le_of_ble_eq_true rfl, Nat.le_of_ble_eq_true rfl⟩ ⟨Nat.le_refl 0, Nat.le_refl 0⟩ (As := [.ref 78]) (st := []) rfl (Nat.le_of_ble_eq_true rfl) (dOk_at dt_X9_back 9 rfl) (fun h_3 _ => ?_)
    refine j_aload_n hC 0 rfl rfl (dOk_at dt_X9_back 10 rfl) ?_
    refine j_getR hC flX9_55 (show shp 0 = (9, 12) from rfl) (Nat.lt_of_lt_of_le (Nat.le_of_ble_eq_true rfl : 0 < 152) hN) (by decide) (by decide) (fun _ _ _ => rfl) (fun hs => hs 0 9 90 rfl) (dOk_at dt_X9_back 11 rfl) ?_
    refine j_callVv hC clX9_99 (fun r0 hr0 => c_X4_clear hN _ r0 hr0) (show shp 90 = (4, 8) from rfl) (Nat.lt_of_lt_of_le (Nat.le_of_ble_eq_true rfl : 90 < 152) hN) (by decide) rfl rfl ⟨Nat.le_of_ble_eq_true rfl, Nat.le_of_ble_eq_true rfl⟩ ⟨Nat.le_refl 0, Nat.le_refl 0⟩ (As := []) (st := []) rfl (Nat.le_of_ble_eq_true rfl) (dOk_at dt_X9_back 12 rfl) (fun h_5 _ => ?_)
    refine j_aload_n hC 0 rfl rfl (dOk_at dt_X9_back 13 rfl) ?_
    refine j_getR hC flX9_38 (show shp 0 = (9, 12) from rfl) (Nat.lt_of_lt_of_le (Nat.le_of_ble_eq_true rfl : 0 < 152) hN) (by decide) (by decide) (fun _ _ _ => rfl) (fun hs => hs 0 5 72 rfl) (dOk_at dt_X9_back 14 rfl) ?_
    refine j_getI hC flX9_213 (show shp 72 = (8, 15) from rfl) (Nat.lt_of_lt_of_le (Nat.le_of_ble_eq_true rfl : 72 < 152) hN) (by decide) (by decide) (fun _ _ _ => rfl) (dOk_at dt_X9_back 15 rfl) ?_
    exact j_iret hC hret (dOk_at dt_X9_back 16 rfl)
  · refine j_iconst hC (v := (-1 : Int32)) rfl (dOk_at dt_X9_back 3 rfl) ?_
    exact j_iret hC hret (dOk_at dt_X9_back 4 rfl)
def tb_X9_countTold : List (Nat × Instr × Nat) := [(0, .iload_n 1, 1), (1, .tableswitch 102 0 5 #[39, 53, 64, 75, 86, 94], 39), (40, .aload_n 0, 1), (41, .getfield 10, 3), (44, .getfield 106, 3), (47, .getfield 110, 3), (50, .getfield 361, 3), (53, .ireturn, 1), (54, .aload_n 0, 1), (55, .getfield 10, 3), (58, .getfield 106, 3), (61, .getfield 386, 3), (64, .ireturn, 1), (65, .aload_n 0, 1), (66, .getfield 10, 3), (69, .getfield 122, 3), (72, .getfield 361, 3), (75, .ireturn, 1), (76, .aload_n 0, 1), (77, .getfield 10, 3), (80, .getfield 125, 3), (83, .getfield 361, 3), (86, .ireturn, 1), (87, .aload_n 0, 1), (88, .getfield 10, 3), (91, .getfield 389, 3), (94, .ireturn, 1), (95, .aload_n 0, 1), (96, .getfield 10, 3), (99, .getfield 392, 3), (102, .ireturn, 1), (103, .iconst (-1), 1), (104, .ireturn, 1)]
theorem dt_X9_countTold : dOk cX9_countTold tb_X9_countTold = true := by decide +kernel
def fX9_countTold (h : Hp) (x1 : Int32) : Option (Int32 × Hp) := if inT x1 0 5 then (if x1 = (0 : Int32) then ((dref shp h 0 3 (7, 20)).bind (fun z_2 => some ((hI h (rf (rf z_2 0) 0) 2), h))) else (if x1 = (1 : Int32) then ((dref shp h 0 3 (7, 20)).bind (fun z_5 => some ((hI h (rf z_5 0) 5), h))) else (if x1 = (2 : Int32) then ((dref shp h 0 3 (7, 20)).bind (fun z_8 => some ((hI h (rf z_8 1) 2), h))) else (if x1 = (3 : Int32) then ((dref shp h 0 3 (7, 20)).bind (fun z_11 => some ((hI h (rf z_11 4) 2), h))) else (if x1 = (4 : Int32) then ((dref shp h 0 3 (7, 20)).bind (fun z_14 => some ((hI h z_14 6), h))) else (if x1 = (5 : Int32) then ((dref shp h 0 3 (7, 20)).bind (fun z_17 => some ((hI h z_17 18), h))) else none)))))) else (some ((-1 : Int32), h))
set_option maxRecDepth 100000 in
set_option maxHeartbeats 4000000 in
theorem c_X9_countTold {l : Launch} {sb : State} {D : va_G} {ids : Nat → ClassId} {n : Nat} (hN : 152 ≤ n) (h : Hp) (x1 : Int32) (r : Int32 × Hp) (hr : fX9_countTold h x1 = some r) : jM l yX9_countTold cX9_countTold 2 (some .int) 0 sb D ids shp St n [.ref 0, .int x1] h (jQi sb D ids shp St n r) := by
  refine jM_of hr rfl (Nat.le_of_ble_eq_true rfl) ?_
  intro p e s m args below meth c hC hret
  unfold fX9_countTold
  refine j_iload_n hC 1 rfl rfl (dOk_at dt_X9_countTold 0 rfl) ?_
  refine j_ite (P := inT x1 0 5 = true) (fun _ => ?_) (fun q => ?_)
  · refine j_ite (P := x1 = (0 : Int32)) (fun q_1 => ?_) (fun _ => ?_)
    · refine j_tswIn hC (tgt := 40) q_1 (by decide) (by decide) rfl (by decide) (dOk_at dt_X9_countTold 1 rfl) ?_
      refine j_aload_n hC 0 rfl rfl (dOk_at dt_X9_countTold 2 rfl) ?_
      refine j_getD (q := (7, 20)) hC flX9_10 (show shp 0 = (9, 12) from rfl) (Nat.lt_of_lt_of_le (Nat.le_of_ble_eq_true rfl : 0 < 152) hN) (by decide) (by decide) (fun _ _ _ => rfl) (dOk_at dt_X9_countTold 3 rfl) (fun z_2 _ g_3 => ?_)
      refine j_getR hC flX9_106 g_3 (jlt hN g_3 (by decide)) (by decide) (by decide) (fun _ _ _ => rfl) (fun hs => hs _ _ _ (sf_7_0 g_3).1) (dOk_at dt_X9_countTold 4 rfl) ?_
      refine j_getR hC flX9_110 (sf_7_0 g_3).2.1 (Nat.lt_of_lt_of_le (sf_7_0 g_3).2.2 hN) (by decide) (by decide) (fun _ _ _ => rfl) (fun hs => hs _ _ _ (sf_0_0 (sf_7_0 g_3).2.1).1) (dOk_at dt_X9_countTold 5 rfl) ?_
      refine j_getI hC flX9_361 (sf_0_0 (sf_7_0 g_3).2.1).2.1 (Nat.lt_of_lt_of_le (sf_0_0 (sf_7_0 g_3).2.1).2.2 hN) (by decide) (by decide) (fun _ _ _ => rfl) (dOk_at dt_X9_countTold 6 rfl) ?_
      exact j_iret hC hret (dOk_at dt_X9_countTold 7 rfl)
    refine j_ite (P := x1 = (1 : Int32)) (fun q_4 => ?_) (fun _ => ?_)
    · refine j_tswIn hC (tgt := 54) q_4 (by decide) (by decide) rfl (by decide) (dOk_at dt_X9_countTold 1 rfl) ?_
      refine j_aload_n hC 0 rfl rfl (dOk_at dt_X9_countTold 8 rfl) ?_
      refine j_getD (q := (7, 20)) hC flX9_10 (show shp 0 = (9, 12) from rfl) (Nat.lt_of_lt_of_le (Nat.le_of_ble_eq_true rfl : 0 < 152) hN) (by decide) (by decide) (fun _ _ _ => rfl) (dOk_at dt_X9_countTold 9 rfl) (fun z_5 _ g_6 => ?_)
      refine j_getR hC flX9_106 g_6 (jlt hN g_6 (by decide)) (by decide) (by decide) (fun _ _ _ => rfl) (fun hs => hs _ _ _ (sf_7_0 g_6).1) (dOk_at dt_X9_countTold 10 rfl) ?_
      refine j_getI hC flX9_386 (sf_7_0 g_6).2.1 (Nat.lt_of_lt_of_le (sf_7_0 g_6).2.2 hN) (by decide) (by decide) (fun _ _ _ => rfl) (dOk_at dt_X9_countTold 11 rfl) ?_
      exact j_iret hC hret (dOk_at dt_X9_countTold 12 rfl)
    refine j_ite (P := x1 = (2 : Int32)) (fun q_7 => ?_) (fun _ => ?_)
    · refine j_tswIn hC (tgt := 65) q_7 (by decide) (by decide) rfl (by decide) (dOk_at dt_X9_countTold 1 rfl) ?_
      refine j_aload_n hC 0 rfl rfl (dOk_at dt_X9_countTold 13 rfl) ?_
      refine j_getD (q := (7, 20)) hC flX9_10 (show shp 0 = (9, 12) from rfl) (Nat.lt_of_lt_of_le (Nat.le_of_ble_eq_true rfl : 0 < 152) hN) (by decide) (by decide) (fun _ _ _ => rfl) (dOk_at dt_X9_countTold 14 rfl) (fun z_8 _ g_9 => ?_)
      refine j_getR hC flX9_122 g_9 (jlt hN g_9 (by decide)) (by decide) (by decide) (fun _ _ _ => rfl) (fun hs => hs _ _ _ (sf_7_1 g_9).1) (dOk_at dt_X9_countTold 15 rfl) ?_
      refine j_getI hC flX9_361 (sf_7_1 g_9).2.1 (Nat.lt_of_lt_of_le (sf_7_1 g_9).2.2 hN) (by decide) (by decide) (fun _ _ _ => rfl) (dOk_at dt_X9_countTold 16 rfl) ?_
      exact j_iret hC hret (dOk_at dt_X9_countTold 17 rfl)
    refine j_ite (P := x1 = (3 : Int32)) (fun q_10 => ?_) (fun _ => ?_)
    · refine j_tswIn hC (tgt := 76) q_10 (by decide) (by decide) rfl (by decide) (dOk_at dt_X9_countTold 1 rfl) ?_
      refine j_aload_n hC 0 rfl rfl (dOk_at dt_X9_countTold 18 rfl) ?_
      refine j_getD (q := (7, 20)) hC flX9_10 (show shp 0 = (9, 12) from rfl) (Nat.lt_of_lt_of_le (Nat.le_of_ble_eq_true rfl : 0 < 152) hN) (by decide) (by decide) (fun _ _ _ => rfl) (dOk_at dt_X9_countTold 19 rfl) (fun z_11 _ g_12 => ?_)
      refine j_getR hC flX9_125 g_12 (jlt hN g_12 (by decide)) (by decide) (by decide) (fun _ _ _ => rfl) (fun hs => hs _ _ _ (sf_7_4 g_12).1) (dOk_at dt_X9_countTold 20 rfl) ?_
      refine j_getI hC flX9_361 (sf_7_4 g_12).2.1 (Nat.lt_of_lt_of_le (sf_7_4 g_12).2.2 hN) (by decide) (by decide) (fun _ _ _ => rfl) (dOk_at dt_X9_countTold 21 rfl) ?_
      exact j_iret hC hret (dOk_at dt_X9_countTold 22 rfl)
    refine j_ite (P := x1 = (4 : Int32)) (fun q_13 => ?_) (fun _ => ?_)
    · refine j_tswIn hC (tgt := 87) q_13 (by decide) (by decide) rfl (by decide) (dOk_at dt_X9_countTold 1 rfl) ?_
      refine j_aload_n hC 0 rfl rfl (dOk_at dt_X9_countTold 23 rfl) ?_
      refine j_getD (q := (7, 20)) hC flX9_10 (show shp 0 = (9, 12) from rfl) (Nat.lt_of_lt_of_le (Nat.le_of_ble_eq_true rfl : 0 < 152) hN) (by decide) (by decide) (fun _ _ _ => rfl) (dOk_at dt_X9_countTold 24 rfl) (fun z_14 _ g_15 => ?_)
      refine j_getI hC flX9_389 g_15 (jlt hN g_15 (by decide)) (by decide) (by decide) (fun _ _ _ => rfl) (dOk_at dt_X9_countTold 25 rfl) ?_
      exact j_iret hC hret (dOk_at dt_X9_countTold 26 rfl)
    refine j_ite (P := x1 = (5 : Int32)) (fun q_16 => ?_) (fun _ => ?_)
    · refine j_tswIn hC (tgt := 95) q_16 (by decide) (by decide) rfl (by decide) (dOk_at dt_X9_countTold 1 rfl) ?_
      refine j_aload_n hC 0 rfl rfl (dOk_at dt_X9_countTold 27 rfl) ?_
      refine j_getD (q := (7, 20)) hC flX9_10 (show shp 0 = (9, 12) from rfl) (Nat.lt_of_lt_of_le (Nat.le_of_ble_eq_true rfl : 0 < 152) hN) (by decide) (by decide) (fun _ _ _ => rfl) (dOk_at dt_X9_countTold 28 rfl) (fun z_17 _ g_18 => ?_)
      refine j_getI hC flX9_392 g_18 (jlt hN g_18 (by decide)) (by decide) (by decide) (fun _ _ _ => rfl) (dOk_at dt_X9_countTold 29 rfl) ?_
      exact j_iret hC hret (dOk_at dt_X9_countTold 30 rfl)
    exact j_none
  · refine j_tswOut hC (tgt := 103) q (by decide) (dOk_at dt_X9_countTold 1 rfl) ?_
    refine j_iconst hC (v := (-1 : Int32)) rfl (dOk_at dt_X9_countTold 31 rfl) ?_
    exact j_iret hC hret (dOk_at dt_X9_countTold 32 rfl)
def tb_X9_countNow : List (Nat × Instr × Nat) := [(0, .iload_n 1, 1), (1, .tableswitch 138 6 15 #[55, 63, 71, 79, 90, 98, 106, 114, 122, 130], 55), (56, .aload_n 0, 1), (57, .getfield 38, 3), (60, .getfield 213, 3), (63, .ireturn, 1), (64, .aload_n 0, 1), (65, .getfield 38, 3), (68, .invokevirtual 222, 3), (71, .ireturn, 1), (72, .aload_n 0, 1), (73, .getfield 38, 3), (76, .invokevirtual 226, 3), (79, .ireturn, 1), (80, .aload_n 0, 1), (81, .getfield 38, 3), (84, .getfield 229, 3), (87, .invokestatic 208, 3), (90, .ireturn, 1), (91, .aload_n 0, 1), (92, .getfield 38, 3), (95, .getfield 232, 3), (98, .ireturn, 1), (99, .aload_n 0, 1), (100, .getfield 38, 3), (103, .invokevirtual 395, 3), (106, .ireturn, 1), (107, .aload_n 0, 1), (108, .getfield 38, 3), (111, .invokevirtual 398, 3), (114, .ireturn, 1), (115, .aload_n 0, 1), (116, .getfield 62, 3), (119, .getfield 313, 3), (122, .ireturn, 1), (123, .aload_n 0, 1), (124, .getfield 62, 3), (127, .invokevirtual 401, 3), (130, .ireturn, 1), (131, .aload_n 0, 1), (132, .getfield 55, 3), (135, .getfield 404, 3), (138, .ireturn, 1), (139, .iconst (-1), 1), (140, .ireturn, 1)]
theorem dt_X9_countNow : dOk cX9_countNow tb_X9_countNow = true := by decide +kernel
def fX9_countNow (h : Hp) (x1 : Int32) : Option (Int32 × Hp) := if inT x1 6 15 then (if x1 = (6 : Int32) then (some ((hI h 72 1), h)) else (if x1 = (7 : Int32) then (bnd (fX8_wonByAll 72 h) (fun v_3 h_4 => some (v_3, h_4))) else (if x1 = (8 : Int32) then (bnd (fX8_beatenByAll 72 h) (fun v_6 h_7 => some (v_6, h_7))) else (if x1 = (9 : Int32) then (bnd (fJ6_bitCount_0f7a4 h (hI h 72 2)) (fun v_9 h_10 => some (v_9, h_10))) else (if x1 = (10 : Int32) then (some ((hI h 72 3), h)) else (if x1 = (11 : Int32) then (bnd (fX8_fullOfAll 72 h) (fun v_13 h_14 => some (v_13, h_14))) else (if x1 = (12 : Int32) then (bnd (fX8_heldByAll 72 h) (fun v_16 h_17 => some (v_16, h_17))) else (if x1 = (13 : Int32) then (some ((hI h 97 0), h)) else (if x1 = (14 : Int32) then (bnd (fX2_knownLimit h) (fun v_20 h_21 => some (v_20, h_21))) else (if x1 = (15 : Int32) then (some ((hI h 90 0), h)) else none)))))))))) else (some ((-1 : Int32), h))
set_option maxRecDepth 100000 in
set_option maxHeartbeats 4000000 in
theorem c_X9_countNow {l : Launch} {sb : State} {D : va_G} {ids : Nat → ClassId} {n : Nat} (hN : 152 ≤ n) (h : Hp) (x1 : Int32) (r : Int32 × Hp) (hr : fX9_countNow h x1 = some r) : jM l yX9_countNow cX9_countNow 2 (some .int) 2 sb D ids shp St n [.ref 0, .int x1] h (jQi sb D ids shp St n r) := by
  refine jM_of hr rfl (Nat.le_of_ble_eq_true rfl) ?_
  intro p e s m args below meth c hC hret
  unfold fX9_countNow
  refine j_iload_n hC 1 rfl rfl (dOk_at dt_X9_countNow 0 rfl) ?_
  refine j_ite (P := inT x1 6 15 = true) (fun _ => ?_) (fun q => ?_)
  · refine j_ite (P := x1 = (6 : Int32)) (fun q_1 => ?_) (fun _ => ?_)
    · refine j_tswIn hC (tgt := 56) q_1 (by decide) (by decide) rfl (by decide) (dOk_at dt_X9_countNow 1 rfl) ?_
      refine j_aload_n hC 0 rfl rfl (dOk_at dt_X9_countNow 2 rfl) ?_
      refine j_getR hC flX9_38 (show shp 0 = (9, 12) from rfl) (Nat.lt_of_lt_of_le (Nat.le_of_ble_eq_true rfl : 0 < 152) hN) (by decide) (by decide) (fun _ _ _ => rfl) (fun hs => hs 0 5 72 rfl) (dOk_at dt_X9_countNow 3 rfl) ?_
      refine j_getI hC flX9_213 (show shp 72 = (8, 15) from rfl) (Nat.lt_of_lt_of_le (Nat.le_of_ble_eq_true rfl : 72 < 152) hN) (by decide) (by decide) (fun _ _ _ => rfl) (dOk_at dt_X9_countNow 4 rfl) ?_
      exact j_iret hC hret (dOk_at dt_X9_countNow 5 rfl)
    refine j_ite (P := x1 = (7 : Int32)) (fun q_2 => ?_) (fun _ => ?_)
    · refine j_tswIn hC (tgt := 64) q_2 (by decide) (by decide) rfl (by decide) (dOk_at dt_X9_countNow 1 rfl) ?_
      refine j_aload_n hC 0 rfl rfl (dOk_at dt_X9_countNow 6 rfl) ?_
      refine j_getR hC flX9_38 (show shp 0 = (9, 12) from rfl) (Nat.lt_of_lt_of_le (Nat.le_of_ble_eq_true rfl : 0 < 152) hN) (by decide) (by decide) (fun _ _ _ => rfl) (fun hs => hs 0 5 72 rfl) (dOk_at dt_X9_countNow 7 rfl) ?_
      refine j_callVi hC clX9_222 (fun r0 hr0 => c_X8_wonByAll hN ((show shp 72 = (8, 15) from rfl)) _ r0 hr0) (show shp 72 = (8, 15) from rfl) (Nat.lt_of_lt_of_le (Nat.le_of_ble_eq_true rfl : 72 < 152) hN) (by decide) rfl rfl ⟨Nat.le_of_ble_eq_true rfl, Nat.le_of_ble_eq_true rfl⟩ ⟨Nat.le_refl 0, Nat.le_refl 0⟩ (As := []) (st := []) rfl (Nat.le_of_ble_eq_true rfl) (dOk_at dt_X9_countNow 8 rfl) (fun v_3 h_4 _ => ?_)
      exact j_iret hC hret (dOk_at dt_X9_countNow 9 rfl)
    refine j_ite (P := x1 = (8 : Int32)) (fun q_5 => ?_) (fun _ => ?_)
    · refine j_tswIn hC (tgt := 72) q_5 (by decide) (by decide) rfl (by decide) (dOk_at dt_X9_countNow 1 rfl) ?_
      refine j_aload_n hC 0 rfl rfl (dOk_at dt_X9_countNow 10 rfl) ?_
      refine j_getR hC flX9_38 (show shp 0 = (9, 12) from rfl) (Nat.lt_of_lt_of_le (Nat.le_of_ble_eq_true rfl : 0 < 152) hN) (by decide) (by decide) (fun _ _ _ => rfl) (fun hs => hs 0 5 72 rfl) (dOk_at dt_X9_countNow 11 rfl) ?_
      refine j_callVi hC clX9_226 (fun r0 hr0 => c_X8_beatenByAll hN ((show shp 72 = (8, 15) from rfl)) _ r0 hr0) (show shp 72 = (8, 15) from rfl) (Nat.lt_of_lt_of_le (Nat.le_of_ble_eq_true rfl : 72 < 152) hN) (by decide) rfl rfl ⟨Nat.le_of_ble_eq_true rfl, Nat.le_of_ble_eq_true rfl⟩ ⟨Nat.le_refl 0, Nat.le_refl 0⟩ (As := []) (st := []) rfl (Nat.le_of_ble_eq_true rfl) (dOk_at dt_X9_countNow 12 rfl) (fun v_6 h_7 _ => ?_)
      exact j_iret hC hret (dOk_at dt_X9_countNow 13 rfl)
    refine j_ite (P := x1 = (9 : Int32)) (fun q_8 => ?_) (fun _ => ?_)
    · refine j_tswIn hC (tgt := 80) q_8 (by decide) (by decide) rfl (by decide) (dOk_at dt_X9_countNow 1 rfl) ?_
      refine j_aload_n hC 0 rfl rfl (dOk_at dt_X9_countNow 14 rfl) ?_
      refine j_getR hC flX9_38 (show shp 0 = (9, 12) from rfl) (Nat.lt_of_lt_of_le (Nat.le_of_ble_eq_true rfl : 0 < 152) hN) (by decide) (by decide) (fun _ _ _ => rfl) (fun hs => hs 0 5 72 rfl) (dOk_at dt_X9_countNow 15 rfl) ?_
      refine j_getI hC flX9_229 (show shp 72 = (8, 15) from rfl) (Nat.lt_of_lt_of_le (Nat.le_of_ble_eq_true rfl : 72 < 152) hN) (by decide) (by decide) (fun _ _ _ => rfl) (dOk_at dt_X9_countNow 16 rfl) ?_
      refine j_callSi hC clX9_208 (fun r0 hr0 => c_J6_bitCount_0f7a4 hN _ _ r0 hr0) rfl ⟨Nat.le_of_ble_eq_true rfl, Nat.le_of_ble_eq_true rfl⟩ ⟨Nat.le_refl 0, Nat.le_refl 0⟩ (As := [.int (hI h 72 2)]) (st := []) rfl (Nat.le_of_ble_eq_true rfl) (dOk_at dt_X9_countNow 17 rfl) (fun v_9 h_10 _ => ?_)
      exact j_iret hC hret (dOk_at dt_X9_countNow 18 rfl)
    refine j_ite (P := x1 = (10 : Int32)) (fun q_11 => ?_) (fun _ => ?_)
    · refine j_tswIn hC (tgt := 91) q_11 (by decide) (by decide) rfl (by decide) (dOk_at dt_X9_countNow 1 rfl) ?_
      refine j_aload_n hC 0 rfl rfl (dOk_at dt_X9_countNow 19 rfl) ?_
      refine j_getR hC flX9_38 (show shp 0 = (9, 12) from rfl) (Nat.lt_of_lt_of_le (Nat.le_of_ble_eq_true rfl : 0 < 152) hN) (by decide) (by decide) (fun _ _ _ => rfl) (fun hs => hs 0 5 72 rfl) (dOk_at dt_X9_countNow 20 rfl) ?_
      refine j_getI hC flX9_232 (show shp 72 = (8, 15) from rfl) (Nat.lt_of_lt_of_le (Nat.le_of_ble_eq_true rfl : 72 < 152) hN) (by decide) (by decide) (fun _ _ _ => rfl) (dOk_at dt_X9_countNow 21 rfl) ?_
      exact j_iret hC hret (dOk_at dt_X9_countNow 22 rfl)
    refine j_ite (P := x1 = (11 : Int32)) (fun q_12 => ?_) (fun _ => ?_)
    · refine j_tswIn hC (tgt := 99) q_12 (by decide) (by decide) rfl (by decide) (dOk_at dt_X9_countNow 1 rfl) ?_
      refine j_aload_n hC 0 rfl rfl (dOk_at dt_X9_countNow 23 rfl) ?_
      refine j_getR hC flX9_38 (show shp 0 = (9, 12) from rfl) (Nat.lt_of_lt_of_le (Nat.le_of_ble_eq_true rfl : 0 < 152) hN) (by decide) (by decide) (fun _ _ _ => rfl) (fun hs => hs 0 5 72 rfl) (dOk_at dt_X9_countNow 24 rfl) ?_
      refine j_callVi hC clX9_395 (fun r0 hr0 => c_X8_fullOfAll hN ((show shp 72 = (8, 15) from rfl)) _ r0 hr0) (show shp 72 = (8, 15) from rfl) (Nat.lt_of_lt_of_le (Nat.le_of_ble_eq_true rfl : 72 < 152) hN) (by decide) rfl rfl ⟨Nat.le_of_ble_eq_true rfl, Nat.le_of_ble_eq_true rfl⟩ ⟨Nat.le_refl 0, Nat.le_refl 0⟩ (As := []) (st := []) rfl (Nat.le_of_ble_eq_true rfl) (dOk_at dt_X9_countNow 25 rfl) (fun v_13 h_14 _ => ?_)
      exact j_iret hC hret (dOk_at dt_X9_countNow 26 rfl)
    refine j_ite (P := x1 = (12 : Int32)) (fun q_15 => ?_) (fun _ => ?_)
    · refine j_tswIn hC (tgt := 107) q_15 (by decide) (by decide) rfl (by decide) (dOk_at dt_X9_countNow 1 rfl) ?_
      refine j_aload_n hC 0 rfl rfl (dOk_at dt_X9_countNow 27 rfl) ?_
      refine j_getR hC flX9_38 (show shp 0 = (9, 12) from rfl) (Nat.lt_of_lt_of_le (Nat.le_of_ble_eq_true rfl : 0 < 152) hN) (by decide) (by decide) (fun _ _ _ => rfl) (fun hs => hs 0 5 72 rfl) (dOk_at dt_X9_countNow 28 rfl) ?_
      refine j_callVi hC clX9_398 (fun r0 hr0 => c_X8_heldByAll hN ((show shp 72 = (8, 15) from rfl)) _ r0 hr0) (show shp 72 = (8, 15) from rfl) (Nat.lt_of_lt_of_le (Nat.le_of_ble_eq_true rfl : 72 < 152) hN) (by decide) rfl rfl ⟨Nat.le_of_ble_eq_true rfl, Nat.le_of_ble_eq_true rfl⟩ ⟨Nat.le_refl 0, Nat.le_refl 0⟩ (As := []) (st := []) rfl (Nat.le_of_ble_eq_true rfl) (dOk_at dt_X9_countNow 29 rfl) (fun v_16 h_17 _ => ?_)
      exact j_iret hC hret (dOk_at dt_X9_countNow 30 rfl)
    refine j_ite (P := x1 = (13 : Int32)) (fun q_18 => ?_) (fun _ => ?_)
    · refine j_tswIn hC (tgt := 115) q_18 (by decide) (by decide) rfl (by decide) (dOk_at dt_X9_countNow 1 rfl) ?_
      refine j_aload_n hC 0 rfl rfl (dOk_at dt_X9_countNow 31 rfl) ?_
      refine j_getR hC flX9_62 (show shp 0 = (9, 12) from rfl) (Nat.lt_of_lt_of_le (Nat.le_of_ble_eq_true rfl : 0 < 152) hN) (by decide) (by decide) (fun _ _ _ => rfl) (fun hs => hs 0 10 97 rfl) (dOk_at dt_X9_countNow 32 rfl) ?_
      refine j_getI hC flX9_313 (show shp 97 = (2, 7) from rfl) (Nat.lt_of_lt_of_le (Nat.le_of_ble_eq_true rfl : 97 < 152) hN) (by decide) (by decide) (fun _ _ _ => rfl) (dOk_at dt_X9_countNow 33 rfl) ?_
      exact j_iret hC hret (dOk_at dt_X9_countNow 34 rfl)
    refine j_ite (P := x1 = (14 : Int32)) (fun q_19 => ?_) (fun _ => ?_)
    · refine j_tswIn hC (tgt := 123) q_19 (by decide) (by decide) rfl (by decide) (dOk_at dt_X9_countNow 1 rfl) ?_
      refine j_aload_n hC 0 rfl rfl (dOk_at dt_X9_countNow 35 rfl) ?_
      refine j_getR hC flX9_62 (show shp 0 = (9, 12) from rfl) (Nat.lt_of_lt_of_le (Nat.le_of_ble_eq_true rfl : 0 < 152) hN) (by decide) (by decide) (fun _ _ _ => rfl) (fun hs => hs 0 10 97 rfl) (dOk_at dt_X9_countNow 36 rfl) ?_
      refine j_callVi hC clX9_401 (fun r0 hr0 => c_X2_knownLimit hN _ r0 hr0) (show shp 97 = (2, 7) from rfl) (Nat.lt_of_lt_of_le (Nat.le_of_ble_eq_true rfl : 97 < 152) hN) (by decide) rfl rfl ⟨Nat.le_of_ble_eq_true rfl, Nat.le_of_ble_eq_true rfl⟩ ⟨Nat.le_refl 0, Nat.le_refl 0⟩ (As := []) (st := []) rfl (Nat.le_of_ble_eq_true rfl) (dOk_at dt_X9_countNow 37 rfl) (fun v_20 h_21 _ => ?_)
      exact j_iret hC hret (dOk_at dt_X9_countNow 38 rfl)
    refine j_ite (P := x1 = (15 : Int32)) (fun q_22 => ?_) (fun _ => ?_)
    · refine j_tswIn hC (tgt := 131) q_22 (by decide) (by decide) rfl (by decide) (dOk_at dt_X9_countNow 1 rfl) ?_
      refine j_aload_n hC 0 rfl rfl (dOk_at dt_X9_countNow 39 rfl) ?_
      refine j_getR hC flX9_55 (show shp 0 = (9, 12) from rfl) (Nat.lt_of_lt_of_le (Nat.le_of_ble_eq_true rfl : 0 < 152) hN) (by decide) (by decide) (fun _ _ _ => rfl) (fun hs => hs 0 9 90 rfl) (dOk_at dt_X9_countNow 40 rfl) ?_
      refine j_getI hC flX9_404 (show shp 90 = (4, 8) from rfl) (Nat.lt_of_lt_of_le (Nat.le_of_ble_eq_true rfl : 90 < 152) hN) (by decide) (by decide) (fun _ _ _ => rfl) (dOk_at dt_X9_countNow 41 rfl) ?_
      exact j_iret hC hret (dOk_at dt_X9_countNow 42 rfl)
    exact j_none
  · refine j_tswOut hC (tgt := 139) q (by decide) (dOk_at dt_X9_countNow 1 rfl) ?_
    refine j_iconst hC (v := (-1 : Int32)) rfl (dOk_at dt_X9_countNow 43 rfl) ?_
    exact j_iret hC hret (dOk_at dt_X9_countNow 44 rfl)
def tb_X9_count : List (Nat × Instr × Nat) := [(0, .iload_n 1, 1), (1, .bipush 6, 2), (3, .if_icmp .ge 11, 3), (6, .aload_n 0, 1), (7, .iload_n 1, 1), (8, .invokevirtual 355, 3), (11, .goto 8, 3), (14, .aload_n 0, 1), (15, .iload_n 1, 1), (16, .invokevirtual 358, 3), (19, .ireturn, 1)]
theorem dt_X9_count : dOk cX9_count tb_X9_count = true := by decide +kernel
def fX9_count (h : Hp) (x1 : Int32) : Option (Int32 × Hp) := if (6 : Int32) ≤ x1 then (bnd (fX9_countNow h x1) (fun v_2 h_3 => some (v_2, h_3))) else (bnd (fX9_countTold h x1) (fun v_4 h_5 => some (v_4, h_5)))
set_option maxRecDepth 100000 in
set_option maxHeartbeats 4000000 in
theorem c_X9_count {l : Launch} {sb : State} {D : va_G} {ids : Nat → ClassId} {n : Nat} (hN : 152 ≤ n) (h : Hp) (x1 : Int32) (r : Int32 × Hp) (hr : fX9_count h x1 = some r) : jM l yX9_count cX9_count 2 (some .int) 3 sb D ids shp St n [.ref 0, .int x1] h (jQi sb D ids shp St n r) := by
  refine jM_of hr rfl (Nat.le_of_ble_eq_true rfl) ?_
  intro p e s m args below meth c hC hret
  unfold fX9_count
  refine j_iload_n hC 1 rfl rfl (dOk_at dt_X9_count 0 rfl) ?_
  refine j_bipush hC (v := (6 : Int32)) rfl (dOk_at dt_X9_count 1 rfl) ?_
  refine j_icmp_ge hC (tgt := 14) (by decide) (dOk_at dt_X9_count 2 rfl) (fun q_1 => ?_) (fun q_1 => ?_)
  · refine j_aload_n hC 0 rfl rfl (dOk_at dt_X9_count 7 rfl) ?_
    refine j_iload_n hC 1 rfl rfl (dOk_at dt_X9_count 8 rfl) ?_
    refine j_callVi hC clX9_358 (fun r0 hr0 => c_X9_countNow hN _ _ r0 hr0) (show shp 0 = (9, 12) from rfl) (Nat.lt_of_lt_of_le (Nat.le_of_ble_eq_true rfl : 0 < 152) hN) (by decide) rfl rfl ⟨Nat.le_of_ble_eq_true rfl, Nat.le_of_ble_eq_true rfl⟩ ⟨Nat.le_refl 0, Nat.le_refl 0⟩ (As := [.int x1]) (st := []) rfl (Nat.le_of_ble_eq_true rfl) (dOk_at dt_X9_count 9 rfl) (fun v_2 h_3 _ => ?_)
    exact j_iret hC hret (dOk_at dt_X9_count 10 rfl)
  · refine j_aload_n hC 0 rfl rfl (dOk_at dt_X9_count 3 rfl) ?_
    refine j_iload_n hC 1 rfl rfl (dOk_at dt_X9_count 4 rfl) ?_
    refine j_callVi hC clX9_355 (fun r0 hr0 => c_X9_countTold hN _ _ r0 hr0) (show shp 0 = (9, 12) from rfl) (Nat.lt_of_lt_of_le (Nat.le_of_ble_eq_true rfl : 0 < 152) hN) (by decide) rfl rfl ⟨Nat.le_of_ble_eq_true rfl, Nat.le_of_ble_eq_true rfl⟩ ⟨Nat.le_refl 0, Nat.le_refl 0⟩ (As := [.int x1]) (st := []) rfl (Nat.le_of_ble_eq_true rfl) (dOk_at dt_X9_count 5 rfl) (fun v_4 h_5 _ => ?_)
    refine j_goto hC (tgt := 19) (by decide) (dOk_at dt_X9_count 6 rfl) ?_
    exact j_iret hC hret (dOk_at dt_X9_count 10 rfl)
