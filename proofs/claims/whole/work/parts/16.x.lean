def tb_X9_tried : List (Nat × Instr × Nat) := [(0, .iload_n 3, 1), (1, .ifCond .lt 19, 3), (4, .iload_n 3, 1), (5, .sipush 200, 3), (8, .if_icmp .gt 12, 3), (11, .iload_n 1, 1), (12, .ifCond .lt 8, 3), (15, .iload_n 1, 1), (16, .iconst 4, 1), (17, .if_icmp .le 5, 3), (20, .iconst (-1), 1), (21, .ireturn, 1), (22, .iload_n 1, 1), (23, .iconst 2, 1), (24, .if_icmp .ne 14, 3), (27, .aload_n 0, 1), (28, .iload_n 2, 1), (29, .invokevirtual 168, 3), (32, .ifCond .ne 12, 3), (35, .goto 7, 3), (38, .iload_n 2, 1), (39, .ifCond .eq 5, 3), (42, .iconst (-1), 1), (43, .ireturn, 1), (44, .aload_n 0, 1), (45, .invokevirtual 219, 3), (48, .aload_n 0, 1), (49, .getfield 45, 3), (52, .iload_n 1, 1), (53, .ifCond .ne 7, 3), (56, .iconst 1, 1), (57, .goto 4, 3), (60, .iconst 0, 1), (61, .putfield 335, 3), (64, .aload_n 0, 1), (65, .getfield 45, 3), (68, .iload_n 1, 1), (69, .iconst 1, 1), (70, .if_icmp .ne 7, 3), (73, .iconst 1, 1), (74, .goto 4, 3), (77, .iconst 0, 1), (78, .putfield 338, 3), (81, .aload_n 0, 1), (82, .getfield 45, 3), (85, .iload_n 1, 1), (86, .iconst 2, 1), (87, .if_icmp .ne 7, 3), (90, .iload_n 2, 1), (91, .goto 4, 3), (94, .iconst (-1), 1), (95, .putfield 341, 3), (98, .iload_n 1, 1), (99, .iconst 3, 1), (100, .if_icmp .ne 10, 3), (103, .aload_n 0, 1), (104, .getfield 45, 3), (107, .invokevirtual 344, 3), (110, .aload_n 0, 1), (111, .getfield 45, 3), (114, .iload_n 1, 1), (115, .iconst 4, 1), (116, .if_icmp .ne 7, 3), (119, .iconst 1, 1), (120, .goto 4, 3), (123, .iconst 0, 1), (124, .putfield 347, 3), (127, .aload_n 0, 1), (128, .getfield 45, 3), (131, .iload_n 3, 1), (132, .invokevirtual 216, 3), (135, .aload_n 0, 1), (136, .getfield 45, 3), (139, .invokevirtual 222, 3), (142, .aload_n 0, 1), (143, .getfield 38, 3), (146, .invokevirtual 222, 3), (149, .isub, 1), (150, .ireturn, 1)]
theorem dt_X9_tried : dOk cX9_tried tb_X9_tried = true := by decide +kernel
def fX9_tried_124 (h : Hp) (x3 : Int32) (s1 : Int32) : Option (Int32 × Hp) := if isZ s1 then ((fX8_passNights 84 (uI h 84 13 s1) x3).bind (fun h_23 => bnd (fX8_wonByAll 84 h_23) (fun v_24 h_25 => bnd (fX8_wonByAll 72 h_25) (fun v_26 h_27 => some ((v_24 - v_26), h_27))))) else none
def fX9_tried_110 (h : Hp) (x1 : Int32) (x3 : Int32) : Option (Int32 × Hp) := if x1 = (4 : Int32) then (fX9_tried_124 h x3 (1 : Int32)) else (fX9_tried_124 h x3 (0 : Int32))
def fX9_tried_95 (h : Hp) (x1 : Int32) (x3 : Int32) (s1 : Int32) : Option (Int32 × Hp) := if x1 = (3 : Int32) then ((fX8_stuffAll 84 (uI h 84 14 s1)).bind (fun h_19 => fX9_tried_110 h_19 x1 x3)) else (fX9_tried_110 (uI h 84 14 s1) x1 x3)
def fX9_tried_78 (h : Hp) (x1 : Int32) (x2 : Int32) (x3 : Int32) (s1 : Int32) : Option (Int32 × Hp) := if isZ s1 then (if x1 = (2 : Int32) then (fX9_tried_95 (uI h 84 12 s1) x1 x3 x2) else (fX9_tried_95 (uI h 84 12 s1) x1 x3 (-1 : Int32))) else none
def fX9_tried_61 (h : Hp) (x1 : Int32) (x2 : Int32) (x3 : Int32) (s1 : Int32) : Option (Int32 × Hp) := if isZ s1 then (if x1 = (1 : Int32) then (fX9_tried_78 (uI h 84 11 s1) x1 x2 x3 (1 : Int32)) else (fX9_tried_78 (uI h 84 11 s1) x1 x2 x3 (0 : Int32))) else none
def fX9_tried_44 (h : Hp) (x1 : Int32) (x2 : Int32) (x3 : Int32) : Option (Int32 × Hp) := (fX9_startTrial h).bind (fun h_11 => if x1 = 0 then (fX9_tried_61 h_11 x1 x2 x3 (1 : Int32)) else (fX9_tried_61 h_11 x1 x2 x3 (0 : Int32)))
def fX9_tried (h : Hp) (x1 : Int32) (x2 : Int32) (x3 : Int32) : Option (Int32 × Hp) := if x3 < 0 then (some ((-1 : Int32), h)) else (if (200 : Int32) < x3 then (some ((-1 : Int32), h)) else (if x1 < 0 then (some ((-1 : Int32), h)) else (if x1 ≤ (4 : Int32) then (if x1 = (2 : Int32) then (bnd (fX9_isMember h x2) (fun v_7 h_8 => if v_7 = 0 then (some ((-1 : Int32), h_8)) else (fX9_tried_44 h_8 x1 x2 x3))) else (if x2 = 0 then (fX9_tried_44 h x1 x2 x3) else (some ((-1 : Int32), h)))) else (some ((-1 : Int32), h)))))
set_option maxRecDepth 100000 in
set_option maxHeartbeats 4000000 in
theorem c_X9_tried {l : Launch} {sb : State} {D : va_G} {ids : Nat → ClassId} {n : Nat} (hN : 152 ≤ n) (h : Hp) (x1 : Int32) (x2 : Int32) (x3 : Int32) (r : Int32 × Hp) (hr : fX9_tried h x1 x2 x3 = some r) : jM l yX9_tried cX9_tried 4 (some .int) 7 sb D ids shp St n [.ref 0, .int x1, .int x2, .int x3] h (jQi sb D ids shp St n r) := by
  refine jM_of hr rfl (Nat.le_of_ble_eq_true rfl) ?_
  intro p e s m args below meth c hC hret
  have b124 : ∀ (h : Hp) (x3 : Int32) (s1 : Int32) , jJ p l e (rmD 7) s m args below meth c 4 sb D ids shp St (fun r => MQ below (jQi sb D ids shp St n r) args s 0 0 (jA sb)) n 0 0 h 124 [(0, .ref 0), (3, .int x3)] [.int s1, .ref 84] (fX9_tried_124 h x3 s1) := by
    intro h x3 s1 
    unfold fX9_tried_124
    refine j_ite (P := isZ s1 = true) (fun hz_21 => ?_) (fun _ => j_none)
    refine j_putZ hC St_SP flX9_347 (show shp 84 = (8, 15) from rfl) (Nat.lt_of_lt_of_le (Nat.le_of_ble_eq_true rfl : 84 < 152) hN) (by decide) (by decide) rfl rfl hz_21 (dOk_at dt_X9_tried 66 rfl) ?_
    refine j_aload_n hC 0 rfl rfl (dOk_at dt_X9_tried 67 rfl) ?_
    refine j_getR hC flX9_45 (show shp 0 = (9, 12) from rfl) (Nat.lt_of_lt_of_le (Nat.le_of_ble_eq_true rfl : 0 < 152) hN) (by decide) (by decide) (fun _ _ _ => rfl) (fun hs => hs 0 7 84 rfl) (dOk_at dt_X9_tried 68 rfl) ?_
    refine j_iload_n hC 1 rfl rfl (dOk_at dt_X9_tried 69 rfl) ?_
    refine j_callVv hC clX9_216 (fun rz hrz => c_X8_passNights hN ((show shp 84 = (8, 15) from rfl)) _ _ rz hrz) (show shp 84 = (8, 15) from rfl) (Nat.lt_of_lt_of_le (Nat.le_of_ble_eq_true rfl : 84 < 152) hN) (by decide) rfl rfl ⟨Nat.le_of_ble_eq_true rfl, Nat.le_of_ble_eq_true rfl⟩ ⟨Nat.le_refl 0, Nat.le_refl 0⟩ (As := [.int x3]) (st := []) rfl (Nat.le_of_ble_eq_true rfl) (dOk_at dt_X9_tried 70 rfl) (fun h_23 _ => ?_)
    refine j_aload_n hC 0 rfl rfl (dOk_at dt_X9_tried 71 rfl) ?_
    refine j_getR hC flX9_45 (show shp 0 = (9, 12) from rfl) (Nat.lt_of_lt_of_le (Nat.le_of_ble_eq_true rfl : 0 < 152) hN) (by decide) (by decide) (fun _ _ _ => rfl) (fun hs => hs 0 7 84 rfl) (dOk_at dt_X9_tried 72 rfl) ?_
    refine j_callVi hC clX9_222 (fun rz hrz => c_X8_wonByAll hN ((show shp 84 = (8, 15) from rfl)) _ rz hrz) (show shp 84 = (8, 15) from rfl) (Nat.lt_of_lt_of_le (Nat.le_of_ble_eq_true rfl : 84 < 152) hN) (by decide) rfl rfl ⟨Nat.le_of_ble_eq_true rfl, Nat.le_of_ble_eq_true rfl⟩ ⟨Nat.le_refl 0, Nat.le_refl 0⟩ (As := []) (st := []) rfl (Nat.le_of_ble_eq_true rfl) (dOk_at dt_X9_tried 73 rfl) (fun v_24 h_25 _ => ?_)
    refine j_aload_n hC 0 rfl rfl (dOk_at dt_X9_tried 74 rfl) ?_
    refine j_getR hC flX9_38 (show shp 0 = (9, 12) from rfl) (Nat.lt_of_lt_of_le (Nat.le_of_ble_eq_true rfl : 0 < 152) hN) (by decide) (by decide) (fun _ _ _ => rfl) (fun hs => hs 0 5 72 rfl) (dOk_at dt_X9_tried 75 rfl) ?_
    refine j_callVi hC clX9_222 (fun rz hrz => c_X8_wonByAll hN ((show shp 72 = (8, 15) from rfl)) _ rz hrz) (show shp 72 = (8, 15) from rfl) (Nat.lt_of_lt_of_le (Nat.le_of_ble_eq_true rfl : 72 < 152) hN) (by decide) rfl rfl ⟨Nat.le_of_ble_eq_true rfl, Nat.le_of_ble_eq_true rfl⟩ ⟨Nat.le_refl 0, Nat.le_refl 0⟩ (As := []) (st := [.int v_24]) rfl (Nat.le_of_ble_eq_true rfl) (dOk_at dt_X9_tried 76 rfl) (fun v_26 h_27 _ => ?_)
    refine j_isub hC (dOk_at dt_X9_tried 77 rfl) ?_
    exact j_iret hC hret (dOk_at dt_X9_tried 78 rfl)
  have b110 : ∀ (h : Hp) (x1 : Int32) (x3 : Int32) , jJ p l e (rmD 7) s m args below meth c 4 sb D ids shp St (fun r => MQ below (jQi sb D ids shp St n r) args s 0 0 (jA sb)) n 0 0 h 110 [(0, .ref 0), (1, .int x1), (3, .int x3)] [] (fX9_tried_110 h x1 x3) := by
    intro h x1 x3 
    unfold fX9_tried_110
    refine j_aload_n hC 0 rfl rfl (dOk_at dt_X9_tried 58 rfl) ?_
    refine j_getR hC flX9_45 (show shp 0 = (9, 12) from rfl) (Nat.lt_of_lt_of_le (Nat.le_of_ble_eq_true rfl : 0 < 152) hN) (by decide) (by decide) (fun _ _ _ => rfl) (fun hs => hs 0 7 84 rfl) (dOk_at dt_X9_tried 59 rfl) ?_
    refine j_iload_n hC 1 rfl rfl (dOk_at dt_X9_tried 60 rfl) ?_
    refine j_iconst hC (v := (4 : Int32)) rfl (dOk_at dt_X9_tried 61 rfl) ?_
    refine j_icmp_ne hC (tgt := 123) (by decide) (dOk_at dt_X9_tried 62 rfl) (fun q_20 => ?_) (fun q_20 => ?_)
    · refine j_iconst hC (v := (0 : Int32)) rfl (dOk_at dt_X9_tried 65 rfl) ?_
      refine j_sub [0, 2] rfl ?_
      exact b124 h x3 (0 : Int32) 
    · refine j_iconst hC (v := (1 : Int32)) rfl (dOk_at dt_X9_tried 63 rfl) ?_
      refine j_goto hC (tgt := 124) (by decide) (dOk_at dt_X9_tried 64 rfl) ?_
      refine j_sub [0, 2] rfl ?_
      exact b124 h x3 (1 : Int32) 
  have b95 : ∀ (h : Hp) (x1 : Int32) (x3 : Int32) (s1 : Int32) , jJ p l e (rmD 7) s m args below meth c 4 sb D ids shp St (fun r => MQ below (jQi sb D ids shp St n r) args s 0 0 (jA sb)) n 0 0 h 95 [(0, .ref 0), (1, .int x1), (3, .int x3)] [.int s1, .ref 84] (fX9_tried_95 h x1 x3 s1) := by
    intro h x1 x3 s1 
    unfold fX9_tried_95
    refine j_putI hC St_SP flX9_341 (show shp 84 = (8, 15) from rfl) (Nat.lt_of_lt_of_le (Nat.le_of_ble_eq_true rfl : 84 < 152) hN) (by decide) (by decide) rfl rfl (dOk_at dt_X9_tried 51 rfl) ?_
    refine j_iload_n hC 1 rfl rfl (dOk_at dt_X9_tried 52 rfl) ?_
    refine j_iconst hC (v := (3 : Int32)) rfl (dOk_at dt_X9_tried 53 rfl) ?_
    refine j_icmp_ne hC (tgt := 110) (by decide) (dOk_at dt_X9_tried 54 rfl) (fun q_17 => ?_) (fun q_17 => ?_)
    · exact b110 (uI h 84 14 s1) x1 x3 
    · refine j_aload_n hC 0 rfl rfl (dOk_at dt_X9_tried 55 rfl) ?_
      refine j_getR hC flX9_45 (show shp 0 = (9, 12) from rfl) (Nat.lt_of_lt_of_le (Nat.le_of_ble_eq_true rfl : 0 < 152) hN) (by decide) (by decide) (fun _ _ _ => rfl) (fun hs => hs 0 7 84 rfl) (dOk_at dt_X9_tried 56 rfl) ?_
      refine j_callVv hC clX9_344 (fun rz hrz => c_X8_stuffAll hN ((show shp 84 = (8, 15) from rfl)) _ rz hrz) (show shp 84 = (8, 15) from rfl) (Nat.lt_of_lt_of_le (Nat.le_of_ble_eq_true rfl : 84 < 152) hN) (by decide) rfl rfl ⟨Nat.le_of_ble_eq_true rfl, Nat.le_of_ble_eq_true rfl⟩ ⟨Nat.le_refl 0, Nat.le_refl 0⟩ (As := []) (st := []) rfl (Nat.le_of_ble_eq_true rfl) (dOk_at dt_X9_tried 57 rfl) (fun h_19 _ => ?_)
      exact b110 h_19 x1 x3 
  have b78 : ∀ (h : Hp) (x1 : Int32) (x2 : Int32) (x3 : Int32) (s1 : Int32) , jJ p l e (rmD 7) s m args below meth c 4 sb D ids shp St (fun r => MQ below (jQi sb D ids shp St n r) args s 0 0 (jA sb)) n 0 0 h 78 [(0, .ref 0), (1, .int x1), (2, .int x2), (3, .int x3)] [.int s1, .ref 84] (fX9_tried_78 h x1 x2 x3 s1) := by
    intro h x1 x2 x3 s1 
    unfold fX9_tried_78
    refine j_ite (P := isZ s1 = true) (fun hz_15 => ?_) (fun _ => j_none)
    refine j_putZ hC St_SP flX9_338 (show shp 84 = (8, 15) from rfl) (Nat.lt_of_lt_of_le (Nat.le_of_ble_eq_true rfl : 84 < 152) hN) (by decide) (by decide) rfl rfl hz_15 (dOk_at dt_X9_tried 42 rfl) ?_
    refine j_aload_n hC 0 rfl rfl (dOk_at dt_X9_tried 43 rfl) ?_
    refine j_getR hC flX9_45 (show shp 0 = (9, 12) from rfl) (Nat.lt_of_lt_of_le (Nat.le_of_ble_eq_true rfl : 0 < 152) hN) (by decide) (by decide) (fun _ _ _ => rfl) (fun hs => hs 0 7 84 rfl) (dOk_at dt_X9_tried 44 rfl) ?_
    refine j_iload_n hC 1 rfl rfl (dOk_at dt_X9_tried 45 rfl) ?_
    refine j_iconst hC (v := (2 : Int32)) rfl (dOk_at dt_X9_tried 46 rfl) ?_
    refine j_icmp_ne hC (tgt := 94) (by decide) (dOk_at dt_X9_tried 47 rfl) (fun q_16 => ?_) (fun q_16 => ?_)
    · refine j_iconst hC (v := (-1 : Int32)) rfl (dOk_at dt_X9_tried 50 rfl) ?_
      refine j_sub [0, 1, 3] rfl ?_
      exact b95 (uI h 84 12 s1) x1 x3 (-1 : Int32) 
    · refine j_iload_n hC 2 rfl rfl (dOk_at dt_X9_tried 48 rfl) ?_
      refine j_goto hC (tgt := 95) (by decide) (dOk_at dt_X9_tried 49 rfl) ?_
      refine j_sub [0, 1, 3] rfl ?_
      exact b95 (uI h 84 12 s1) x1 x3 x2 
  have b61 : ∀ (h : Hp) (x1 : Int32) (x2 : Int32) (x3 : Int32) (s1 : Int32) , jJ p l e (rmD 7) s m args below meth c 4 sb D ids shp St (fun r => MQ below (jQi sb D ids shp St n r) args s 0 0 (jA sb)) n 0 0 h 61 [(0, .ref 0), (1, .int x1), (2, .int x2), (3, .int x3)] [.int s1, .ref 84] (fX9_tried_61 h x1 x2 x3 s1) := by
    intro h x1 x2 x3 s1 
    unfold fX9_tried_61
    refine j_ite (P := isZ s1 = true) (fun hz_13 => ?_) (fun _ => j_none)
    refine j_putZ hC St_SP flX9_335 (show shp 84 = (8, 15) from rfl) (Nat.lt_of_lt_of_le (Nat.le_of_ble_eq_true rfl : 84 < 152) hN) (by decide) (by decide) rfl rfl hz_13 (dOk_at dt_X9_tried 33 rfl) ?_
    refine j_aload_n hC 0 rfl rfl (dOk_at dt_X9_tried 34 rfl) ?_
    refine j_getR hC flX9_45 (show shp 0 = (9, 12) from rfl) (Nat.lt_of_lt_of_le (Nat.le_of_ble_eq_true rfl : 0 < 152) hN) (by decide) (by decide) (fun _ _ _ => rfl) (fun hs => hs 0 7 84 rfl) (dOk_at dt_X9_tried 35 rfl) ?_
    refine j_iload_n hC 1 rfl rfl (dOk_at dt_X9_tried 36 rfl) ?_
    refine j_iconst hC (v := (1 : Int32)) rfl (dOk_at dt_X9_tried 37 rfl) ?_
    refine j_icmp_ne hC (tgt := 77) (by decide) (dOk_at dt_X9_tried 38 rfl) (fun q_14 => ?_) (fun q_14 => ?_)
    · refine j_iconst hC (v := (0 : Int32)) rfl (dOk_at dt_X9_tried 41 rfl) ?_
      exact b78 (uI h 84 11 s1) x1 x2 x3 (0 : Int32) 
    · refine j_iconst hC (v := (1 : Int32)) rfl (dOk_at dt_X9_tried 39 rfl) ?_
      refine j_goto hC (tgt := 78) (by decide) (dOk_at dt_X9_tried 40 rfl) ?_
      exact b78 (uI h 84 11 s1) x1 x2 x3 (1 : Int32) 
  have b44 : ∀ (h : Hp) (x1 : Int32) (x2 : Int32) (x3 : Int32) , jJ p l e (rmD 7) s m args below meth c 4 sb D ids shp St (fun r => MQ below (jQi sb D ids shp St n r) args s 0 0 (jA sb)) n 0 0 h 44 [(0, .ref 0), (1, .int x1), (2, .int x2), (3, .int x3)] [] (fX9_tried_44 h x1 x2 x3) := by
    intro h x1 x2 x3 
    unfold fX9_tried_44
    refine j_aload_n hC 0 rfl rfl (dOk_at dt_X9_tried 24 rfl) ?_
    refine j_callVv hC clX9_219 (fun rz hrz => c_X9_startTrial hN _ rz hrz) (show shp 0 = (9, 12) from rfl) (Nat.lt_of_lt_of_le (Nat.le_of_ble_eq_true rfl : 0 < 152) hN) (by decide) rfl rfl ⟨Nat.le_of_ble_eq_true rfl, Nat.le_of_ble_eq_true rfl⟩ ⟨Nat.le_refl 0, Nat.le_refl 0⟩ (As := []) (st := []) rfl (Nat.le_of_ble_eq_true rfl) (dOk_at dt_X9_tried 25 rfl) (fun h_11 _ => ?_)
    refine j_aload_n hC 0 rfl rfl (dOk_at dt_X9_tried 26 rfl) ?_
    refine j_getR hC flX9_45 (show shp 0 = (9, 12) from rfl) (Nat.lt_of_lt_of_le (Nat.le_of_ble_eq_true rfl : 0 < 152) hN) (by decide) (by decide) (fun _ _ _ => rfl) (fun hs => hs 0 7 84 rfl) (dOk_at dt_X9_tried 27 rfl) ?_
    refine j_iload_n hC 1 rfl rfl (dOk_at dt_X9_tried 28 rfl) ?_
    refine j_if_ne hC (tgt := 60) (by decide) (dOk_at dt_X9_tried 29 rfl) (fun q_12 => ?_) (fun q_12 => ?_)
    · refine j_iconst hC (v := (0 : Int32)) rfl (dOk_at dt_X9_tried 32 rfl) ?_
      exact b61 h_11 x1 x2 x3 (0 : Int32) 
    · refine j_iconst hC (v := (1 : Int32)) rfl (dOk_at dt_X9_tried 30 rfl) ?_
      refine j_goto hC (tgt := 61) (by decide) (dOk_at dt_X9_tried 31 rfl) ?_
      exact b61 h_11 x1 x2 x3 (1 : Int32) 
  unfold fX9_tried
  refine j_iload_n hC 3 rfl rfl (dOk_at dt_X9_tried 0 rfl) ?_
  refine j_if_lt hC (tgt := 20) (by decide) (dOk_at dt_X9_tried 1 rfl) (fun q_1 => ?_) (fun q_1 => ?_)
  · refine j_iconst hC (v := (-1 : Int32)) rfl (dOk_at dt_X9_tried 10 rfl) ?_
    exact j_iret hC hret (dOk_at dt_X9_tried 11 rfl)
  · refine j_iload_n hC 3 rfl rfl (dOk_at dt_X9_tried 2 rfl) ?_
    refine j_sipush hC (v := (200 : Int32)) rfl (dOk_at dt_X9_tried 3 rfl) ?_
    refine j_icmp_gt hC (tgt := 20) (by decide) (dOk_at dt_X9_tried 4 rfl) (fun q_2 => ?_) (fun q_2 => ?_)
    · refine j_iconst hC (v := (-1 : Int32)) rfl (dOk_at dt_X9_tried 10 rfl) ?_
      exact j_iret hC hret (dOk_at dt_X9_tried 11 rfl)
    · refine j_iload_n hC 1 rfl rfl (dOk_at dt_X9_tried 5 rfl) ?_
      refine j_if_lt hC (tgt := 20) (by decide) (dOk_at dt_X9_tried 6 rfl) (fun q_3 => ?_) (fun q_3 => ?_)
      · refine j_iconst hC (v := (-1 : Int32)) rfl (dOk_at dt_X9_tried 10 rfl) ?_
        exact j_iret hC hret (dOk_at dt_X9_tried 11 rfl)
      · refine j_iload_n hC 1 rfl rfl (dOk_at dt_X9_tried 7 rfl) ?_
        refine j_iconst hC (v := (4 : Int32)) rfl (dOk_at dt_X9_tried 8 rfl) ?_
        refine j_icmp_le hC (tgt := 22) (by decide) (dOk_at dt_X9_tried 9 rfl) (fun q_4 => ?_) (fun q_4 => ?_)
        · refine j_iload_n hC 1 rfl rfl (dOk_at dt_X9_tried 12 rfl) ?_
          refine j_iconst hC (v := (2 : Int32)) rfl (dOk_at dt_X9_tried 13 rfl) ?_
          refine j_icmp_ne hC (tgt := 38) (by decide) (dOk_at dt_X9_tried 14 rfl) (fun q_5 => ?_) (fun q_5 => ?_)
          · refine j_iload_n hC 2 rfl rfl (dOk_at dt_X9_tried 20 rfl) ?_
            refine j_if_eq hC (tgt := 44) (by decide) (dOk_at dt_X9_tried 21 rfl) (fun q_6 => ?_) (fun q_6 => ?_)
            · exact b44 h x1 x2 x3 
            · refine j_iconst hC (v := (-1 : Int32)) rfl (dOk_at dt_X9_tried 22 rfl) ?_
              exact j_iret hC hret (dOk_at dt_X9_tried 23 rfl)
          · refine j_aload_n hC 0 rfl rfl (dOk_at dt_X9_tried 15 rfl) ?_
            refine j_iload_n hC 2 rfl rfl (dOk_at dt_X9_tried 16 rfl) ?_
            refine j_callVi hC clX9_168 (fun rz hrz => c_X9_isMember hN _ _ rz hrz) (show shp 0 = (9, 12) from rfl) (Nat.lt_of_lt_of_le (Nat.le_of_ble_eq_true rfl : 0 < 152) hN) (by decide) rfl rfl ⟨Nat.le_of_ble_eq_true rfl, Nat.le_of_ble_eq_true rfl⟩ ⟨Nat.le_refl 0, Nat.le_refl 0⟩ (As := [.int x2]) (st := []) rfl (Nat.le_of_ble_eq_true rfl) (dOk_at dt_X9_tried 17 rfl) (fun v_7 h_8 _ => ?_)
            refine j_if_ne hC (tgt := 44) (by decide) (dOk_at dt_X9_tried 18 rfl) (fun q_9 => ?_) (fun q_9 => ?_)
            · exact b44 h_8 x1 x2 x3 
            · refine j_goto hC (tgt := 42) (by decide) (dOk_at dt_X9_tried 19 rfl) ?_
              refine j_iconst hC (v := (-1 : Int32)) rfl (dOk_at dt_X9_tried 22 rfl) ?_
              exact j_iret hC hret (dOk_at dt_X9_tried 23 rfl)
        · refine j_iconst hC (v := (-1 : Int32)) rfl (dOk_at dt_X9_tried 10 rfl) ?_
          exact j_iret hC hret (dOk_at dt_X9_tried 11 rfl)
def tb_X9_undo : List (Nat × Instr × Nat) := [(0, .aload_n 0, 1), (1, .getfield 55, 3), (4, .aload_n 0, 1), (5, .getfield 38, 3), (8, .invokevirtual 350, 3), (11, .ireturn, 1)]
theorem dt_X9_undo : dOk cX9_undo tb_X9_undo = true := by decide +kernel
def fX9_undo (h : Hp) : Option (Int32 × Hp) := bnd (fX4_takeBack 72 h) (fun v_1 h_2 => some (v_1, h_2))
set_option maxRecDepth 100000 in
set_option maxHeartbeats 4000000 in
theorem c_X9_undo {l : Launch} {sb : State} {D : va_G} {ids : Nat → ClassId} {n : Nat} (hN : 152 ≤ n) (h : Hp) (r : Int32 × Hp) (hr : fX9_undo h = some r) : jM l yX9_undo cX9_undo 1 (some .int) 2 sb D ids shp St n [.ref 0] h (jQi sb D ids shp St n r) := by
  refine jM_of hr rfl (Nat.le_of_ble_eq_true rfl) ?_
  intro p e s m args below meth c hC hret
  unfold fX9_undo
  refine j_aload_n hC 0 rfl rfl (dOk_at dt_X9_undo 0 rfl) ?_
  refine j_getR hC flX9_55 (show shp 0 = (9, 12) from rfl) (Nat.lt_of_lt_of_le (Nat.le_of_ble_eq_true rfl : 0 < 152) hN) (by decide) (by decide) (fun _ _ _ => rfl) (fun hs => hs 0 9 90 rfl) (dOk_at dt_X9_undo 1 rfl) ?_
  refine j_aload_n hC 0 rfl rfl (dOk_at dt_X9_undo 2 rfl) ?_
  refine j_getR hC flX9_38 (show shp 0 = (9, 12) from rfl) (Nat.lt_of_lt_of_le (Nat.le_of_ble_eq_true rfl : 0 < 152) hN) (by decide) (by decide) (fun _ _ _ => rfl) (fun hs => hs 0 5 72 rfl) (dOk_at dt_X9_undo 3 rfl) ?_
  refine j_callVi hC clX9_350 (fun rz hrz => c_X4_takeBack hN ((show shp 72 = (8, 15) from rfl)) _ rz hrz) (show shp 90 = (4, 8) from rfl) (Nat.lt_of_lt_of_le (Nat.le_of_ble_eq_true rfl : 90 < 152) hN) (by decide) rfl rfl ⟨Nat.le_of_ble_eq_true rfl, Nat.le_of_ble_eq_true rfl⟩ ⟨Nat.le_refl 0, Nat.le_refl 0⟩ (As := [.ref 72]) (st := []) rfl (Nat.le_of_ble_eq_true rfl) (dOk_at dt_X9_undo 4 rfl) (fun v_1 h_2 _ => ?_)
  exact j_iret hC hret (dOk_at dt_X9_undo 5 rfl)
def tb_X9_keep : List (Nat × Instr × Nat) := [(0, .aload_n 0, 1), (1, .getfield 42, 3), (4, .aload_n 0, 1), (5, .getfield 38, 3), (8, .invokevirtual 329, 3), (11, .aload_n 0, 1), (12, .iconst 1, 1), (13, .putfield 48, 3), (16, .aload_n 0, 1), (17, .getfield 38, 3), (20, .getfield 213, 3), (23, .ireturn, 1)]
theorem dt_X9_keep : dOk cX9_keep tb_X9_keep = true := by decide +kernel
def fX9_keep (h : Hp) : Option (Int32 × Hp) := (fX8_copyFrom 78 72 h).bind (fun h_2 => some ((hI (uI h_2 0 8 (1 : Int32)) 72 1), (uI h_2 0 8 (1 : Int32))))
set_option maxRecDepth 100000 in
set_option maxHeartbeats 4000000 in
theorem c_X9_keep {l : Launch} {sb : State} {D : va_G} {ids : Nat → ClassId} {n : Nat} (hN : 152 ≤ n) (h : Hp) (r : Int32 × Hp) (hr : fX9_keep h = some r) : jM l yX9_keep cX9_keep 1 (some .int) 2 sb D ids shp St n [.ref 0] h (jQi sb D ids shp St n r) := by
  refine jM_of hr rfl (Nat.le_of_ble_eq_true rfl) ?_
  intro p e s m args below meth c hC hret
  unfold fX9_keep
  refine j_aload_n hC 0 rfl rfl (dOk_at dt_X9_keep 0 rfl) ?_
  refine j_getR hC flX9_42 (show shp 0 = (9, 12) from rfl) (Nat.lt_of_lt_of_le (Nat.le_of_ble_eq_true rfl : 0 < 152) hN) (by decide) (by decide) (fun _ _ _ => rfl) (fun hs => hs 0 6 78 rfl) (dOk_at dt_X9_keep 1 rfl) ?_
  refine j_aload_n hC 0 rfl rfl (dOk_at dt_X9_keep 2 rfl) ?_
  refine j_getR hC flX9_38 (show shp 0 = (9, 12) from rfl) (Nat.lt_of_lt_of_le (Nat.le_of_ble_eq_true rfl : 0 < 152) hN) (by decide) (by decide) (fun _ _ _ => rfl) (fun hs => hs 0 5 72 rfl) (dOk_at dt_X9_keep 3 rfl) ?_
  refine j_callVv hC clX9_329 (fun rz hrz => c_X8_copyFrom hN ((show shp 78 = (8, 15) from rfl)) ((show shp 72 = (8, 15) from rfl)) _ rz hrz) (show shp 78 = (8, 15) from rfl) (Nat.lt_of_lt_of_le (Nat.le_of_ble_eq_true rfl : 78 < 152) hN) (by decide) rfl rfl ⟨Nat.le_of_ble_eq_true rfl, Nat.le_of_ble_eq_true rfl⟩ ⟨Nat.le_refl 0, Nat.le_refl 0⟩ (As := [.ref 72]) (st := []) rfl (Nat.le_of_ble_eq_true rfl) (dOk_at dt_X9_keep 4 rfl) (fun h_2 _ => ?_)
  refine j_aload_n hC 0 rfl rfl (dOk_at dt_X9_keep 5 rfl) ?_
  refine j_iconst hC (v := (1 : Int32)) rfl (dOk_at dt_X9_keep 6 rfl) ?_
  refine j_putZ hC St_SP flX9_48 (show shp 0 = (9, 12) from rfl) (Nat.lt_of_lt_of_le (Nat.le_of_ble_eq_true rfl : 0 < 152) hN) (by decide) (by decide) rfl rfl rfl (dOk_at dt_X9_keep 7 rfl) ?_
  refine j_aload_n hC 0 rfl rfl (dOk_at dt_X9_keep 8 rfl) ?_
  refine j_getR hC flX9_38 (show shp 0 = (9, 12) from rfl) (Nat.lt_of_lt_of_le (Nat.le_of_ble_eq_true rfl : 0 < 152) hN) (by decide) (by decide) (fun _ _ _ => rfl) (fun hs => hs 0 5 72 rfl) (dOk_at dt_X9_keep 9 rfl) ?_
  refine j_getI hC flX9_213 (show shp 72 = (8, 15) from rfl) (Nat.lt_of_lt_of_le (Nat.le_of_ble_eq_true rfl : 72 < 152) hN) (by decide) (by decide) (fun _ _ _ => rfl) (dOk_at dt_X9_keep 10 rfl) ?_
  exact j_iret hC hret (dOk_at dt_X9_keep 11 rfl)
def tb_X9_back : List (Nat × Instr × Nat) := [(0, .aload_n 0, 1), (1, .getfield 48, 3), (4, .ifCond .ne 5, 3), (7, .iconst (-1), 1), (8, .ireturn, 1), (9, .aload_n 0, 1), (10, .getfield 38, 3), (13, .aload_n 0, 1), (14, .getfield 42, 3), (17, .invokevirtual 329, 3), (20, .aload_n 0, 1), (21, .getfield 55, 3), (24, .invokevirtual 99, 3), (27, .aload_n 0, 1), (28, .getfield 38, 3), (31, .getfield 213, 3), (34, .ireturn, 1)]
theorem dt_X9_back : dOk cX9_back tb_X9_back = true := by decide +kernel
def fX9_back (h : Hp) : Option (Int32 × Hp) := if (hI h 0 8) = 0 then (some ((-1 : Int32), h)) else ((fX8_copyFrom 72 78 h).bind (fun h_3 => (fX4_clear h_3).bind (fun h_5 => some ((hI h_5 72 1), h_5))))
set_option maxRecDepth 100000 in
set_option maxHeartbeats 4000000 in
theorem c_X9_back {l : Launch} {sb : State} {D : va_G} {ids : Nat → ClassId} {n : Nat} (hN : 152 ≤ n) (h : Hp) (r : Int32 × Hp) (hr : fX9_back h = some r) : jM l yX9_back cX9_back 1 (some .int) 2 sb D ids shp St n [.ref 0] h (jQi sb D ids shp St n r) := by
  refine jM_of hr rfl (Nat.le_of_ble_eq_true rfl) ?_
  intro p e s m args below meth c hC hret
  unfold fX9_back
  refine j_aload_n hC 0 rfl rfl (dOk_at dt_X9_back 0 rfl) ?_
  refine j_getI hC flX9_48 (show shp 0 = (9, 12) from rfl) (Nat.lt_of_lt_of_le (Nat.le_of_ble_eq_true rfl : 0 < 152) hN) (by decide) (by decide) (fun _ _ _ => rfl) (dOk_at dt_X9_back 1 rfl) ?_
  refine j_if_ne hC (tgt := 9) (by decide) (dOk_at dt_X9_back 2 rfl) (fun q_1 => ?_) (fun q_1 => ?_)
  · refine j_aload_n hC 0 rfl rfl (dOk_at dt_X9_back 5 rfl) ?_
    refine j_getR hC flX9_38 (show shp 0 = (9, 12) from rfl) (Nat.lt_of_lt_of_le (Nat.le_of_ble_eq_true rfl : 0 < 152) hN) (by decide) (by decide) (fun _ _ _ => rfl) (fun hs => hs 0 5 72 rfl) (dOk_at dt_X9_back 6 rfl) ?_
    refine j_aload_n hC 0 rfl rfl (dOk_at dt_X9_back 7 rfl) ?_
    refine j_getR hC flX9_42 (show shp 0 = (9, 12) from rfl) (Nat.lt_of_lt_of_le (Nat.le_of_ble_eq_true rfl : 0 < 152) hN) (by decide) (by decide) (fun _ _ _ => rfl) (fun hs => hs 0 6 78 rfl) (dOk_at dt_X9_back 8 rfl) ?_
    refine j_callVv hC clX9_329 (fun rz hrz => c_X8_copyFrom hN ((show shp 72 = (8, 15) from rfl)) ((show shp 78 = (8, 15) from rfl)) _ rz hrz) (show shp 72 = (8, 15) from rfl) (Nat.lt_of_lt_of_le (Nat.le_of_ble_eq_true rfl : 72 < 152) hN) (by decide) rfl rfl ⟨Nat.le_of_ble_eq_true rfl, Nat.le_of_ble_eq_true rfl⟩ ⟨Nat.le_refl 0, Nat.le_refl 0⟩ (As := [.ref 78]) (st := []) rfl (Nat.le_of_ble_eq_true rfl) (dOk_at dt_X9_back 9 rfl) (fun h_3 _ => ?_)
    refine j_aload_n hC 0 rfl rfl (dOk_at dt_X9_back 10 rfl) ?_
    refine j_getR hC flX9_55 (show shp 0 = (9, 12) from rfl) (Nat.lt_of_lt_of_le (Nat.le_of_ble_eq_true rfl : 0 < 152) hN) (by decide) (by decide) (fun _ _ _ => rfl) (fun hs => hs 0 9 90 rfl) (dOk_at dt_X9_back 11 rfl) ?_
    refine j_callVv hC clX9_99 (fun rz hrz => c_X4_clear hN _ rz hrz) (show shp 90 = (4, 8) from rfl) (Nat.lt_of_lt_of_le (Nat.le_of_ble_eq_true rfl : 90 < 152) hN) (by decide) rfl rfl ⟨Nat.le_of_ble_eq_true rfl, Nat.le_of_ble_eq_true rfl⟩ ⟨Nat.le_refl 0, Nat.le_refl 0⟩ (As := []) (st := []) rfl (Nat.le_of_ble_eq_true rfl) (dOk_at dt_X9_back 12 rfl) (fun h_5 _ => ?_)
    refine j_aload_n hC 0 rfl rfl (dOk_at dt_X9_back 13 rfl) ?_
    refine j_getR hC flX9_38 (show shp 0 = (9, 12) from rfl) (Nat.lt_of_lt_of_le (Nat.le_of_ble_eq_true rfl : 0 < 152) hN) (by decide) (by decide) (fun _ _ _ => rfl) (fun hs => hs 0 5 72 rfl) (dOk_at dt_X9_back 14 rfl) ?_
    refine j_getI hC flX9_213 (show shp 72 = (8, 15) from rfl) (Nat.lt_of_lt_of_le (Nat.le_of_ble_eq_true rfl : 72 < 152) hN) (by decide) (by decide) (fun _ _ _ => rfl) (dOk_at dt_X9_back 15 rfl) ?_
    exact j_iret hC hret (dOk_at dt_X9_back 16 rfl)
  · refine j_iconst hC (v := (-1 : Int32)) rfl (dOk_at dt_X9_back 3 rfl) ?_
    exact j_iret hC hret (dOk_at dt_X9_back 4 rfl)
def tb_X9_countTold : List (Nat × Instr × Nat) := [(0, .iload_n 1, 1), (1, .tableswitch 102 0 5 #[39, 53, 64, 75, 86, 94], 39), (40, .aload_n 0, 1), (41, .getfield 10, 3), (44, .getfield 106, 3), (47, .getfield 110, 3), (50, .getfield 360, 3), (53, .ireturn, 1), (54, .aload_n 0, 1), (55, .getfield 10, 3), (58, .getfield 106, 3), (61, .getfield 385, 3), (64, .ireturn, 1), (65, .aload_n 0, 1), (66, .getfield 10, 3), (69, .getfield 122, 3), (72, .getfield 360, 3), (75, .ireturn, 1), (76, .aload_n 0, 1), (77, .getfield 10, 3), (80, .getfield 125, 3), (83, .getfield 360, 3), (86, .ireturn, 1), (87, .aload_n 0, 1), (88, .getfield 10, 3), (91, .getfield 388, 3), (94, .ireturn, 1), (95, .aload_n 0, 1), (96, .getfield 10, 3), (99, .getfield 391, 3), (102, .ireturn, 1), (103, .iconst (-1), 1), (104, .ireturn, 1)]
theorem dt_X9_countTold : dOk cX9_countTold tb_X9_countTold = true := by decide +kernel
def fX9_countTold (h : Hp) (x1 : Int32) : Option (Int32 × Hp) := if inT x1 0 5 then (if x1 = (0 : Int32) then ((dref shp h 0 3 (7, 20)).bind (fun z_2 => some ((hI h (rf (rf z_2 0) 0) 2), h))) else (if x1 = (1 : Int32) then ((dref shp h 0 3 (7, 20)).bind (fun z_5 => some ((hI h (rf z_5 0) 5), h))) else (if x1 = (2 : Int32) then ((dref shp h 0 3 (7, 20)).bind (fun z_8 => some ((hI h (rf z_8 1) 2), h))) else (if x1 = (3 : Int32) then ((dref shp h 0 3 (7, 20)).bind (fun z_11 => some ((hI h (rf z_11 4) 2), h))) else (if x1 = (4 : Int32) then ((dref shp h 0 3 (7, 20)).bind (fun z_14 => some ((hI h z_14 6), h))) else (if x1 = (5 : Int32) then ((dref shp h 0 3 (7, 20)).bind (fun z_17 => some ((hI h z_17 18), h))) else none)))))) else (some ((-1 : Int32), h))
set_option maxRecDepth 100000 in
set_option maxHeartbeats 4000000 in
theorem c_X9_countTold {l : Launch} {sb : State} {D : va_G} {ids : Nat → ClassId} {n : Nat} (hN : 152 ≤ n) (h : Hp) (x1 : Int32) (r : Int32 × Hp) (hr : fX9_countTold h x1 = some r) : jM l yX9_countTold cX9_countTold 2 (some .int) 0 sb D ids shp St n [.ref 0, .int x1] h (jQi sb D ids shp St n r) := by
  refine jM_of hr rfl (Nat.le_of_ble_eq_true rfl) ?_
  intro p e s m args below meth c hC hret
  unfold fX9_countTold
  refine j_iload_n hC 1 rfl rfl (dOk_at dt_X9_countTold 0 rfl) ?_
  refine j_ite (P := inT x1 0 5 = true) (fun _ => ?_) (fun q => ?_)
  · refine j_ite (P := x1 = (0 : Int32)) (fun q_1 => ?_) (fun _ => ?_)
    · refine j_tswIn hC (tgt := 40) q_1 (by decide) (by decide) rfl (by decide) (dOk_at dt_X9_countTold 1 rfl) ?_
      refine j_aload_n hC 0 rfl rfl (dOk_at dt_X9_countTold 2 rfl) ?_
      refine j_getD (q := (7, 20)) hC flX9_10 (show shp 0 = (9, 12) from rfl) (Nat.lt_of_lt_of_le (Nat.le_of_ble_eq_true rfl : 0 < 152) hN) (by decide) (by decide) (fun _ _ _ => rfl) (dOk_at dt_X9_countTold 3 rfl) (fun z_2 _ g_3 => ?_)
      refine j_getR hC flX9_106 g_3 (jlt hN g_3 (by decide)) (by decide) (by decide) (fun _ _ _ => rfl) (fun hs => hs _ _ _ (sf_7_0 g_3).1) (dOk_at dt_X9_countTold 4 rfl) ?_
      refine j_getR hC flX9_110 (sf_7_0 g_3).2.1 (Nat.lt_of_lt_of_le (sf_7_0 g_3).2.2 hN) (by decide) (by decide) (fun _ _ _ => rfl) (fun hs => hs _ _ _ (sf_0_0 (sf_7_0 g_3).2.1).1) (dOk_at dt_X9_countTold 5 rfl) ?_
      refine j_getI hC flX9_360 (sf_0_0 (sf_7_0 g_3).2.1).2.1 (Nat.lt_of_lt_of_le (sf_0_0 (sf_7_0 g_3).2.1).2.2 hN) (by decide) (by decide) (fun _ _ _ => rfl) (dOk_at dt_X9_countTold 6 rfl) ?_
      exact j_iret hC hret (dOk_at dt_X9_countTold 7 rfl)
    refine j_ite (P := x1 = (1 : Int32)) (fun q_4 => ?_) (fun _ => ?_)
    · refine j_tswIn hC (tgt := 54) q_4 (by decide) (by decide) rfl (by decide) (dOk_at dt_X9_countTold 1 rfl) ?_
      refine j_aload_n hC 0 rfl rfl (dOk_at dt_X9_countTold 8 rfl) ?_
      refine j_getD (q := (7, 20)) hC flX9_10 (show shp 0 = (9, 12) from rfl) (Nat.lt_of_lt_of_le (Nat.le_of_ble_eq_true rfl : 0 < 152) hN) (by decide) (by decide) (fun _ _ _ => rfl) (dOk_at dt_X9_countTold 9 rfl) (fun z_5 _ g_6 => ?_)
      refine j_getR hC flX9_106 g_6 (jlt hN g_6 (by decide)) (by decide) (by decide) (fun _ _ _ => rfl) (fun hs => hs _ _ _ (sf_7_0 g_6).1) (dOk_at dt_X9_countTold 10 rfl) ?_
      refine j_getI hC flX9_385 (sf_7_0 g_6).2.1 (Nat.lt_of_lt_of_le (sf_7_0 g_6).2.2 hN) (by decide) (by decide) (fun _ _ _ => rfl) (dOk_at dt_X9_countTold 11 rfl) ?_
      exact j_iret hC hret (dOk_at dt_X9_countTold 12 rfl)
    refine j_ite (P := x1 = (2 : Int32)) (fun q_7 => ?_) (fun _ => ?_)
    · refine j_tswIn hC (tgt := 65) q_7 (by decide) (by decide) rfl (by decide) (dOk_at dt_X9_countTold 1 rfl) ?_
      refine j_aload_n hC 0 rfl rfl (dOk_at dt_X9_countTold 13 rfl) ?_
      refine j_getD (q := (7, 20)) hC flX9_10 (show shp 0 = (9, 12) from rfl) (Nat.lt_of_lt_of_le (Nat.le_of_ble_eq_true rfl : 0 < 152) hN) (by decide) (by decide) (fun _ _ _ => rfl) (dOk_at dt_X9_countTold 14 rfl) (fun z_8 _ g_9 => ?_)
      refine j_getR hC flX9_122 g_9 (jlt hN g_9 (by decide)) (by decide) (by decide) (fun _ _ _ => rfl) (fun hs => hs _ _ _ (sf_7_1 g_9).1) (dOk_at dt_X9_countTold 15 rfl) ?_
      refine j_getI hC flX9_360 (sf_7_1 g_9).2.1 (Nat.lt_of_lt_of_le (sf_7_1 g_9).2.2 hN) (by decide) (by decide) (fun _ _ _ => rfl) (dOk_at dt_X9_countTold 16 rfl) ?_
      exact j_iret hC hret (dOk_at dt_X9_countTold 17 rfl)
    refine j_ite (P := x1 = (3 : Int32)) (fun q_10 => ?_) (fun _ => ?_)
    · refine j_tswIn hC (tgt := 76) q_10 (by decide) (by decide) rfl (by decide) (dOk_at dt_X9_countTold 1 rfl) ?_
      refine j_aload_n hC 0 rfl rfl (dOk_at dt_X9_countTold 18 rfl) ?_
      refine j_getD (q := (7, 20)) hC flX9_10 (show shp 0 = (9, 12) from rfl) (Nat.lt_of_lt_of_le (Nat.le_of_ble_eq_true rfl : 0 < 152) hN) (by decide) (by decide) (fun _ _ _ => rfl) (dOk_at dt_X9_countTold 19 rfl) (fun z_11 _ g_12 => ?_)
      refine j_getR hC flX9_125 g_12 (jlt hN g_12 (by decide)) (by decide) (by decide) (fun _ _ _ => rfl) (fun hs => hs _ _ _ (sf_7_4 g_12).1) (dOk_at dt_X9_countTold 20 rfl) ?_
      refine j_getI hC flX9_360 (sf_7_4 g_12).2.1 (Nat.lt_of_lt_of_le (sf_7_4 g_12).2.2 hN) (by decide) (by decide) (fun _ _ _ => rfl) (dOk_at dt_X9_countTold 21 rfl) ?_
      exact j_iret hC hret (dOk_at dt_X9_countTold 22 rfl)
    refine j_ite (P := x1 = (4 : Int32)) (fun q_13 => ?_) (fun _ => ?_)
    · refine j_tswIn hC (tgt := 87) q_13 (by decide) (by decide) rfl (by decide) (dOk_at dt_X9_countTold 1 rfl) ?_
      refine j_aload_n hC 0 rfl rfl (dOk_at dt_X9_countTold 23 rfl) ?_
      refine j_getD (q := (7, 20)) hC flX9_10 (show shp 0 = (9, 12) from rfl) (Nat.lt_of_lt_of_le (Nat.le_of_ble_eq_true rfl : 0 < 152) hN) (by decide) (by decide) (fun _ _ _ => rfl) (dOk_at dt_X9_countTold 24 rfl) (fun z_14 _ g_15 => ?_)
      refine j_getI hC flX9_388 g_15 (jlt hN g_15 (by decide)) (by decide) (by decide) (fun _ _ _ => rfl) (dOk_at dt_X9_countTold 25 rfl) ?_
      exact j_iret hC hret (dOk_at dt_X9_countTold 26 rfl)
    refine j_ite (P := x1 = (5 : Int32)) (fun q_16 => ?_) (fun _ => ?_)
    · refine j_tswIn hC (tgt := 95) q_16 (by decide) (by decide) rfl (by decide) (dOk_at dt_X9_countTold 1 rfl) ?_
      refine j_aload_n hC 0 rfl rfl (dOk_at dt_X9_countTold 27 rfl) ?_
      refine j_getD (q := (7, 20)) hC flX9_10 (show shp 0 = (9, 12) from rfl) (Nat.lt_of_lt_of_le (Nat.le_of_ble_eq_true rfl : 0 < 152) hN) (by decide) (by decide) (fun _ _ _ => rfl) (dOk_at dt_X9_countTold 28 rfl) (fun z_17 _ g_18 => ?_)
      refine j_getI hC flX9_391 g_18 (jlt hN g_18 (by decide)) (by decide) (by decide) (fun _ _ _ => rfl) (dOk_at dt_X9_countTold 29 rfl) ?_
      exact j_iret hC hret (dOk_at dt_X9_countTold 30 rfl)
    exact j_none
  · refine j_tswOut hC (tgt := 103) q (by decide) (dOk_at dt_X9_countTold 1 rfl) ?_
    refine j_iconst hC (v := (-1 : Int32)) rfl (dOk_at dt_X9_countTold 31 rfl) ?_
    exact j_iret hC hret (dOk_at dt_X9_countTold 32 rfl)
def tb_X9_countNow : List (Nat × Instr × Nat) := [(0, .iload_n 1, 1), (1, .tableswitch 138 6 15 #[55, 63, 71, 79, 90, 98, 106, 114, 122, 130], 55), (56, .aload_n 0, 1), (57, .getfield 38, 3), (60, .getfield 213, 3), (63, .ireturn, 1), (64, .aload_n 0, 1), (65, .getfield 38, 3), (68, .invokevirtual 222, 3), (71, .ireturn, 1), (72, .aload_n 0, 1), (73, .getfield 38, 3), (76, .invokevirtual 226, 3), (79, .ireturn, 1), (80, .aload_n 0, 1), (81, .getfield 38, 3), (84, .getfield 229, 3), (87, .invokestatic 208, 3), (90, .ireturn, 1), (91, .aload_n 0, 1), (92, .getfield 38, 3), (95, .getfield 232, 3), (98, .ireturn, 1), (99, .aload_n 0, 1), (100, .getfield 38, 3), (103, .invokevirtual 394, 3), (106, .ireturn, 1), (107, .aload_n 0, 1), (108, .getfield 38, 3), (111, .invokevirtual 397, 3), (114, .ireturn, 1), (115, .aload_n 0, 1), (116, .getfield 62, 3), (119, .getfield 312, 3), (122, .ireturn, 1), (123, .aload_n 0, 1), (124, .getfield 62, 3), (127, .invokevirtual 400, 3), (130, .ireturn, 1), (131, .aload_n 0, 1), (132, .getfield 55, 3), (135, .getfield 403, 3), (138, .ireturn, 1), (139, .iconst (-1), 1), (140, .ireturn, 1)]
theorem dt_X9_countNow : dOk cX9_countNow tb_X9_countNow = true := by decide +kernel
def fX9_countNow (h : Hp) (x1 : Int32) : Option (Int32 × Hp) := if inT x1 6 15 then (if x1 = (6 : Int32) then (some ((hI h 72 1), h)) else (if x1 = (7 : Int32) then (bnd (fX8_wonByAll 72 h) (fun v_3 h_4 => some (v_3, h_4))) else (if x1 = (8 : Int32) then (bnd (fX8_beatenByAll 72 h) (fun v_6 h_7 => some (v_6, h_7))) else (if x1 = (9 : Int32) then (bnd (fJ6_bitCount_0f7a4 h (hI h 72 2)) (fun v_9 h_10 => some (v_9, h_10))) else (if x1 = (10 : Int32) then (some ((hI h 72 3), h)) else (if x1 = (11 : Int32) then (bnd (fX8_fullOfAll 72 h) (fun v_13 h_14 => some (v_13, h_14))) else (if x1 = (12 : Int32) then (bnd (fX8_heldByAll 72 h) (fun v_16 h_17 => some (v_16, h_17))) else (if x1 = (13 : Int32) then (some ((hI h 97 0), h)) else (if x1 = (14 : Int32) then (bnd (fX2_knownLimit h) (fun v_20 h_21 => some (v_20, h_21))) else (if x1 = (15 : Int32) then (some ((hI h 90 0), h)) else none)))))))))) else (some ((-1 : Int32), h))
set_option maxRecDepth 100000 in
set_option maxHeartbeats 4000000 in
theorem c_X9_countNow {l : Launch} {sb : State} {D : va_G} {ids : Nat → ClassId} {n : Nat} (hN : 152 ≤ n) (h : Hp) (x1 : Int32) (r : Int32 × Hp) (hr : fX9_countNow h x1 = some r) : jM l yX9_countNow cX9_countNow 2 (some .int) 2 sb D ids shp St n [.ref 0, .int x1] h (jQi sb D ids shp St n r) := by
  refine jM_of hr rfl (Nat.le_of_ble_eq_true rfl) ?_
  intro p e s m args below meth c hC hret
  unfold fX9_countNow
  refine j_iload_n hC 1 rfl rfl (dOk_at dt_X9_countNow 0 rfl) ?_
  refine j_ite (P := inT x1 6 15 = true) (fun _ => ?_) (fun q => ?_)
  · refine j_ite (P := x1 = (6 : Int32)) (fun q_1 => ?_) (fun _ => ?_)
    · refine j_tswIn hC (tgt := 56) q_1 (by decide) (by decide) rfl (by decide) (dOk_at dt_X9_countNow 1 rfl) ?_
      refine j_aload_n hC 0 rfl rfl (dOk_at dt_X9_countNow 2 rfl) ?_
      refine j_getR hC flX9_38 (show shp 0 = (9, 12) from rfl) (Nat.lt_of_lt_of_le (Nat.le_of_ble_eq_true rfl : 0 < 152) hN) (by decide) (by decide) (fun _ _ _ => rfl) (fun hs => hs 0 5 72 rfl) (dOk_at dt_X9_countNow 3 rfl) ?_
      refine j_getI hC flX9_213 (show shp 72 = (8, 15) from rfl) (Nat.lt_of_lt_of_le (Nat.le_of_ble_eq_true rfl : 72 < 152) hN) (by decide) (by decide) (fun _ _ _ => rfl) (dOk_at dt_X9_countNow 4 rfl) ?_
      exact j_iret hC hret (dOk_at dt_X9_countNow 5 rfl)
    refine j_ite (P := x1 = (7 : Int32)) (fun q_2 => ?_) (fun _ => ?_)
    · refine j_tswIn hC (tgt := 64) q_2 (by decide) (by decide) rfl (by decide) (dOk_at dt_X9_countNow 1 rfl) ?_
      refine j_aload_n hC 0 rfl rfl (dOk_at dt_X9_countNow 6 rfl) ?_
      refine j_getR hC flX9_38 (show shp 0 = (9, 12) from rfl) (Nat.lt_of_lt_of_le (Nat.le_of_ble_eq_true rfl : 0 < 152) hN) (by decide) (by decide) (fun _ _ _ => rfl) (fun hs => hs 0 5 72 rfl) (dOk_at dt_X9_countNow 7 rfl) ?_
      refine j_callVi hC clX9_222 (fun rz hrz => c_X8_wonByAll hN ((show shp 72 = (8, 15) from rfl)) _ rz hrz) (show shp 72 = (8, 15) from rfl) (Nat.lt_of_lt_of_le (Nat.le_of_ble_eq_true rfl : 72 < 152) hN) (by decide) rfl rfl ⟨Nat.le_of_ble_eq_true rfl, Nat.le_of_ble_eq_true rfl⟩ ⟨Nat.le_refl 0, Nat.le_refl 0⟩ (As := []) (st := []) rfl (Nat.le_of_ble_eq_true rfl) (dOk_at dt_X9_countNow 8 rfl) (fun v_3 h_4 _ => ?_)
      exact j_iret hC hret (dOk_at dt_X9_countNow 9 rfl)
    refine j_ite (P := x1 = (8 : Int32)) (fun q_5 => ?_) (fun _ => ?_)
    · refine j_tswIn hC (tgt := 72) q_5 (by decide) (by decide) rfl (by decide) (dOk_at dt_X9_countNow 1 rfl) ?_
      refine j_aload_n hC 0 rfl rfl (dOk_at dt_X9_countNow 10 rfl) ?_
      refine j_getR hC flX9_38 (show shp 0 = (9, 12) from rfl) (Nat.lt_of_lt_of_le (Nat.le_of_ble_eq_true rfl : 0 < 152) hN) (by decide) (by decide) (fun _ _ _ => rfl) (fun hs => hs 0 5 72 rfl) (dOk_at dt_X9_countNow 11 rfl) ?_
      refine j_callVi hC clX9_226 (fun rz hrz => c_X8_beatenByAll hN ((show shp 72 = (8, 15) from rfl)) _ rz hrz) (show shp 72 = (8, 15) from rfl) (Nat.lt_of_lt_of_le (Nat.le_of_ble_eq_true rfl : 72 < 152) hN) (by decide) rfl rfl ⟨Nat.le_of_ble_eq_true rfl, Nat.le_of_ble_eq_true rfl⟩ ⟨Nat.le_refl 0, Nat.le_refl 0⟩ (As := []) (st := []) rfl (Nat.le_of_ble_eq_true rfl) (dOk_at dt_X9_countNow 12 rfl) (fun v_6 h_7 _ => ?_)
      exact j_iret hC hret (dOk_at dt_X9_countNow 13 rfl)
    refine j_ite (P := x1 = (9 : Int32)) (fun q_8 => ?_) (fun _ => ?_)
    · refine j_tswIn hC (tgt := 80) q_8 (by decide) (by decide) rfl (by decide) (dOk_at dt_X9_countNow 1 rfl) ?_
      refine j_aload_n hC 0 rfl rfl (dOk_at dt_X9_countNow 14 rfl) ?_
      refine j_getR hC flX9_38 (show shp 0 = (9, 12) from rfl) (Nat.lt_of_lt_of_le (Nat.le_of_ble_eq_true rfl : 0 < 152) hN) (by decide) (by decide) (fun _ _ _ => rfl) (fun hs => hs 0 5 72 rfl) (dOk_at dt_X9_countNow 15 rfl) ?_
      refine j_getI hC flX9_229 (show shp 72 = (8, 15) from rfl) (Nat.lt_of_lt_of_le (Nat.le_of_ble_eq_true rfl : 72 < 152) hN) (by decide) (by decide) (fun _ _ _ => rfl) (dOk_at dt_X9_countNow 16 rfl) ?_
      refine j_callSi hC clX9_208 (fun rz hrz => c_J6_bitCount_0f7a4 hN _ _ rz hrz) rfl ⟨Nat.le_of_ble_eq_true rfl, Nat.le_of_ble_eq_true rfl⟩ ⟨Nat.le_refl 0, Nat.le_refl 0⟩ (As := [.int (hI h 72 2)]) (st := []) rfl (Nat.le_of_ble_eq_true rfl) (dOk_at dt_X9_countNow 17 rfl) (fun v_9 h_10 _ => ?_)
      exact j_iret hC hret (dOk_at dt_X9_countNow 18 rfl)
    refine j_ite (P := x1 = (10 : Int32)) (fun q_11 => ?_) (fun _ => ?_)
    · refine j_tswIn hC (tgt := 91) q_11 (by decide) (by decide) rfl (by decide) (dOk_at dt_X9_countNow 1 rfl) ?_
      refine j_aload_n hC 0 rfl rfl (dOk_at dt_X9_countNow 19 rfl) ?_
      refine j_getR hC flX9_38 (show shp 0 = (9, 12) from rfl) (Nat.lt_of_lt_of_le (Nat.le_of_ble_eq_true rfl : 0 < 152) hN) (by decide) (by decide) (fun _ _ _ => rfl) (fun hs => hs 0 5 72 rfl) (dOk_at dt_X9_countNow 20 rfl) ?_
      refine j_getI hC flX9_232 (show shp 72 = (8, 15) from rfl) (Nat.lt_of_lt_of_le (Nat.le_of_ble_eq_true rfl : 72 < 152) hN) (by decide) (by decide) (fun _ _ _ => rfl) (dOk_at dt_X9_countNow 21 rfl) ?_
      exact j_iret hC hret (dOk_at dt_X9_countNow 22 rfl)
    refine j_ite (P := x1 = (11 : Int32)) (fun q_12 => ?_) (fun _ => ?_)
    · refine j_tswIn hC (tgt := 99) q_12 (by decide) (by decide) rfl (by decide) (dOk_at dt_X9_countNow 1 rfl) ?_
      refine j_aload_n hC 0 rfl rfl (dOk_at dt_X9_countNow 23 rfl) ?_
      refine j_getR hC flX9_38 (show shp 0 = (9, 12) from rfl) (Nat.lt_of_lt_of_le (Nat.le_of_ble_eq_true rfl : 0 < 152) hN) (by decide) (by decide) (fun _ _ _ => rfl) (fun hs => hs 0 5 72 rfl) (dOk_at dt_X9_countNow 24 rfl) ?_
      refine j_callVi hC clX9_394 (fun rz hrz => c_X8_fullOfAll hN ((show shp 72 = (8, 15) from rfl)) _ rz hrz) (show shp 72 = (8, 15) from rfl) (Nat.lt_of_lt_of_le (Nat.le_of_ble_eq_true rfl : 72 < 152) hN) (by decide) rfl rfl ⟨Nat.le_of_ble_eq_true rfl, Nat.le_of_ble_eq_true rfl⟩ ⟨Nat.le_refl 0, Nat.le_refl 0⟩ (As := []) (st := []) rfl (Nat.le_of_ble_eq_true rfl) (dOk_at dt_X9_countNow 25 rfl) (fun v_13 h_14 _ => ?_)
      exact j_iret hC hret (dOk_at dt_X9_countNow 26 rfl)
    refine j_ite (P := x1 = (12 : Int32)) (fun q_15 => ?_) (fun _ => ?_)
    · refine j_tswIn hC (tgt := 107) q_15 (by decide) (by decide) rfl (by decide) (dOk_at dt_X9_countNow 1 rfl) ?_
      refine j_aload_n hC 0 rfl rfl (dOk_at dt_X9_countNow 27 rfl) ?_
      refine j_getR hC flX9_38 (show shp 0 = (9, 12) from rfl) (Nat.lt_of_lt_of_le (Nat.le_of_ble_eq_true rfl : 0 < 152) hN) (by decide) (by decide) (fun _ _ _ => rfl) (fun hs => hs 0 5 72 rfl) (dOk_at dt_X9_countNow 28 rfl) ?_
      refine j_callVi hC clX9_397 (fun rz hrz => c_X8_heldByAll hN ((show shp 72 = (8, 15) from rfl)) _ rz hrz) (show shp 72 = (8, 15) from rfl) (Nat.lt_of_lt_of_le (Nat.le_of_ble_eq_true rfl : 72 < 152) hN) (by decide) rfl rfl ⟨Nat.le_of_ble_eq_true rfl, Nat.le_of_ble_eq_true rfl⟩ ⟨Nat.le_refl 0, Nat.le_refl 0⟩ (As := []) (st := []) rfl (Nat.le_of_ble_eq_true rfl) (dOk_at dt_X9_countNow 29 rfl) (fun v_16 h_17 _ => ?_)
      exact j_iret hC hret (dOk_at dt_X9_countNow 30 rfl)
    refine j_ite (P := x1 = (13 : Int32)) (fun q_18 => ?_) (fun _ => ?_)
    · refine j_tswIn hC (tgt := 115) q_18 (by decide) (by decide) rfl (by decide) (dOk_at dt_X9_countNow 1 rfl) ?_
      refine j_aload_n hC 0 rfl rfl (dOk_at dt_X9_countNow 31 rfl) ?_
      refine j_getR hC flX9_62 (show shp 0 = (9, 12) from rfl) (Nat.lt_of_lt_of_le (Nat.le_of_ble_eq_true rfl : 0 < 152) hN) (by decide) (by decide) (fun _ _ _ => rfl) (fun hs => hs 0 10 97 rfl) (dOk_at dt_X9_countNow 32 rfl) ?_
      refine j_getI hC flX9_312 (show shp 97 = (2, 7) from rfl) (Nat.lt_of_lt_of_le (Nat.le_of_ble_eq_true rfl : 97 < 152) hN) (by decide) (by decide) (fun _ _ _ => rfl) (dOk_at dt_X9_countNow 33 rfl) ?_
      exact j_iret hC hret (dOk_at dt_X9_countNow 34 rfl)
    refine j_ite (P := x1 = (14 : Int32)) (fun q_19 => ?_) (fun _ => ?_)
    · refine j_tswIn hC (tgt := 123) q_19 (by decide) (by decide) rfl (by decide) (dOk_at dt_X9_countNow 1 rfl) ?_
      refine j_aload_n hC 0 rfl rfl (dOk_at dt_X9_countNow 35 rfl) ?_
      refine j_getR hC flX9_62 (show shp 0 = (9, 12) from rfl) (Nat.lt_of_lt_of_le (Nat.le_of_ble_eq_true rfl : 0 < 152) hN) (by decide) (by decide) (fun _ _ _ => rfl) (fun hs => hs 0 10 97 rfl) (dOk_at dt_X9_countNow 36 rfl) ?_
      refine j_callVi hC clX9_400 (fun rz hrz => c_X2_knownLimit hN _ rz hrz) (show shp 97 = (2, 7) from rfl) (Nat.lt_of_lt_of_le (Nat.le_of_ble_eq_true rfl : 97 < 152) hN) (by decide) rfl rfl ⟨Nat.le_of_ble_eq_true rfl, Nat.le_of_ble_eq_true rfl⟩ ⟨Nat.le_refl 0, Nat.le_refl 0⟩ (As := []) (st := []) rfl (Nat.le_of_ble_eq_true rfl) (dOk_at dt_X9_countNow 37 rfl) (fun v_20 h_21 _ => ?_)
      exact j_iret hC hret (dOk_at dt_X9_countNow 38 rfl)
    refine j_ite (P := x1 = (15 : Int32)) (fun q_22 => ?_) (fun _ => ?_)
    · refine j_tswIn hC (tgt := 131) q_22 (by decide) (by decide) rfl (by decide) (dOk_at dt_X9_countNow 1 rfl) ?_
      refine j_aload_n hC 0 rfl rfl (dOk_at dt_X9_countNow 39 rfl) ?_
      refine j_getR hC flX9_55 (show shp 0 = (9, 12) from rfl) (Nat.lt_of_lt_of_le (Nat.le_of_ble_eq_true rfl : 0 < 152) hN) (by decide) (by decide) (fun _ _ _ => rfl) (fun hs => hs 0 9 90 rfl) (dOk_at dt_X9_countNow 40 rfl) ?_
      refine j_getI hC flX9_403 (show shp 90 = (4, 8) from rfl) (Nat.lt_of_lt_of_le (Nat.le_of_ble_eq_true rfl : 90 < 152) hN) (by decide) (by decide) (fun _ _ _ => rfl) (dOk_at dt_X9_countNow 41 rfl) ?_
      exact j_iret hC hret (dOk_at dt_X9_countNow 42 rfl)
    exact j_none
  · refine j_tswOut hC (tgt := 139) q (by decide) (dOk_at dt_X9_countNow 1 rfl) ?_
    refine j_iconst hC (v := (-1 : Int32)) rfl (dOk_at dt_X9_countNow 43 rfl) ?_
    exact j_iret hC hret (dOk_at dt_X9_countNow 44 rfl)
def tb_X9_count : List (Nat × Instr × Nat) := [(0, .iload_n 1, 1), (1, .bipush 6, 2), (3, .if_icmp .ge 11, 3), (6, .aload_n 0, 1), (7, .iload_n 1, 1), (8, .invokevirtual 354, 3), (11, .goto 8, 3), (14, .aload_n 0, 1), (15, .iload_n 1, 1), (16, .invokevirtual 357, 3), (19, .ireturn, 1)]
theorem dt_X9_count : dOk cX9_count tb_X9_count = true := by decide +kernel
def fX9_count (h : Hp) (x1 : Int32) : Option (Int32 × Hp) := if (6 : Int32) ≤ x1 then (bnd (fX9_countNow h x1) (fun v_2 h_3 => some (v_2, h_3))) else (bnd (fX9_countTold h x1) (fun v_4 h_5 => some (v_4, h_5)))
set_option maxRecDepth 100000 in
set_option maxHeartbeats 4000000 in
theorem c_X9_count {l : Launch} {sb : State} {D : va_G} {ids : Nat → ClassId} {n : Nat} (hN : 152 ≤ n) (h : Hp) (x1 : Int32) (r : Int32 × Hp) (hr : fX9_count h x1 = some r) : jM l yX9_count cX9_count 2 (some .int) 3 sb D ids shp St n [.ref 0, .int x1] h (jQi sb D ids shp St n r) := by
  refine jM_of hr rfl (Nat.le_of_ble_eq_true rfl) ?_
  intro p e s m args below meth c hC hret
  unfold fX9_count
  refine j_iload_n hC 1 rfl rfl (dOk_at dt_X9_count 0 rfl) ?_
  refine j_bipush hC (v := (6 : Int32)) rfl (dOk_at dt_X9_count 1 rfl) ?_
  refine j_icmp_ge hC (tgt := 14) (by decide) (dOk_at dt_X9_count 2 rfl) (fun q_1 => ?_) (fun q_1 => ?_)
  · refine j_aload_n hC 0 rfl rfl (dOk_at dt_X9_count 7 rfl) ?_
    refine j_iload_n hC 1 rfl rfl (dOk_at dt_X9_count 8 rfl) ?_
    refine j_callVi hC clX9_357 (fun rz hrz => c_X9_countNow hN _ _ rz hrz) (show shp 0 = (9, 12) from rfl) (Nat.lt_of_lt_of_le (Nat.le_of_ble_eq_true rfl : 0 < 152) hN) (by decide) rfl rfl ⟨Nat.le_of_ble_eq_true rfl, Nat.le_of_ble_eq_true rfl⟩ ⟨Nat.le_refl 0, Nat.le_refl 0⟩ (As := [.int x1]) (st := []) rfl (Nat.le_of_ble_eq_true rfl) (dOk_at dt_X9_count 9 rfl) (fun v_2 h_3 _ => ?_)
    exact j_iret hC hret (dOk_at dt_X9_count 10 rfl)
  · refine j_aload_n hC 0 rfl rfl (dOk_at dt_X9_count 3 rfl) ?_
    refine j_iload_n hC 1 rfl rfl (dOk_at dt_X9_count 4 rfl) ?_
    refine j_callVi hC clX9_354 (fun rz hrz => c_X9_countTold hN _ _ rz hrz) (show shp 0 = (9, 12) from rfl) (Nat.lt_of_lt_of_le (Nat.le_of_ble_eq_true rfl : 0 < 152) hN) (by decide) rfl rfl ⟨Nat.le_of_ble_eq_true rfl, Nat.le_of_ble_eq_true rfl⟩ ⟨Nat.le_refl 0, Nat.le_refl 0⟩ (As := [.int x1]) (st := []) rfl (Nat.le_of_ble_eq_true rfl) (dOk_at dt_X9_count 5 rfl) (fun v_4 h_5 _ => ?_)
    refine j_goto hC (tgt := 19) (by decide) (dOk_at dt_X9_count 6 rfl) ?_
    exact j_iret hC hret (dOk_at dt_X9_count 10 rfl)
