def tb_X10_nightGoes : List (Nat × Instr × Nat) := [(0, .iconst 0, 1), (1, .istore_n 2, 1), (2, .iload_n 2, 1), (3, .aload_n 0, 1), (4, .getfield 258, 3), (7, .if_icmp .ge 60, 3), (10, .aload_n 0, 1), (11, .getfield 69, 3), (14, .iload_n 2, 1), (15, .iaload, 1), (16, .aload_n 0, 1), (17, .getfield 121, 3), (20, .iload_n 1, 1), (21, .iaload, 1), (22, .if_icmp .eq 6, 3), (25, .goto 36, 3), (28, .aload_n 0, 1), (29, .getfield 103, 3), (32, .iconst 5, 1), (33, .iload_n 1, 1), (34, .imul, 1), (35, .aload_n 0, 1), (36, .getfield 66, 3), (39, .iload_n 2, 1), (40, .iaload, 1), (41, .iadd, 1), (42, .bipush 99, 2), (44, .iastore, 1), (45, .aload_n 0, 1), (46, .getfield 106, 3), (49, .iconst 5, 1), (50, .iload_n 1, 1), (51, .imul, 1), (52, .aload_n 0, 1), (53, .getfield 66, 3), (56, .iload_n 2, 1), (57, .iaload, 1), (58, .iadd, 1), (59, .iconst 0, 1), (60, .bastore, 1), (61, .iinc 2 1, 3), (64, .goto (-62), 3), (67, .iconst 0, 1), (68, .istore_n 2, 1), (69, .iload_n 2, 1), (70, .aload_n 0, 1), (71, .getfield 255, 3), (74, .if_icmp .ge 89, 3), (77, .aload_n 0, 1), (78, .getfield 63, 3), (81, .iload_n 2, 1), (82, .iaload, 1), (83, .aload_n 0, 1), (84, .getfield 121, 3), (87, .iload_n 1, 1), (88, .iaload, 1), (89, .if_icmp .ne 68, 3), (92, .aload_n 0, 1), (93, .getfield 57, 3), (96, .iload_n 2, 1), (97, .iaload, 1), (98, .aload_n 0, 1), (99, .getfield 416, 3), (102, .if_icmp .ne 6, 3), (105, .goto 52, 3), (108, .aload_n 0, 1), (109, .getfield 106, 3), (112, .iconst 5, 1), (113, .iload_n 1, 1), (114, .imul, 1), (115, .aload_n 0, 1), (116, .getfield 60, 3), (119, .iload_n 2, 1), (120, .iaload, 1), (121, .iadd, 1), (122, .baload, 1), (123, .ifCond .eq 16, 3), (126, .aload_n 0, 1), (127, .getfield 118, 3), (130, .iload_n 1, 1), (131, .dup2, 1), (132, .iaload, 1), (133, .iconst 1, 1), (134, .iadd, 1), (135, .iastore, 1), (136, .goto 21, 3), (139, .aload_n 0, 1), (140, .iload_n 1, 1), (141, .aload_n 0, 1), (142, .getfield 57, 3), (145, .iload_n 2, 1), (146, .iaload, 1), (147, .aload_n 0, 1), (148, .getfield 60, 3), (151, .iload_n 2, 1), (152, .iaload, 1), (153, .invokevirtual 456, 3), (156, .pop, 1), (157, .iinc 2 1, 3), (160, .goto (-91), 3), (163, .iconst 0, 1), (164, .istore_n 2, 1), (165, .iload_n 2, 1), (166, .aload_n 0, 1), (167, .getfield 249, 3), (170, .if_icmp .ge 73, 3), (173, .iconst 5, 1), (174, .iload_n 1, 1), (175, .imul, 1), (176, .iload_n 2, 1), (177, .iadd, 1), (178, .istore_n 3, 1), (179, .aload_n 0, 1), (180, .getfield 106, 3), (183, .iload_n 3, 1), (184, .baload, 1), (185, .ifCond .eq 6, 3), (188, .goto 49, 3), (191, .aload_n 0, 1), (192, .invokevirtual 459, 3), (195, .ifCond .eq 22, 3), (198, .aload_n 0, 1), (199, .getfield 103, 3), (202, .iload_n 3, 1), (203, .iaload, 1), (204, .ifCond .le 13, 3), (207, .aload_n 0, 1), (208, .getfield 103, 3), (211, .iload_n 3, 1), (212, .dup2, 1), (213, .iaload, 1), (214, .iconst 1, 1), (215, .isub, 1), (216, .iastore, 1), (217, .aload_n 0, 1), (218, .getfield 106, 3), (221, .iload_n 3, 1), (222, .aload_n 0, 1), (223, .getfield 103, 3), (226, .iload_n 3, 1), (227, .iaload, 1), (228, .ifCond .ne 7, 3), (231, .iconst 1, 1), (232, .goto 4, 3), (235, .iconst 0, 1), (236, .bastore, 1), (237, .iinc 2 1, 3), (240, .goto (-75), 3), (243, .aload_n 0, 1), (244, .getfield 121, 3), (247, .iload_n 1, 1), (248, .dup2, 1), (249, .iaload, 1), (250, .iconst 1, 1), (251, .iadd, 1), (252, .iastore, 1), (253, .return_, 1)]
theorem dt_X10_nightGoes : dOk cX10_nightGoes tb_X10_nightGoes = true := by decide +kernel
def fX10_nightGoes_237 (rec165 : Hp → Int32 → Int32 → Option (Hp)) (h : Hp) (x1 : Int32) (x2 : Int32) : Option (Hp) := rec165 h x1 (x2 + (1 : Int32))
def fX10_nightGoes_236 (rec165 : Hp → Int32 → Int32 → Option (Hp)) (h : Hp) (x1 : Int32) (x2 : Int32) (s1 : Int32) (s2 : Int32) : Option (Hp) := if isZ s2 then (if inb s1 10 then (fX10_nightGoes_237 rec165 (uI h 138 (Int32.toNatClampNeg s1) s2) x1 x2) else none) else none
def fX10_nightGoes_217 (rec165 : Hp → Int32 → Int32 → Option (Hp)) (h : Hp) (x1 : Int32) (x2 : Int32) (x3 : Int32) : Option (Hp) := if inb x3 10 then (if (hI h 137 (Int32.toNatClampNeg x3)) = 0 then (fX10_nightGoes_236 rec165 h x1 x2 x3 (1 : Int32)) else (fX10_nightGoes_236 rec165 h x1 x2 x3 (0 : Int32))) else none
def fX10_nightGoes_165 : Nat → Hp → Int32 → Int32 → Option (Hp)
  | 0, _, _, _ => none
  | fu + 1, h, x1, x2 => if (hI h 107 14) ≤ x2 then (if inb x1 2 then (if inb x1 2 then (some (uI h 143 (Int32.toNatClampNeg x1) ((hI h 143 (Int32.toNatClampNeg x1)) + (1 : Int32)))) else none) else none) else (if inb (((5 : Int32) * x1) + x2) 10 then (if (hI h 138 (Int32.toNatClampNeg (((5 : Int32) * x1) + x2))) = 0 then (bnd (fX10_isDamp h) (fun v_11 h_12 => if v_11 = 0 then (fX10_nightGoes_217 (fX10_nightGoes_165 fu) h_12 x1 x2 (((5 : Int32) * x1) + x2)) else (if inb (((5 : Int32) * x1) + x2) 10 then (if (hI h_12 137 (Int32.toNatClampNeg (((5 : Int32) * x1) + x2))) ≤ 0 then (fX10_nightGoes_217 (fX10_nightGoes_165 fu) h_12 x1 x2 (((5 : Int32) * x1) + x2)) else (if inb (((5 : Int32) * x1) + x2) 10 then (if inb (((5 : Int32) * x1) + x2) 10 then (fX10_nightGoes_217 (fX10_nightGoes_165 fu) (uI h_12 137 (Int32.toNatClampNeg (((5 : Int32) * x1) + x2)) ((hI h_12 137 (Int32.toNatClampNeg (((5 : Int32) * x1) + x2))) - (1 : Int32))) x1 x2 (((5 : Int32) * x1) + x2)) else none) else none)) else none))) else (fX10_nightGoes_237 (fX10_nightGoes_165 fu) h x1 x2)) else none)
def fX10_nightGoes_157 (rec69 : Hp → Int32 → Int32 → Option (Hp)) (h : Hp) (x1 : Int32) (x2 : Int32) : Option (Hp) := rec69 h x1 (x2 + (1 : Int32))
def fX10_nightGoes_69 : Nat → Hp → Int32 → Int32 → Option (Hp)
  | 0, _, _, _ => none
  | fu + 1, h, x1, x2 => if (hI h 107 16) ≤ x2 then (fX10_nightGoes_165 FU h x1 (0 : Int32)) else (if inb x2 24 then (if inb x1 2 then (if (hI h 124 (Int32.toNatClampNeg x2)) = (hI h 143 (Int32.toNatClampNeg x1)) then (if inb x2 24 then (if (hI h 122 (Int32.toNatClampNeg x2)) = (hI h 107 72) then (fX10_nightGoes_157 (fX10_nightGoes_69 fu) h x1 x2) else (if inb x2 24 then (if inb (((5 : Int32) * x1) + (hI h 123 (Int32.toNatClampNeg x2))) 10 then (if (hI h 138 (Int32.toNatClampNeg (((5 : Int32) * x1) + (hI h 123 (Int32.toNatClampNeg x2))))) = 0 then (if inb x2 24 then (if inb x2 24 then (bnd (fX10_debatesOne h x1 (hI h 122 (Int32.toNatClampNeg x2)) (hI h 123 (Int32.toNatClampNeg x2))) (fun v_7 h_8 => fX10_nightGoes_157 (fX10_nightGoes_69 fu) h_8 x1 x2)) else none) else none) else (if inb x1 2 then (if inb x1 2 then (fX10_nightGoes_157 (fX10_nightGoes_69 fu) (uI h 142 (Int32.toNatClampNeg x1) ((hI h 142 (Int32.toNatClampNeg x1)) + (1 : Int32))) x1 x2) else none) else none)) else none) else none)) else none) else (fX10_nightGoes_157 (fX10_nightGoes_69 fu) h x1 x2)) else none) else none)
def fX10_nightGoes_61 (rec2 : Hp → Int32 → Int32 → Option (Hp)) (h : Hp) (x1 : Int32) (x2 : Int32) : Option (Hp) := rec2 h x1 (x2 + (1 : Int32))
def fX10_nightGoes_2 : Nat → Hp → Int32 → Int32 → Option (Hp)
  | 0, _, _, _ => none
  | fu + 1, h, x1, x2 => if (hI h 107 17) ≤ x2 then (fX10_nightGoes_69 FU h x1 (0 : Int32)) else (if inb x2 12 then (if inb x1 2 then (if (hI h 126 (Int32.toNatClampNeg x2)) = (hI h 143 (Int32.toNatClampNeg x1)) then (if inb x2 12 then (if inb (((5 : Int32) * x1) + (hI h 125 (Int32.toNatClampNeg x2))) 10 then (if inb x2 12 then (if inb (((5 : Int32) * x1) + (hI (uI h 137 (Int32.toNatClampNeg (((5 : Int32) * x1) + (hI h 125 (Int32.toNatClampNeg x2)))) (99 : Int32)) 125 (Int32.toNatClampNeg x2))) 10 then (fX10_nightGoes_61 (fX10_nightGoes_2 fu) (uI (uI h 137 (Int32.toNatClampNeg (((5 : Int32) * x1) + (hI h 125 (Int32.toNatClampNeg x2)))) (99 : Int32)) 138 (Int32.toNatClampNeg (((5 : Int32) * x1) + (hI (uI h 137 (Int32.toNatClampNeg (((5 : Int32) * x1) + (hI h 125 (Int32.toNatClampNeg x2)))) (99 : Int32)) 125 (Int32.toNatClampNeg x2)))) (0 : Int32)) x1 x2) else none) else none) else none) else none) else (fX10_nightGoes_61 (fX10_nightGoes_2 fu) h x1 x2)) else none) else none)
def fX10_nightGoes (h : Hp) (x1 : Int32) : Option (Hp) := fX10_nightGoes_2 FU h x1 (0 : Int32)
set_option maxRecDepth 100000 in
set_option maxHeartbeats 4000000 in
theorem c_X10_nightGoes {l : Launch} {sb : State} {D : va_G} {ids : Nat → ClassId} {n : Nat} (hN : 152 ≤ n) (h : Hp) (x1 : Int32) (r : Hp) (hr : fX10_nightGoes h x1 = some r) : jM l yX10_nightGoes cX10_nightGoes 4 none 7 sb D ids shp St n [.ref 107, .int x1] h (jQv sb D ids shp St n r) := by
  refine jM_of hr rfl (Nat.le_of_ble_eq_true rfl) ?_
  intro p e s m args below meth c hC hret
  have b237 : ∀ (rec165 : Hp → Int32 → Int32 → Option (Hp)) (hrec165 : ∀ (h : Hp) (x1 : Int32) (x2 : Int32) , jJ p l e (rmD 7) s m args below meth c 4 sb D ids shp St (fun r => MQ below (jQv sb D ids shp St n r) args s 0 0 (jA sb)) n 0 0 h 165 [(0, .ref 107), (1, .int x1), (2, .int x2)] [] (rec165 h x1 x2)) (h : Hp) (x1 : Int32) (x2 : Int32) , jJ p l e (rmD 7) s m args below meth c 4 sb D ids shp St (fun r => MQ below (jQv sb D ids shp St n r) args s 0 0 (jA sb)) n 0 0 h 237 [(0, .ref 107), (1, .int x1), (2, .int x2)] [] (fX10_nightGoes_237 rec165 h x1 x2) := by
    intro rec165 hrec165 h x1 x2 
    unfold fX10_nightGoes_237
    refine j_iinc hC (v := (x2 + (1 : Int32))) (lv' := [(2, .int (x2 + (1 : Int32))), (0, .ref 107), (1, .int x1)]) 2 rfl (congrArg (fun z => x2 + z) (show Int32.ofInt (1) = (1 : Int32) from by decide)) (by decide) rfl (dOk_at dt_X10_nightGoes 146 rfl) ?_
    refine j_goto hC (tgt := 165) (by decide) (dOk_at dt_X10_nightGoes 147 rfl) ?_
    refine j_sub [1, 2, 0] rfl ?_
    exact hrec165 h x1 (x2 + (1 : Int32)) 
  have b236 : ∀ (rec165 : Hp → Int32 → Int32 → Option (Hp)) (hrec165 : ∀ (h : Hp) (x1 : Int32) (x2 : Int32) , jJ p l e (rmD 7) s m args below meth c 4 sb D ids shp St (fun r => MQ below (jQv sb D ids shp St n r) args s 0 0 (jA sb)) n 0 0 h 165 [(0, .ref 107), (1, .int x1), (2, .int x2)] [] (rec165 h x1 x2)) (h : Hp) (x1 : Int32) (x2 : Int32) (s1 : Int32) (s2 : Int32) , jJ p l e (rmD 7) s m args below meth c 4 sb D ids shp St (fun r => MQ below (jQv sb D ids shp St n r) args s 0 0 (jA sb)) n 0 0 h 236 [(0, .ref 107), (1, .int x1), (2, .int x2)] [.int s2, .int s1, .ref 138] (fX10_nightGoes_236 rec165 h x1 x2 s1 s2) := by
    intro rec165 hrec165 h x1 x2 s1 s2 
    unfold fX10_nightGoes_236
    refine j_ite (P := isZ s2 = true) (fun hz_16 => ?_) (fun _ => j_none)
    refine j_zast hC St_SP (show shp 138 = (23, 10) from rfl) (Nat.lt_of_lt_of_le (Nat.le_of_ble_eq_true rfl : 138 < 152) hN) hz_16 (dOk_at dt_X10_nightGoes 145 rfl) ?_
    exact b237 rec165 hrec165 (uI h 138 (Int32.toNatClampNeg s1) s2) x1 x2 
  have b217 : ∀ (rec165 : Hp → Int32 → Int32 → Option (Hp)) (hrec165 : ∀ (h : Hp) (x1 : Int32) (x2 : Int32) , jJ p l e (rmD 7) s m args below meth c 4 sb D ids shp St (fun r => MQ below (jQv sb D ids shp St n r) args s 0 0 (jA sb)) n 0 0 h 165 [(0, .ref 107), (1, .int x1), (2, .int x2)] [] (rec165 h x1 x2)) (h : Hp) (x1 : Int32) (x2 : Int32) (x3 : Int32) , jJ p l e (rmD 7) s m args below meth c 4 sb D ids shp St (fun r => MQ below (jQv sb D ids shp St n r) args s 0 0 (jA sb)) n 0 0 h 217 [(0, .ref 107), (1, .int x1), (2, .int x2), (3, .int x3)] [] (fX10_nightGoes_217 rec165 h x1 x2 x3) := by
    intro rec165 hrec165 h x1 x2 x3 
    unfold fX10_nightGoes_217
    refine j_aload_n hC 0 rfl rfl (dOk_at dt_X10_nightGoes 134 rfl) ?_
    refine j_getR hC flX10_106 (show shp 107 = (10, 88) from rfl) (Nat.lt_of_lt_of_le (Nat.le_of_ble_eq_true rfl : 107 < 152) hN) (by decide) (by decide) (fun _ _ _ => rfl) (fun hs => hs 107 61 138 rfl) (dOk_at dt_X10_nightGoes 135 rfl) ?_
    refine j_iload_n hC 3 rfl rfl (dOk_at dt_X10_nightGoes 136 rfl) ?_
    refine j_aload_n hC 0 rfl rfl (dOk_at dt_X10_nightGoes 137 rfl) ?_
    refine j_getR hC flX10_103 (show shp 107 = (10, 88) from rfl) (Nat.lt_of_lt_of_le (Nat.le_of_ble_eq_true rfl : 107 < 152) hN) (by decide) (by decide) (fun _ _ _ => rfl) (fun hs => hs 107 60 137 rfl) (dOk_at dt_X10_nightGoes 138 rfl) ?_
    refine j_iload_n hC 3 rfl rfl (dOk_at dt_X10_nightGoes 139 rfl) ?_
    refine j_iald hC (show shp 137 = (21, 10) from rfl) (Nat.lt_of_lt_of_le (Nat.le_of_ble_eq_true rfl : 137 < 152) hN) (dOk_at dt_X10_nightGoes 140 rfl) ?_
    refine j_if_ne hC (tgt := 235) (by decide) (dOk_at dt_X10_nightGoes 141 rfl) (fun q_15 => ?_) (fun q_15 => ?_)
    · refine j_iconst hC (v := (0 : Int32)) rfl (dOk_at dt_X10_nightGoes 144 rfl) ?_
      refine j_sub [0, 1, 2] rfl ?_
      exact b236 rec165 hrec165 h x1 x2 x3 (0 : Int32) 
    · refine j_iconst hC (v := (1 : Int32)) rfl (dOk_at dt_X10_nightGoes 142 rfl) ?_
      refine j_goto hC (tgt := 236) (by decide) (dOk_at dt_X10_nightGoes 143 rfl) ?_
      refine j_sub [0, 1, 2] rfl ?_
      exact b236 rec165 hrec165 h x1 x2 x3 (1 : Int32) 
  have b165 : ∀ (fu : Nat) (h : Hp) (x1 : Int32) (x2 : Int32) , jJ p l e (rmD 7) s m args below meth c 4 sb D ids shp St (fun r => MQ below (jQv sb D ids shp St n r) args s 0 0 (jA sb)) n 0 0 h 165 [(0, .ref 107), (1, .int x1), (2, .int x2)] [] (fX10_nightGoes_165 fu h x1 x2) := by
    intro fu 
    induction fu with
    | zero => intro h x1 x2 ; exact j_none
    | succ fu ih =>
    intro h x1 x2 
    rw [fX10_nightGoes_165]
    refine j_iload_n hC 2 rfl rfl (dOk_at dt_X10_nightGoes 102 rfl) ?_
    refine j_aload_n hC 0 rfl rfl (dOk_at dt_X10_nightGoes 103 rfl) ?_
    refine j_getI hC flX10_249 (show shp 107 = (10, 88) from rfl) (Nat.lt_of_lt_of_le (Nat.le_of_ble_eq_true rfl : 107 < 152) hN) (by decide) (by decide) (fun _ _ _ => rfl) (dOk_at dt_X10_nightGoes 104 rfl) ?_
    refine j_icmp_ge hC (tgt := 243) (by decide) (dOk_at dt_X10_nightGoes 105 rfl) (fun q_9 => ?_) (fun q_9 => ?_)
    · refine j_aload_n hC 0 rfl rfl (dOk_at dt_X10_nightGoes 148 rfl) ?_
      refine j_getR hC flX10_121 (show shp 107 = (10, 88) from rfl) (Nat.lt_of_lt_of_le (Nat.le_of_ble_eq_true rfl : 107 < 152) hN) (by decide) (by decide) (fun _ _ _ => rfl) (fun hs => hs 107 66 143 rfl) (dOk_at dt_X10_nightGoes 149 rfl) ?_
      refine j_iload_n hC 1 rfl rfl (dOk_at dt_X10_nightGoes 150 rfl) ?_
      refine j_dup2 hC (dOk_at dt_X10_nightGoes 151 rfl) ?_
      refine j_iald hC (show shp 143 = (21, 2) from rfl) (Nat.lt_of_lt_of_le (Nat.le_of_ble_eq_true rfl : 143 < 152) hN) (dOk_at dt_X10_nightGoes 152 rfl) ?_
      refine j_iconst hC (v := (1 : Int32)) rfl (dOk_at dt_X10_nightGoes 153 rfl) ?_
      refine j_iadd hC (dOk_at dt_X10_nightGoes 154 rfl) ?_
      refine j_iast hC St_SP (show shp 143 = (21, 2) from rfl) (Nat.lt_of_lt_of_le (Nat.le_of_ble_eq_true rfl : 143 < 152) hN) (dOk_at dt_X10_nightGoes 155 rfl) ?_
      exact j_vret hC hret (dOk_at dt_X10_nightGoes 156 rfl)
    · refine j_iconst hC (v := (5 : Int32)) rfl (dOk_at dt_X10_nightGoes 106 rfl) ?_
      refine j_iload_n hC 1 rfl rfl (dOk_at dt_X10_nightGoes 107 rfl) ?_
      refine j_imul hC (dOk_at dt_X10_nightGoes 108 rfl) ?_
      refine j_iload_n hC 2 rfl rfl (dOk_at dt_X10_nightGoes 109 rfl) ?_
      refine j_iadd hC (dOk_at dt_X10_nightGoes 110 rfl) ?_
      refine j_istore_n hC rfl (lv' := [(3, .int (((5 : Int32) * x1) + x2)), (0, .ref 107), (1, .int x1), (2, .int x2)]) (by decide) rfl (dOk_at dt_X10_nightGoes 111 rfl) ?_
      refine j_aload_n hC 1 rfl rfl (dOk_at dt_X10_nightGoes 112 rfl) ?_
      refine j_getR hC flX10_106 (show shp 107 = (10, 88) from rfl) (Nat.lt_of_lt_of_le (Nat.le_of_ble_eq_true rfl : 107 < 152) hN) (by decide) (by decide) (fun _ _ _ => rfl) (fun hs => hs 107 61 138 rfl) (dOk_at dt_X10_nightGoes 113 rfl) ?_
      refine j_iload_n hC 0 rfl rfl (dOk_at dt_X10_nightGoes 114 rfl) ?_
      refine j_zald hC (show shp 138 = (23, 10) from rfl) (Nat.lt_of_lt_of_le (Nat.le_of_ble_eq_true rfl : 138 < 152) hN) (dOk_at dt_X10_nightGoes 115 rfl) ?_
      refine j_if_eq hC (tgt := 191) (by decide) (dOk_at dt_X10_nightGoes 116 rfl) (fun q_10 => ?_) (fun q_10 => ?_)
      · refine j_aload_n hC 1 rfl rfl (dOk_at dt_X10_nightGoes 118 rfl) ?_
        refine j_callVi hC clX10_459 (fun rz hrz => c_X10_isDamp hN _ rz hrz) (show shp 107 = (10, 88) from rfl) (Nat.lt_of_lt_of_le (Nat.le_of_ble_eq_true rfl : 107 < 152) hN) (by decide) rfl rfl ⟨Nat.le_of_ble_eq_true rfl, Nat.le_of_ble_eq_true rfl⟩ ⟨Nat.le_refl 0, Nat.le_refl 0⟩ (As := []) (st := []) rfl (Nat.le_of_ble_eq_true rfl) (dOk_at dt_X10_nightGoes 119 rfl) (fun v_11 h_12 _ => ?_)
        refine j_if_eq hC (tgt := 217) (by decide) (dOk_at dt_X10_nightGoes 120 rfl) (fun q_13 => ?_) (fun q_13 => ?_)
        · refine j_sub [1, 2, 3, 0] rfl ?_
          exact b217 (fX10_nightGoes_165 fu) ih h_12 x1 x2 (((5 : Int32) * x1) + x2) 
        · refine j_aload_n hC 1 rfl rfl (dOk_at dt_X10_nightGoes 121 rfl) ?_
          refine j_getR hC flX10_103 (show shp 107 = (10, 88) from rfl) (Nat.lt_of_lt_of_le (Nat.le_of_ble_eq_true rfl : 107 < 152) hN) (by decide) (by decide) (fun _ _ _ => rfl) (fun hs => hs 107 60 137 rfl) (dOk_at dt_X10_nightGoes 122 rfl) ?_
          refine j_iload_n hC 0 rfl rfl (dOk_at dt_X10_nightGoes 123 rfl) ?_
          refine j_iald hC (show shp 137 = (21, 10) from rfl) (Nat.lt_of_lt_of_le (Nat.le_of_ble_eq_true rfl : 137 < 152) hN) (dOk_at dt_X10_nightGoes 124 rfl) ?_
          refine j_if_le hC (tgt := 217) (by decide) (dOk_at dt_X10_nightGoes 125 rfl) (fun q_14 => ?_) (fun q_14 => ?_)
          · refine j_sub [1, 2, 3, 0] rfl ?_
            exact b217 (fX10_nightGoes_165 fu) ih h_12 x1 x2 (((5 : Int32) * x1) + x2) 
          · refine j_aload_n hC 1 rfl rfl (dOk_at dt_X10_nightGoes 126 rfl) ?_
            refine j_getR hC flX10_103 (show shp 107 = (10, 88) from rfl) (Nat.lt_of_lt_of_le (Nat.le_of_ble_eq_true rfl : 107 < 152) hN) (by decide) (by decide) (fun _ _ _ => rfl) (fun hs => hs 107 60 137 rfl) (dOk_at dt_X10_nightGoes 127 rfl) ?_
            refine j_iload_n hC 0 rfl rfl (dOk_at dt_X10_nightGoes 128 rfl) ?_
            refine j_dup2 hC (dOk_at dt_X10_nightGoes 129 rfl) ?_
            refine j_iald hC (show shp 137 = (21, 10) from rfl) (Nat.lt_of_lt_of_le (Nat.le_of_ble_eq_true rfl : 137 < 152) hN) (dOk_at dt_X10_nightGoes 130 rfl) ?_
            refine j_iconst hC (v := (1 : Int32)) rfl (dOk_at dt_X10_nightGoes 131 rfl) ?_
            refine j_isub hC (dOk_at dt_X10_nightGoes 132 rfl) ?_
            refine j_iast hC St_SP (show shp 137 = (21, 10) from rfl) (Nat.lt_of_lt_of_le (Nat.le_of_ble_eq_true rfl : 137 < 152) hN) (dOk_at dt_X10_nightGoes 133 rfl) ?_
            refine j_sub [1, 2, 3, 0] rfl ?_
            exact b217 (fX10_nightGoes_165 fu) ih (uI h_12 137 (Int32.toNatClampNeg (((5 : Int32) * x1) + x2)) ((hI h_12 137 (Int32.toNatClampNeg (((5 : Int32) * x1) + x2))) - (1 : Int32))) x1 x2 (((5 : Int32) * x1) + x2) 
      · refine j_goto hC (tgt := 237) (by decide) (dOk_at dt_X10_nightGoes 117 rfl) ?_
        refine j_sub [1, 2, 3] rfl ?_
        exact b237 (fX10_nightGoes_165 fu) ih h x1 x2 
  have b157 : ∀ (rec69 : Hp → Int32 → Int32 → Option (Hp)) (hrec69 : ∀ (h : Hp) (x1 : Int32) (x2 : Int32) , jJ p l e (rmD 7) s m args below meth c 4 sb D ids shp St (fun r => MQ below (jQv sb D ids shp St n r) args s 0 0 (jA sb)) n 0 0 h 69 [(0, .ref 107), (1, .int x1), (2, .int x2)] [] (rec69 h x1 x2)) (h : Hp) (x1 : Int32) (x2 : Int32) , jJ p l e (rmD 7) s m args below meth c 4 sb D ids shp St (fun r => MQ below (jQv sb D ids shp St n r) args s 0 0 (jA sb)) n 0 0 h 157 [(0, .ref 107), (1, .int x1), (2, .int x2)] [] (fX10_nightGoes_157 rec69 h x1 x2) := by
    intro rec69 hrec69 h x1 x2 
    unfold fX10_nightGoes_157
    refine j_iinc hC (v := (x2 + (1 : Int32))) (lv' := [(2, .int (x2 + (1 : Int32))), (0, .ref 107), (1, .int x1)]) 2 rfl (congrArg (fun z => x2 + z) (show Int32.ofInt (1) = (1 : Int32) from by decide)) (by decide) rfl (dOk_at dt_X10_nightGoes 98 rfl) ?_
    refine j_goto hC (tgt := 69) (by decide) (dOk_at dt_X10_nightGoes 99 rfl) ?_
    refine j_sub [1, 2, 0] rfl ?_
    exact hrec69 h x1 (x2 + (1 : Int32)) 
  have b69 : ∀ (fu : Nat) (h : Hp) (x1 : Int32) (x2 : Int32) , jJ p l e (rmD 7) s m args below meth c 4 sb D ids shp St (fun r => MQ below (jQv sb D ids shp St n r) args s 0 0 (jA sb)) n 0 0 h 69 [(0, .ref 107), (1, .int x1), (2, .int x2)] [] (fX10_nightGoes_69 fu h x1 x2) := by
    intro fu 
    induction fu with
    | zero => intro h x1 x2 ; exact j_none
    | succ fu ih =>
    intro h x1 x2 
    rw [fX10_nightGoes_69]
    refine j_iload_n hC 2 rfl rfl (dOk_at dt_X10_nightGoes 44 rfl) ?_
    refine j_aload_n hC 0 rfl rfl (dOk_at dt_X10_nightGoes 45 rfl) ?_
    refine j_getI hC flX10_255 (show shp 107 = (10, 88) from rfl) (Nat.lt_of_lt_of_le (Nat.le_of_ble_eq_true rfl : 107 < 152) hN) (by decide) (by decide) (fun _ _ _ => rfl) (dOk_at dt_X10_nightGoes 46 rfl) ?_
    refine j_icmp_ge hC (tgt := 163) (by decide) (dOk_at dt_X10_nightGoes 47 rfl) (fun q_3 => ?_) (fun q_3 => ?_)
    · refine j_iconst hC (v := (0 : Int32)) rfl (dOk_at dt_X10_nightGoes 100 rfl) ?_
      refine j_istore_n hC rfl (lv' := [(2, .int (0 : Int32)), (0, .ref 107), (1, .int x1)]) (by decide) rfl (dOk_at dt_X10_nightGoes 101 rfl) ?_
      refine j_sub [1, 2, 0] rfl ?_
      exact b165 FU h x1 (0 : Int32) 
    · refine j_aload_n hC 0 rfl rfl (dOk_at dt_X10_nightGoes 48 rfl) ?_
      refine j_getR hC flX10_63 (show shp 107 = (10, 88) from rfl) (Nat.lt_of_lt_of_le (Nat.le_of_ble_eq_true rfl : 107 < 152) hN) (by decide) (by decide) (fun _ _ _ => rfl) (fun hs => hs 107 40 124 rfl) (dOk_at dt_X10_nightGoes 49 rfl) ?_
      refine j_iload_n hC 2 rfl rfl (dOk_at dt_X10_nightGoes 50 rfl) ?_
      refine j_iald hC (show shp 124 = (21, 24) from rfl) (Nat.lt_of_lt_of_le (Nat.le_of_ble_eq_true rfl : 124 < 152) hN) (dOk_at dt_X10_nightGoes 51 rfl) ?_
      refine j_aload_n hC 0 rfl rfl (dOk_at dt_X10_nightGoes 52 rfl) ?_
      refine j_getR hC flX10_121 (show shp 107 = (10, 88) from rfl) (Nat.lt_of_lt_of_le (Nat.le_of_ble_eq_true rfl : 107 < 152) hN) (by decide) (by decide) (fun _ _ _ => rfl) (fun hs => hs 107 66 143 rfl) (dOk_at dt_X10_nightGoes 53 rfl) ?_
      refine j_iload_n hC 1 rfl rfl (dOk_at dt_X10_nightGoes 54 rfl) ?_
      refine j_iald hC (show shp 143 = (21, 2) from rfl) (Nat.lt_of_lt_of_le (Nat.le_of_ble_eq_true rfl : 143 < 152) hN) (dOk_at dt_X10_nightGoes 55 rfl) ?_
      refine j_icmp_ne hC (tgt := 157) (by decide) (dOk_at dt_X10_nightGoes 56 rfl) (fun q_4 => ?_) (fun q_4 => ?_)
      · exact b157 (fX10_nightGoes_69 fu) ih h x1 x2 
      · refine j_aload_n hC 0 rfl rfl (dOk_at dt_X10_nightGoes 57 rfl) ?_
        refine j_getR hC flX10_57 (show shp 107 = (10, 88) from rfl) (Nat.lt_of_lt_of_le (Nat.le_of_ble_eq_true rfl : 107 < 152) hN) (by decide) (by decide) (fun _ _ _ => rfl) (fun hs => hs 107 38 122 rfl) (dOk_at dt_X10_nightGoes 58 rfl) ?_
        refine j_iload_n hC 2 rfl rfl (dOk_at dt_X10_nightGoes 59 rfl) ?_
        refine j_iald hC (show shp 122 = (21, 24) from rfl) (Nat.lt_of_lt_of_le (Nat.le_of_ble_eq_true rfl : 122 < 152) hN) (dOk_at dt_X10_nightGoes 60 rfl) ?_
        refine j_aload_n hC 0 rfl rfl (dOk_at dt_X10_nightGoes 61 rfl) ?_
        refine j_getI hC flX10_416 (show shp 107 = (10, 88) from rfl) (Nat.lt_of_lt_of_le (Nat.le_of_ble_eq_true rfl : 107 < 152) hN) (by decide) (by decide) (fun _ _ _ => rfl) (dOk_at dt_X10_nightGoes 62 rfl) ?_
        refine j_icmp_ne hC (tgt := 108) (by decide) (dOk_at dt_X10_nightGoes 63 rfl) (fun q_5 => ?_) (fun q_5 => ?_)
        · refine j_aload_n hC 0 rfl rfl (dOk_at dt_X10_nightGoes 65 rfl) ?_
          refine j_getR hC flX10_106 (show shp 107 = (10, 88) from rfl) (Nat.lt_of_lt_of_le (Nat.le_of_ble_eq_true rfl : 107 < 152) hN) (by decide) (by decide) (fun _ _ _ => rfl) (fun hs => hs 107 61 138 rfl) (dOk_at dt_X10_nightGoes 66 rfl) ?_
          refine j_iconst hC (v := (5 : Int32)) rfl (dOk_at dt_X10_nightGoes 67 rfl) ?_
          refine j_iload_n hC 1 rfl rfl (dOk_at dt_X10_nightGoes 68 rfl) ?_
          refine j_imul hC (dOk_at dt_X10_nightGoes 69 rfl) ?_
          refine j_aload_n hC 0 rfl rfl (dOk_at dt_X10_nightGoes 70 rfl) ?_
          refine j_getR hC flX10_60 (show shp 107 = (10, 88) from rfl) (Nat.lt_of_lt_of_le (Nat.le_of_ble_eq_true rfl : 107 < 152) hN) (by decide) (by decide) (fun _ _ _ => rfl) (fun hs => hs 107 39 123 rfl) (dOk_at dt_X10_nightGoes 71 rfl) ?_
          refine j_iload_n hC 2 rfl rfl (dOk_at dt_X10_nightGoes 72 rfl) ?_
          refine j_iald hC (show shp 123 = (21, 24) from rfl) (Nat.lt_of_lt_of_le (Nat.le_of_ble_eq_true rfl : 123 < 152) hN) (dOk_at dt_X10_nightGoes 73 rfl) ?_
          refine j_iadd hC (dOk_at dt_X10_nightGoes 74 rfl) ?_
          refine j_zald hC (show shp 138 = (23, 10) from rfl) (Nat.lt_of_lt_of_le (Nat.le_of_ble_eq_true rfl : 138 < 152) hN) (dOk_at dt_X10_nightGoes 75 rfl) ?_
          refine j_if_eq hC (tgt := 139) (by decide) (dOk_at dt_X10_nightGoes 76 rfl) (fun q_6 => ?_) (fun q_6 => ?_)
          · refine j_aload_n hC 0 rfl rfl (dOk_at dt_X10_nightGoes 86 rfl) ?_
            refine j_iload_n hC 1 rfl rfl (dOk_at dt_X10_nightGoes 87 rfl) ?_
            refine j_aload_n hC 0 rfl rfl (dOk_at dt_X10_nightGoes 88 rfl) ?_
            refine j_getR hC flX10_57 (show shp 107 = (10, 88) from rfl) (Nat.lt_of_lt_of_le (Nat.le_of_ble_eq_true rfl : 107 < 152) hN) (by decide) (by decide) (fun _ _ _ => rfl) (fun hs => hs 107 38 122 rfl) (dOk_at dt_X10_nightGoes 89 rfl) ?_
            refine j_iload_n hC 2 rfl rfl (dOk_at dt_X10_nightGoes 90 rfl) ?_
            refine j_iald hC (show shp 122 = (21, 24) from rfl) (Nat.lt_of_lt_of_le (Nat.le_of_ble_eq_true rfl : 122 < 152) hN) (dOk_at dt_X10_nightGoes 91 rfl) ?_
            refine j_aload_n hC 0 rfl rfl (dOk_at dt_X10_nightGoes 92 rfl) ?_
            refine j_getR hC flX10_60 (show shp 107 = (10, 88) from rfl) (Nat.lt_of_lt_of_le (Nat.le_of_ble_eq_true rfl : 107 < 152) hN) (by decide) (by decide) (fun _ _ _ => rfl) (fun hs => hs 107 39 123 rfl) (dOk_at dt_X10_nightGoes 93 rfl) ?_
            refine j_iload_n hC 2 rfl rfl (dOk_at dt_X10_nightGoes 94 rfl) ?_
            refine j_iald hC (show shp 123 = (21, 24) from rfl) (Nat.lt_of_lt_of_le (Nat.le_of_ble_eq_true rfl : 123 < 152) hN) (dOk_at dt_X10_nightGoes 95 rfl) ?_
            refine j_callVi hC clX10_456 (fun rz hrz => c_X10_debatesOne hN _ _ _ _ rz hrz) (show shp 107 = (10, 88) from rfl) (Nat.lt_of_lt_of_le (Nat.le_of_ble_eq_true rfl : 107 < 152) hN) (by decide) rfl rfl ⟨Nat.le_of_ble_eq_true rfl, Nat.le_of_ble_eq_true rfl⟩ ⟨Nat.le_refl 0, Nat.le_refl 0⟩ (As := [.int x1, .int (hI h 122 (Int32.toNatClampNeg x2)), .int (hI h 123 (Int32.toNatClampNeg x2))]) (st := []) rfl (Nat.le_of_ble_eq_true rfl) (dOk_at dt_X10_nightGoes 96 rfl) (fun v_7 h_8 _ => ?_)
            refine j_pop hC (dOk_at dt_X10_nightGoes 97 rfl) ?_
            exact b157 (fX10_nightGoes_69 fu) ih h_8 x1 x2 
          · refine j_aload_n hC 0 rfl rfl (dOk_at dt_X10_nightGoes 77 rfl) ?_
            refine j_getR hC flX10_118 (show shp 107 = (10, 88) from rfl) (Nat.lt_of_lt_of_le (Nat.le_of_ble_eq_true rfl : 107 < 152) hN) (by decide) (by decide) (fun _ _ _ => rfl) (fun hs => hs 107 65 142 rfl) (dOk_at dt_X10_nightGoes 78 rfl) ?_
            refine j_iload_n hC 1 rfl rfl (dOk_at dt_X10_nightGoes 79 rfl) ?_
            refine j_dup2 hC (dOk_at dt_X10_nightGoes 80 rfl) ?_
            refine j_iald hC (show shp 142 = (21, 2) from rfl) (Nat.lt_of_lt_of_le (Nat.le_of_ble_eq_true rfl : 142 < 152) hN) (dOk_at dt_X10_nightGoes 81 rfl) ?_
            refine j_iconst hC (v := (1 : Int32)) rfl (dOk_at dt_X10_nightGoes 82 rfl) ?_
            refine j_iadd hC (dOk_at dt_X10_nightGoes 83 rfl) ?_
            refine j_iast hC St_SP (show shp 142 = (21, 2) from rfl) (Nat.lt_of_lt_of_le (Nat.le_of_ble_eq_true rfl : 142 < 152) hN) (dOk_at dt_X10_nightGoes 84 rfl) ?_
            refine j_goto hC (tgt := 157) (by decide) (dOk_at dt_X10_nightGoes 85 rfl) ?_
            exact b157 (fX10_nightGoes_69 fu) ih (uI h 142 (Int32.toNatClampNeg x1) ((hI h 142 (Int32.toNatClampNeg x1)) + (1 : Int32))) x1 x2 
        · refine j_goto hC (tgt := 157) (by decide) (dOk_at dt_X10_nightGoes 64 rfl) ?_
          exact b157 (fX10_nightGoes_69 fu) ih h x1 x2 
  have b61 : ∀ (rec2 : Hp → Int32 → Int32 → Option (Hp)) (hrec2 : ∀ (h : Hp) (x1 : Int32) (x2 : Int32) , jJ p l e (rmD 7) s m args below meth c 4 sb D ids shp St (fun r => MQ below (jQv sb D ids shp St n r) args s 0 0 (jA sb)) n 0 0 h 2 [(0, .ref 107), (1, .int x1), (2, .int x2)] [] (rec2 h x1 x2)) (h : Hp) (x1 : Int32) (x2 : Int32) , jJ p l e (rmD 7) s m args below meth c 4 sb D ids shp St (fun r => MQ below (jQv sb D ids shp St n r) args s 0 0 (jA sb)) n 0 0 h 61 [(0, .ref 107), (1, .int x1), (2, .int x2)] [] (fX10_nightGoes_61 rec2 h x1 x2) := by
    intro rec2 hrec2 h x1 x2 
    unfold fX10_nightGoes_61
    refine j_iinc hC (v := (x2 + (1 : Int32))) (lv' := [(2, .int (x2 + (1 : Int32))), (0, .ref 107), (1, .int x1)]) 2 rfl (congrArg (fun z => x2 + z) (show Int32.ofInt (1) = (1 : Int32) from by decide)) (by decide) rfl (dOk_at dt_X10_nightGoes 40 rfl) ?_
    refine j_goto hC (tgt := 2) (by decide) (dOk_at dt_X10_nightGoes 41 rfl) ?_
    refine j_sub [1, 2, 0] rfl ?_
    exact hrec2 h x1 (x2 + (1 : Int32)) 
  have b2 : ∀ (fu : Nat) (h : Hp) (x1 : Int32) (x2 : Int32) , jJ p l e (rmD 7) s m args below meth c 4 sb D ids shp St (fun r => MQ below (jQv sb D ids shp St n r) args s 0 0 (jA sb)) n 0 0 h 2 [(0, .ref 107), (1, .int x1), (2, .int x2)] [] (fX10_nightGoes_2 fu h x1 x2) := by
    intro fu 
    induction fu with
    | zero => intro h x1 x2 ; exact j_none
    | succ fu ih =>
    intro h x1 x2 
    rw [fX10_nightGoes_2]
    refine j_iload_n hC 2 rfl rfl (dOk_at dt_X10_nightGoes 2 rfl) ?_
    refine j_aload_n hC 0 rfl rfl (dOk_at dt_X10_nightGoes 3 rfl) ?_
    refine j_getI hC flX10_258 (show shp 107 = (10, 88) from rfl) (Nat.lt_of_lt_of_le (Nat.le_of_ble_eq_true rfl : 107 < 152) hN) (by decide) (by decide) (fun _ _ _ => rfl) (dOk_at dt_X10_nightGoes 4 rfl) ?_
    refine j_icmp_ge hC (tgt := 67) (by decide) (dOk_at dt_X10_nightGoes 5 rfl) (fun q_1 => ?_) (fun q_1 => ?_)
    · refine j_iconst hC (v := (0 : Int32)) rfl (dOk_at dt_X10_nightGoes 42 rfl) ?_
      refine j_istore_n hC rfl (lv' := [(2, .int (0 : Int32)), (0, .ref 107), (1, .int x1)]) (by decide) rfl (dOk_at dt_X10_nightGoes 43 rfl) ?_
      refine j_sub [1, 2, 0] rfl ?_
      exact b69 FU h x1 (0 : Int32) 
    · refine j_aload_n hC 0 rfl rfl (dOk_at dt_X10_nightGoes 6 rfl) ?_
      refine j_getR hC flX10_69 (show shp 107 = (10, 88) from rfl) (Nat.lt_of_lt_of_le (Nat.le_of_ble_eq_true rfl : 107 < 152) hN) (by decide) (by decide) (fun _ _ _ => rfl) (fun hs => hs 107 42 126 rfl) (dOk_at dt_X10_nightGoes 7 rfl) ?_
      refine j_iload_n hC 2 rfl rfl (dOk_at dt_X10_nightGoes 8 rfl) ?_
      refine j_iald hC (show shp 126 = (21, 12) from rfl) (Nat.lt_of_lt_of_le (Nat.le_of_ble_eq_true rfl : 126 < 152) hN) (dOk_at dt_X10_nightGoes 9 rfl) ?_
      refine j_aload_n hC 0 rfl rfl (dOk_at dt_X10_nightGoes 10 rfl) ?_
      refine j_getR hC flX10_121 (show shp 107 = (10, 88) from rfl) (Nat.lt_of_lt_of_le (Nat.le_of_ble_eq_true rfl : 107 < 152) hN) (by decide) (by decide) (fun _ _ _ => rfl) (fun hs => hs 107 66 143 rfl) (dOk_at dt_X10_nightGoes 11 rfl) ?_
      refine j_iload_n hC 1 rfl rfl (dOk_at dt_X10_nightGoes 12 rfl) ?_
      refine j_iald hC (show shp 143 = (21, 2) from rfl) (Nat.lt_of_lt_of_le (Nat.le_of_ble_eq_true rfl : 143 < 152) hN) (dOk_at dt_X10_nightGoes 13 rfl) ?_
      refine j_icmp_eq hC (tgt := 28) (by decide) (dOk_at dt_X10_nightGoes 14 rfl) (fun q_2 => ?_) (fun q_2 => ?_)
      · refine j_aload_n hC 0 rfl rfl (dOk_at dt_X10_nightGoes 16 rfl) ?_
        refine j_getR hC flX10_103 (show shp 107 = (10, 88) from rfl) (Nat.lt_of_lt_of_le (Nat.le_of_ble_eq_true rfl : 107 < 152) hN) (by decide) (by decide) (fun _ _ _ => rfl) (fun hs => hs 107 60 137 rfl) (dOk_at dt_X10_nightGoes 17 rfl) ?_
        refine j_iconst hC (v := (5 : Int32)) rfl (dOk_at dt_X10_nightGoes 18 rfl) ?_
        refine j_iload_n hC 1 rfl rfl (dOk_at dt_X10_nightGoes 19 rfl) ?_
        refine j_imul hC (dOk_at dt_X10_nightGoes 20 rfl) ?_
        refine j_aload_n hC 0 rfl rfl (dOk_at dt_X10_nightGoes 21 rfl) ?_
        refine j_getR hC flX10_66 (show shp 107 = (10, 88) from rfl) (Nat.lt_of_lt_of_le (Nat.le_of_ble_eq_true rfl : 107 < 152) hN) (by decide) (by decide) (fun _ _ _ => rfl) (fun hs => hs 107 41 125 rfl) (dOk_at dt_X10_nightGoes 22 rfl) ?_
        refine j_iload_n hC 2 rfl rfl (dOk_at dt_X10_nightGoes 23 rfl) ?_
        refine j_iald hC (show shp 125 = (21, 12) from rfl) (Nat.lt_of_lt_of_le (Nat.le_of_ble_eq_true rfl : 125 < 152) hN) (dOk_at dt_X10_nightGoes 24 rfl) ?_
        refine j_iadd hC (dOk_at dt_X10_nightGoes 25 rfl) ?_
        refine j_bipush hC (v := (99 : Int32)) rfl (dOk_at dt_X10_nightGoes 26 rfl) ?_
        refine j_iast hC St_SP (show shp 137 = (21, 10) from rfl) (Nat.lt_of_lt_of_le (Nat.le_of_ble_eq_true rfl : 137 < 152) hN) (dOk_at dt_X10_nightGoes 27 rfl) ?_
        refine j_aload_n hC 0 rfl rfl (dOk_at dt_X10_nightGoes 28 rfl) ?_
        refine j_getR hC flX10_106 (show shp 107 = (10, 88) from rfl) (Nat.lt_of_lt_of_le (Nat.le_of_ble_eq_true rfl : 107 < 152) hN) (by decide) (by decide) (fun _ _ _ => rfl) (fun hs => hs 107 61 138 rfl) (dOk_at dt_X10_nightGoes 29 rfl) ?_
        refine j_iconst hC (v := (5 : Int32)) rfl (dOk_at dt_X10_nightGoes 30 rfl) ?_
        refine j_iload_n hC 1 rfl rfl (dOk_at dt_X10_nightGoes 31 rfl) ?_
        refine j_imul hC (dOk_at dt_X10_nightGoes 32 rfl) ?_
        refine j_aload_n hC 0 rfl rfl (dOk_at dt_X10_nightGoes 33 rfl) ?_
        refine j_getR hC flX10_66 (show shp 107 = (10, 88) from rfl) (Nat.lt_of_lt_of_le (Nat.le_of_ble_eq_true rfl : 107 < 152) hN) (by decide) (by decide) (fun _ _ _ => rfl) (fun hs => hs 107 41 125 rfl) (dOk_at dt_X10_nightGoes 34 rfl) ?_
        refine j_iload_n hC 2 rfl rfl (dOk_at dt_X10_nightGoes 35 rfl) ?_
        refine j_iald hC (show shp 125 = (21, 12) from rfl) (Nat.lt_of_lt_of_le (Nat.le_of_ble_eq_true rfl : 125 < 152) hN) (dOk_at dt_X10_nightGoes 36 rfl) ?_
        refine j_iadd hC (dOk_at dt_X10_nightGoes 37 rfl) ?_
        refine j_iconst hC (v := (0 : Int32)) rfl (dOk_at dt_X10_nightGoes 38 rfl) ?_
        refine j_zast hC St_SP (show shp 138 = (23, 10) from rfl) (Nat.lt_of_lt_of_le (Nat.le_of_ble_eq_true rfl : 138 < 152) hN) rfl (dOk_at dt_X10_nightGoes 39 rfl) ?_
        exact b61 (fX10_nightGoes_2 fu) ih (uI (uI h 137 (Int32.toNatClampNeg (((5 : Int32) * x1) + (hI h 125 (Int32.toNatClampNeg x2)))) (99 : Int32)) 138 (Int32.toNatClampNeg (((5 : Int32) * x1) + (hI (uI h 137 (Int32.toNatClampNeg (((5 : Int32) * x1) + (hI h 125 (Int32.toNatClampNeg x2)))) (99 : Int32)) 125 (Int32.toNatClampNeg x2)))) (0 : Int32)) x1 x2 
      · refine j_goto hC (tgt := 61) (by decide) (dOk_at dt_X10_nightGoes 15 rfl) ?_
        exact b61 (fX10_nightGoes_2 fu) ih h x1 x2 
  unfold fX10_nightGoes
  refine j_iconst hC (v := (0 : Int32)) rfl (dOk_at dt_X10_nightGoes 0 rfl) ?_
  refine j_istore_n hC rfl (lv' := [(2, .int (0 : Int32)), (0, .ref 107), (1, .int x1)]) (by decide) rfl (dOk_at dt_X10_nightGoes 1 rfl) ?_
  refine j_sub [1, 2, 0] rfl ?_
  exact b2 FU h x1 (0 : Int32) 
def tb_X10_goMany : List (Nat × Instr × Nat) := [(0, .iconst 0, 1), (1, .istore_n 2, 1), (2, .iload_n 2, 1), (3, .iload_n 1, 1), (4, .if_icmp .ge 14, 3), (7, .aload_n 0, 1), (8, .iconst 1, 1), (9, .invokevirtual 462, 3), (12, .iinc 2 1, 3), (15, .goto (-13), 3), (18, .return_, 1)]
theorem dt_X10_goMany : dOk cX10_goMany tb_X10_goMany = true := by decide +kernel
def fX10_goMany_2 : Nat → Hp → Int32 → Int32 → Option (Hp)
  | 0, _, _, _ => none
  | fu + 1, h, x1, x2 => if x1 ≤ x2 then (some h) else ((fX10_nightGoes h (1 : Int32)).bind (fun h_3 => (fX10_goMany_2 fu) h_3 x1 (x2 + (1 : Int32))))
def fX10_goMany (h : Hp) (x1 : Int32) : Option (Hp) := fX10_goMany_2 FU h x1 (0 : Int32)
set_option maxRecDepth 100000 in
set_option maxHeartbeats 4000000 in
theorem c_X10_goMany {l : Launch} {sb : State} {D : va_G} {ids : Nat → ClassId} {n : Nat} (hN : 152 ≤ n) (h : Hp) (x1 : Int32) (r : Hp) (hr : fX10_goMany h x1 = some r) : jM l yX10_goMany cX10_goMany 3 none 8 sb D ids shp St n [.ref 107, .int x1] h (jQv sb D ids shp St n r) := by
  refine jM_of hr rfl (Nat.le_of_ble_eq_true rfl) ?_
  intro p e s m args below meth c hC hret
  have b2 : ∀ (fu : Nat) (h : Hp) (x1 : Int32) (x2 : Int32) , jJ p l e (rmD 8) s m args below meth c 3 sb D ids shp St (fun r => MQ below (jQv sb D ids shp St n r) args s 0 0 (jA sb)) n 0 0 h 2 [(0, .ref 107), (1, .int x1), (2, .int x2)] [] (fX10_goMany_2 fu h x1 x2) := by
    intro fu 
    induction fu with
    | zero => intro h x1 x2 ; exact j_none
    | succ fu ih =>
    intro h x1 x2 
    rw [fX10_goMany_2]
    refine j_iload_n hC 2 rfl rfl (dOk_at dt_X10_goMany 2 rfl) ?_
    refine j_iload_n hC 1 rfl rfl (dOk_at dt_X10_goMany 3 rfl) ?_
    refine j_icmp_ge hC (tgt := 18) (by decide) (dOk_at dt_X10_goMany 4 rfl) (fun q_1 => ?_) (fun q_1 => ?_)
    · exact j_vret hC hret (dOk_at dt_X10_goMany 10 rfl)
    · refine j_aload_n hC 0 rfl rfl (dOk_at dt_X10_goMany 5 rfl) ?_
      refine j_iconst hC (v := (1 : Int32)) rfl (dOk_at dt_X10_goMany 6 rfl) ?_
      refine j_callVv hC clX10_462 (fun rz hrz => c_X10_nightGoes hN _ _ rz hrz) (show shp 107 = (10, 88) from rfl) (Nat.lt_of_lt_of_le (Nat.le_of_ble_eq_true rfl : 107 < 152) hN) (by decide) rfl rfl ⟨Nat.le_of_ble_eq_true rfl, Nat.le_of_ble_eq_true rfl⟩ ⟨Nat.le_refl 0, Nat.le_refl 0⟩ (As := [.int (1 : Int32)]) (st := []) rfl (Nat.le_of_ble_eq_true rfl) (dOk_at dt_X10_goMany 7 rfl) (fun h_3 _ => ?_)
      refine j_iinc hC (v := (x2 + (1 : Int32))) (lv' := [(2, .int (x2 + (1 : Int32))), (0, .ref 107), (1, .int x1)]) 2 rfl (congrArg (fun z => x2 + z) (show Int32.ofInt (1) = (1 : Int32) from by decide)) (by decide) rfl (dOk_at dt_X10_goMany 8 rfl) ?_
      refine j_goto hC (tgt := 2) (by decide) (dOk_at dt_X10_goMany 9 rfl) ?_
      refine j_sub [1, 2, 0] rfl ?_
      exact ih h_3 x1 (x2 + (1 : Int32)) 
  unfold fX10_goMany
  refine j_iconst hC (v := (0 : Int32)) rfl (dOk_at dt_X10_goMany 0 rfl) ?_
  refine j_istore_n hC rfl (lv' := [(2, .int (0 : Int32)), (0, .ref 107), (1, .int x1)]) (by decide) rfl (dOk_at dt_X10_goMany 1 rfl) ?_
  refine j_sub [1, 2, 0] rfl ?_
  exact b2 FU h x1 (0 : Int32) 
def tb_X10_sumOf : List (Nat × Instr × Nat) := [(0, .iconst 0, 1), (1, .istore_n 2, 1), (2, .iconst 0, 1), (3, .istore_n 3, 1), (4, .iload_n 3, 1), (5, .iconst 5, 1), (6, .if_icmp .ge 19, 3), (9, .iload_n 2, 1), (10, .aload_n 0, 1), (11, .iconst 5, 1), (12, .iload_n 1, 1), (13, .imul, 1), (14, .iload_n 3, 1), (15, .iadd, 1), (16, .iaload, 1), (17, .iadd, 1), (18, .istore_n 2, 1), (19, .iinc 3 1, 3), (22, .goto (-18), 3), (25, .iload_n 2, 1), (26, .ireturn, 1)]
theorem dt_X10_sumOf : dOk cX10_sumOf tb_X10_sumOf = true := by decide +kernel
def fX10_sumOf_4 : Nat → (Nat) → (Nat) → Hp → Int32 → Int32 → Int32 → Option (Int32 × Hp)
  | 0, _, _, _, _, _, _ => none
  | fu + 1, r0, n0, h, x1, x2, x3 => if (5 : Int32) ≤ x3 then (some (x2, h)) else (if inb (((5 : Int32) * x1) + x3) n0 then ((fX10_sumOf_4 fu r0 n0) h x1 (x2 + (hI h r0 (Int32.toNatClampNeg (((5 : Int32) * x1) + x3)))) (x3 + (1 : Int32))) else none)
def fX10_sumOf (r0 : Nat) (n0 : Nat) (h : Hp) (x1 : Int32) : Option (Int32 × Hp) := fX10_sumOf_4 FU r0 n0 h x1 (0 : Int32) (0 : Int32)
set_option maxRecDepth 100000 in
set_option maxHeartbeats 4000000 in
theorem c_X10_sumOf {l : Launch} {sb : State} {D : va_G} {ids : Nat → ClassId} {n : Nat} (hN : 152 ≤ n) {r0 : Nat} {n0 : Nat} (h0 : shp r0 = (21, n0)) (h : Hp) (x1 : Int32) (r : Int32 × Hp) (hr : fX10_sumOf r0 n0 h x1 = some r) : jM l yX10_sumOf cX10_sumOf 4 (some .int) 0 sb D ids shp St n [.ref r0, .int x1] h (jQi sb D ids shp St n r) := by
  refine jM_of hr rfl (Nat.le_of_ble_eq_true rfl) ?_
  intro p e s m args below meth c hC hret
  have b4 : ∀ (fu : Nat) (h : Hp) (x1 : Int32) (x2 : Int32) (x3 : Int32) , jJ p l e (rmD 0) s m args below meth c 4 sb D ids shp St (fun r => MQ below (jQi sb D ids shp St n r) args s 0 0 (jA sb)) n 0 0 h 4 [(0, .ref r0), (1, .int x1), (2, .int x2), (3, .int x3)] [] (fX10_sumOf_4 fu r0 n0 h x1 x2 x3) := by
    intro fu 
    induction fu with
    | zero => intro h x1 x2 x3 ; exact j_none
    | succ fu ih =>
    intro h x1 x2 x3 
    rw [fX10_sumOf_4]
    refine j_iload_n hC 3 rfl rfl (dOk_at dt_X10_sumOf 4 rfl) ?_
    refine j_iconst hC (v := (5 : Int32)) rfl (dOk_at dt_X10_sumOf 5 rfl) ?_
    refine j_icmp_ge hC (tgt := 25) (by decide) (dOk_at dt_X10_sumOf 6 rfl) (fun q_1 => ?_) (fun q_1 => ?_)
    · refine j_iload_n hC 2 rfl rfl (dOk_at dt_X10_sumOf 19 rfl) ?_
      exact j_iret hC hret (dOk_at dt_X10_sumOf 20 rfl)
    · refine j_iload_n hC 2 rfl rfl (dOk_at dt_X10_sumOf 7 rfl) ?_
      refine j_aload_n hC 0 rfl rfl (dOk_at dt_X10_sumOf 8 rfl) ?_
      refine j_iconst hC (v := (5 : Int32)) rfl (dOk_at dt_X10_sumOf 9 rfl) ?_
      refine j_iload_n hC 1 rfl rfl (dOk_at dt_X10_sumOf 10 rfl) ?_
      refine j_imul hC (dOk_at dt_X10_sumOf 11 rfl) ?_
      refine j_iload_n hC 3 rfl rfl (dOk_at dt_X10_sumOf 12 rfl) ?_
      refine j_iadd hC (dOk_at dt_X10_sumOf 13 rfl) ?_
      refine j_iald hC h0 (jlt hN h0 (by decide)) (dOk_at dt_X10_sumOf 14 rfl) ?_
      refine j_iadd hC (dOk_at dt_X10_sumOf 15 rfl) ?_
      refine j_istore_n hC rfl (lv' := [(2, .int (x2 + (hI h r0 (Int32.toNatClampNeg (((5 : Int32) * x1) + x3))))), (0, .ref r0), (1, .int x1), (3, .int x3)]) (by decide) rfl (dOk_at dt_X10_sumOf 16 rfl) ?_
      refine j_iinc hC (v := (x3 + (1 : Int32))) (lv' := [(3, .int (x3 + (1 : Int32))), (2, .int (x2 + (hI h r0 (Int32.toNatClampNeg (((5 : Int32) * x1) + x3))))), (0, .ref r0), (1, .int x1)]) 3 rfl (congrArg (fun z => x3 + z) (show Int32.ofInt (1) = (1 : Int32) from by decide)) (by decide) rfl (dOk_at dt_X10_sumOf 17 rfl) ?_
      refine j_goto hC (tgt := 4) (by decide) (dOk_at dt_X10_sumOf 18 rfl) ?_
      refine j_sub [2, 3, 1, 0] rfl ?_
      exact ih h x1 (x2 + (hI h r0 (Int32.toNatClampNeg (((5 : Int32) * x1) + x3)))) (x3 + (1 : Int32)) 
  unfold fX10_sumOf
  refine j_iconst hC (v := (0 : Int32)) rfl (dOk_at dt_X10_sumOf 0 rfl) ?_
  refine j_istore_n hC rfl (lv' := [(2, .int (0 : Int32)), (0, .ref r0), (1, .int x1)]) (by decide) rfl (dOk_at dt_X10_sumOf 1 rfl) ?_
  refine j_iconst hC (v := (0 : Int32)) rfl (dOk_at dt_X10_sumOf 2 rfl) ?_
  refine j_istore_n hC rfl (lv' := [(3, .int (0 : Int32)), (2, .int (0 : Int32)), (0, .ref r0), (1, .int x1)]) (by decide) rfl (dOk_at dt_X10_sumOf 3 rfl) ?_
  refine j_sub [2, 3, 1, 0] rfl ?_
  exact b4 FU h x1 (0 : Int32) (0 : Int32) 
def tb_X10_shedMany : List (Nat × Instr × Nat) := [(0, .iconst 0, 1), (1, .istore_n 2, 1), (2, .iconst 0, 1), (3, .istore_n 3, 1), (4, .iload_n 3, 1), (5, .aload_n 0, 1), (6, .getfield 249, 3), (9, .if_icmp .ge 30, 3), (12, .iload_n 2, 1), (13, .aload_n 0, 1), (14, .getfield 106, 3), (17, .iconst 5, 1), (18, .iload_n 1, 1), (19, .imul, 1), (20, .iload_n 3, 1), (21, .iadd, 1), (22, .baload, 1), (23, .ifCond .eq 7, 3), (26, .iconst 1, 1), (27, .goto 4, 3), (30, .iconst 0, 1), (31, .iadd, 1), (32, .istore_n 2, 1), (33, .iinc 3 1, 3), (36, .goto (-32), 3), (39, .iload_n 2, 1), (40, .ireturn, 1)]
theorem dt_X10_shedMany : dOk cX10_shedMany tb_X10_shedMany = true := by decide +kernel
def fX10_shedMany_31 (rec4 : Hp → Int32 → Int32 → Int32 → Option (Int32 × Hp)) (h : Hp) (x1 : Int32) (x3 : Int32) (s0 : Int32) (s1 : Int32) : Option (Int32 × Hp) := rec4 h x1 (s0 + s1) (x3 + (1 : Int32))
def fX10_shedMany_4 : Nat → Hp → Int32 → Int32 → Int32 → Option (Int32 × Hp)
  | 0, _, _, _, _ => none
  | fu + 1, h, x1, x2, x3 => if (hI h 107 14) ≤ x3 then (some (x2, h)) else (if inb (((5 : Int32) * x1) + x3) 10 then (if (hI h 138 (Int32.toNatClampNeg (((5 : Int32) * x1) + x3))) = 0 then (fX10_shedMany_31 (fX10_shedMany_4 fu) h x1 x3 x2 (0 : Int32)) else (fX10_shedMany_31 (fX10_shedMany_4 fu) h x1 x3 x2 (1 : Int32))) else none)
def fX10_shedMany (h : Hp) (x1 : Int32) : Option (Int32 × Hp) := fX10_shedMany_4 FU h x1 (0 : Int32) (0 : Int32)
set_option maxRecDepth 100000 in
set_option maxHeartbeats 4000000 in
theorem c_X10_shedMany {l : Launch} {sb : State} {D : va_G} {ids : Nat → ClassId} {n : Nat} (hN : 152 ≤ n) (h : Hp) (x1 : Int32) (r : Int32 × Hp) (hr : fX10_shedMany h x1 = some r) : jM l yX10_shedMany cX10_shedMany 4 (some .int) 0 sb D ids shp St n [.ref 107, .int x1] h (jQi sb D ids shp St n r) := by
  refine jM_of hr rfl (Nat.le_of_ble_eq_true rfl) ?_
  intro p e s m args below meth c hC hret
  have b31 : ∀ (rec4 : Hp → Int32 → Int32 → Int32 → Option (Int32 × Hp)) (hrec4 : ∀ (h : Hp) (x1 : Int32) (x2 : Int32) (x3 : Int32) , jJ p l e (rmD 0) s m args below meth c 4 sb D ids shp St (fun r => MQ below (jQi sb D ids shp St n r) args s 0 0 (jA sb)) n 0 0 h 4 [(0, .ref 107), (1, .int x1), (2, .int x2), (3, .int x3)] [] (rec4 h x1 x2 x3)) (h : Hp) (x1 : Int32) (x3 : Int32) (s0 : Int32) (s1 : Int32) , jJ p l e (rmD 0) s m args below meth c 4 sb D ids shp St (fun r => MQ below (jQi sb D ids shp St n r) args s 0 0 (jA sb)) n 0 0 h 31 [(0, .ref 107), (1, .int x1), (3, .int x3)] [.int s1, .int s0] (fX10_shedMany_31 rec4 h x1 x3 s0 s1) := by
    intro rec4 hrec4 h x1 x3 s0 s1 
    unfold fX10_shedMany_31
    refine j_iadd hC (dOk_at dt_X10_shedMany 21 rfl) ?_
    refine j_istore_n hC rfl (lv' := [(2, .int (s0 + s1)), (0, .ref 107), (1, .int x1), (3, .int x3)]) (by decide) rfl (dOk_at dt_X10_shedMany 22 rfl) ?_
    refine j_iinc hC (v := (x3 + (1 : Int32))) (lv' := [(3, .int (x3 + (1 : Int32))), (2, .int (s0 + s1)), (0, .ref 107), (1, .int x1)]) 3 rfl (congrArg (fun z => x3 + z) (show Int32.ofInt (1) = (1 : Int32) from by decide)) (by decide) rfl (dOk_at dt_X10_shedMany 23 rfl) ?_
    refine j_goto hC (tgt := 4) (by decide) (dOk_at dt_X10_shedMany 24 rfl) ?_
    refine j_sub [2, 3, 1, 0] rfl ?_
    exact hrec4 h x1 (s0 + s1) (x3 + (1 : Int32)) 
  have b4 : ∀ (fu : Nat) (h : Hp) (x1 : Int32) (x2 : Int32) (x3 : Int32) , jJ p l e (rmD 0) s m args below meth c 4 sb D ids shp St (fun r => MQ below (jQi sb D ids shp St n r) args s 0 0 (jA sb)) n 0 0 h 4 [(0, .ref 107), (1, .int x1), (2, .int x2), (3, .int x3)] [] (fX10_shedMany_4 fu h x1 x2 x3) := by
    intro fu 
    induction fu with
    | zero => intro h x1 x2 x3 ; exact j_none
    | succ fu ih =>
    intro h x1 x2 x3 
    rw [fX10_shedMany_4]
    refine j_iload_n hC 3 rfl rfl (dOk_at dt_X10_shedMany 4 rfl) ?_
    refine j_aload_n hC 0 rfl rfl (dOk_at dt_X10_shedMany 5 rfl) ?_
    refine j_getI hC flX10_249 (show shp 107 = (10, 88) from rfl) (Nat.lt_of_lt_of_le (Nat.le_of_ble_eq_true rfl : 107 < 152) hN) (by decide) (by decide) (fun _ _ _ => rfl) (dOk_at dt_X10_shedMany 6 rfl) ?_
    refine j_icmp_ge hC (tgt := 39) (by decide) (dOk_at dt_X10_shedMany 7 rfl) (fun q_1 => ?_) (fun q_1 => ?_)
    · refine j_iload_n hC 2 rfl rfl (dOk_at dt_X10_shedMany 25 rfl) ?_
      exact j_iret hC hret (dOk_at dt_X10_shedMany 26 rfl)
    · refine j_iload_n hC 2 rfl rfl (dOk_at dt_X10_shedMany 8 rfl) ?_
      refine j_aload_n hC 0 rfl rfl (dOk_at dt_X10_shedMany 9 rfl) ?_
      refine j_getR hC flX10_106 (show shp 107 = (10, 88) from rfl) (Nat.lt_of_lt_of_le (Nat.le_of_ble_eq_true rfl : 107 < 152) hN) (by decide) (by decide) (fun _ _ _ => rfl) (fun hs => hs 107 61 138 rfl) (dOk_at dt_X10_shedMany 10 rfl) ?_
      refine j_iconst hC (v := (5 : Int32)) rfl (dOk_at dt_X10_shedMany 11 rfl) ?_
      refine j_iload_n hC 1 rfl rfl (dOk_at dt_X10_shedMany 12 rfl) ?_
      refine j_imul hC (dOk_at dt_X10_shedMany 13 rfl) ?_
      refine j_iload_n hC 3 rfl rfl (dOk_at dt_X10_shedMany 14 rfl) ?_
      refine j_iadd hC (dOk_at dt_X10_shedMany 15 rfl) ?_
      refine j_zald hC (show shp 138 = (23, 10) from rfl) (Nat.lt_of_lt_of_le (Nat.le_of_ble_eq_true rfl : 138 < 152) hN) (dOk_at dt_X10_shedMany 16 rfl) ?_
      refine j_if_eq hC (tgt := 30) (by decide) (dOk_at dt_X10_shedMany 17 rfl) (fun q_2 => ?_) (fun q_2 => ?_)
      · refine j_iconst hC (v := (0 : Int32)) rfl (dOk_at dt_X10_shedMany 20 rfl) ?_
        refine j_sub [0, 1, 3] rfl ?_
        exact b31 (fX10_shedMany_4 fu) ih h x1 x3 x2 (0 : Int32) 
      · refine j_iconst hC (v := (1 : Int32)) rfl (dOk_at dt_X10_shedMany 18 rfl) ?_
        refine j_goto hC (tgt := 31) (by decide) (dOk_at dt_X10_shedMany 19 rfl) ?_
        refine j_sub [0, 1, 3] rfl ?_
        exact b31 (fX10_shedMany_4 fu) ih h x1 x3 x2 (1 : Int32) 
  unfold fX10_shedMany
  refine j_iconst hC (v := (0 : Int32)) rfl (dOk_at dt_X10_shedMany 0 rfl) ?_
  refine j_istore_n hC rfl (lv' := [(2, .int (0 : Int32)), (0, .ref 107), (1, .int x1)]) (by decide) rfl (dOk_at dt_X10_shedMany 1 rfl) ?_
  refine j_iconst hC (v := (0 : Int32)) rfl (dOk_at dt_X10_shedMany 2 rfl) ?_
  refine j_istore_n hC rfl (lv' := [(3, .int (0 : Int32)), (2, .int (0 : Int32)), (0, .ref 107), (1, .int x1)]) (by decide) rfl (dOk_at dt_X10_shedMany 3 rfl) ?_
  refine j_sub [2, 3, 1, 0] rfl ?_
  exact b4 FU h x1 (0 : Int32) (0 : Int32) 
def tb_X10_fails : List (Nat × Instr × Nat) := [(0, .aload_n 0, 1), (1, .iload_n 1, 1), (2, .putfield 157, 3), (5, .iconst 0, 1), (6, .ireturn, 1)]
theorem dt_X10_fails : dOk cX10_fails tb_X10_fails = true := by decide +kernel
def fX10_fails (h : Hp) (x1 : Int32) : Option (Int32 × Hp) := some ((0 : Int32), (uI h 107 2 x1))
set_option maxRecDepth 100000 in
set_option maxHeartbeats 4000000 in
theorem c_X10_fails {l : Launch} {sb : State} {D : va_G} {ids : Nat → ClassId} {n : Nat} (hN : 152 ≤ n) (h : Hp) (x1 : Int32) (r : Int32 × Hp) (hr : fX10_fails h x1 = some r) : jM l yX10_fails cX10_fails 2 (some .int) 0 sb D ids shp St n [.ref 107, .int x1] h (jQi sb D ids shp St n r) := by
  refine jM_of hr rfl (Nat.le_of_ble_eq_true rfl) ?_
  intro p e s m args below meth c hC hret
  unfold fX10_fails
  refine j_aload_n hC 0 rfl rfl (dOk_at dt_X10_fails 0 rfl) ?_
  refine j_iload_n hC 1 rfl rfl (dOk_at dt_X10_fails 1 rfl) ?_
  refine j_putI hC St_SP flX10_157 (show shp 107 = (10, 88) from rfl) (Nat.lt_of_lt_of_le (Nat.le_of_ble_eq_true rfl : 107 < 152) hN) (by decide) (by decide) rfl rfl (dOk_at dt_X10_fails 2 rfl) ?_
  refine j_iconst hC (v := (0 : Int32)) rfl (dOk_at dt_X10_fails 3 rfl) ?_
  exact j_iret hC hret (dOk_at dt_X10_fails 4 rfl)
def tb_X10_againstBy : List (Nat × Instr × Nat) := [(0, .iconst 0, 1), (1, .istore_n 2, 1), (2, .iconst 0, 1), (3, .istore_n 3, 1), (4, .iload_n 3, 1), (5, .aload_n 0, 1), (6, .getfield 246, 3), (9, .if_icmp .ge 34, 3), (12, .iload_n 2, 1), (13, .aload_n 0, 1), (14, .getfield 36, 3), (17, .iload_n 3, 1), (18, .iaload, 1), (19, .iload_n 1, 1), (20, .if_icmp .ne 14, 3), (23, .iconst 1, 1), (24, .aload_n 0, 1), (25, .getfield 39, 3), (28, .iload_n 3, 1), (29, .iaload, 1), (30, .ishl, 1), (31, .goto 4, 3), (34, .iconst 0, 1), (35, .ior, 1), (36, .istore_n 2, 1), (37, .iinc 3 1, 3), (40, .goto (-36), 3), (43, .iload_n 2, 1), (44, .ireturn, 1)]
theorem dt_X10_againstBy : dOk cX10_againstBy tb_X10_againstBy = true := by decide +kernel
def fX10_againstBy_35 (rec4 : Hp → Int32 → Int32 → Int32 → Option (Int32 × Hp)) (h : Hp) (x1 : Int32) (x3 : Int32) (s0 : Int32) (s1 : Int32) : Option (Int32 × Hp) := rec4 h x1 (s0 ||| s1) (x3 + (1 : Int32))
def fX10_againstBy_4 : Nat → Hp → Int32 → Int32 → Int32 → Option (Int32 × Hp)
  | 0, _, _, _, _ => none
  | fu + 1, h, x1, x2, x3 => if (hI h 107 13) ≤ x3 then (some (x2, h)) else (if inb x3 32 then (if (hI h 115 (Int32.toNatClampNeg x3)) = x1 then (if inb x3 32 then (fX10_againstBy_35 (fX10_againstBy_4 fu) h x1 x3 x2 ((1 : Int32) <<< ((hI h 116 (Int32.toNatClampNeg x3)) &&& 31))) else none) else (fX10_againstBy_35 (fX10_againstBy_4 fu) h x1 x3 x2 (0 : Int32))) else none)
def fX10_againstBy (h : Hp) (x1 : Int32) : Option (Int32 × Hp) := fX10_againstBy_4 FU h x1 (0 : Int32) (0 : Int32)
set_option maxRecDepth 100000 in
set_option maxHeartbeats 4000000 in
theorem c_X10_againstBy {l : Launch} {sb : State} {D : va_G} {ids : Nat → ClassId} {n : Nat} (hN : 152 ≤ n) (h : Hp) (x1 : Int32) (r : Int32 × Hp) (hr : fX10_againstBy h x1 = some r) : jM l yX10_againstBy cX10_againstBy 4 (some .int) 0 sb D ids shp St n [.ref 107, .int x1] h (jQi sb D ids shp St n r) := by
  refine jM_of hr rfl (Nat.le_of_ble_eq_true rfl) ?_
  intro p e s m args below meth c hC hret
  have b35 : ∀ (rec4 : Hp → Int32 → Int32 → Int32 → Option (Int32 × Hp)) (hrec4 : ∀ (h : Hp) (x1 : Int32) (x2 : Int32) (x3 : Int32) , jJ p l e (rmD 0) s m args below meth c 4 sb D ids shp St (fun r => MQ below (jQi sb D ids shp St n r) args s 0 0 (jA sb)) n 0 0 h 4 [(0, .ref 107), (1, .int x1), (2, .int x2), (3, .int x3)] [] (rec4 h x1 x2 x3)) (h : Hp) (x1 : Int32) (x3 : Int32) (s0 : Int32) (s1 : Int32) , jJ p l e (rmD 0) s m args below meth c 4 sb D ids shp St (fun r => MQ below (jQi sb D ids shp St n r) args s 0 0 (jA sb)) n 0 0 h 35 [(0, .ref 107), (1, .int x1), (3, .int x3)] [.int s1, .int s0] (fX10_againstBy_35 rec4 h x1 x3 s0 s1) := by
    intro rec4 hrec4 h x1 x3 s0 s1 
    unfold fX10_againstBy_35
    refine j_ior hC (dOk_at dt_X10_againstBy 23 rfl) ?_
    refine j_istore_n hC rfl (lv' := [(2, .int (s0 ||| s1)), (0, .ref 107), (1, .int x1), (3, .int x3)]) (by decide) rfl (dOk_at dt_X10_againstBy 24 rfl) ?_
    refine j_iinc hC (v := (x3 + (1 : Int32))) (lv' := [(3, .int (x3 + (1 : Int32))), (2, .int (s0 ||| s1)), (0, .ref 107), (1, .int x1)]) 3 rfl (congrArg (fun z => x3 + z) (show Int32.ofInt (1) = (1 : Int32) from by decide)) (by decide) rfl (dOk_at dt_X10_againstBy 25 rfl) ?_
    refine j_goto hC (tgt := 4) (by decide) (dOk_at dt_X10_againstBy 26 rfl) ?_
    refine j_sub [2, 3, 1, 0] rfl ?_
    exact hrec4 h x1 (s0 ||| s1) (x3 + (1 : Int32)) 
  have b4 : ∀ (fu : Nat) (h : Hp) (x1 : Int32) (x2 : Int32) (x3 : Int32) , jJ p l e (rmD 0) s m args below meth c 4 sb D ids shp St (fun r => MQ below (jQi sb D ids shp St n r) args s 0 0 (jA sb)) n 0 0 h 4 [(0, .ref 107), (1, .int x1), (2, .int x2), (3, .int x3)] [] (fX10_againstBy_4 fu h x1 x2 x3) := by
    intro fu 
    induction fu with
    | zero => intro h x1 x2 x3 ; exact j_none
    | succ fu ih =>
    intro h x1 x2 x3 
    rw [fX10_againstBy_4]
    refine j_iload_n hC 3 rfl rfl (dOk_at dt_X10_againstBy 4 rfl) ?_
    refine j_aload_n hC 0 rfl rfl (dOk_at dt_X10_againstBy 5 rfl) ?_
    refine j_getI hC flX10_246 (show shp 107 = (10, 88) from rfl) (Nat.lt_of_lt_of_le (Nat.le_of_ble_eq_true rfl : 107 < 152) hN) (by decide) (by decide) (fun _ _ _ => rfl) (dOk_at dt_X10_againstBy 6 rfl) ?_
    refine j_icmp_ge hC (tgt := 43) (by decide) (dOk_at dt_X10_againstBy 7 rfl) (fun q_1 => ?_) (fun q_1 => ?_)
    · refine j_iload_n hC 2 rfl rfl (dOk_at dt_X10_againstBy 27 rfl) ?_
      exact j_iret hC hret (dOk_at dt_X10_againstBy 28 rfl)
    · refine j_iload_n hC 2 rfl rfl (dOk_at dt_X10_againstBy 8 rfl) ?_
      refine j_aload_n hC 0 rfl rfl (dOk_at dt_X10_againstBy 9 rfl) ?_
      refine j_getR hC flX10_36 (show shp 107 = (10, 88) from rfl) (Nat.lt_of_lt_of_le (Nat.le_of_ble_eq_true rfl : 107 < 152) hN) (by decide) (by decide) (fun _ _ _ => rfl) (fun hs => hs 107 31 115 rfl) (dOk_at dt_X10_againstBy 10 rfl) ?_
      refine j_iload_n hC 3 rfl rfl (dOk_at dt_X10_againstBy 11 rfl) ?_
      refine j_iald hC (show shp 115 = (21, 32) from rfl) (Nat.lt_of_lt_of_le (Nat.le_of_ble_eq_true rfl : 115 < 152) hN) (dOk_at dt_X10_againstBy 12 rfl) ?_
      refine j_iload_n hC 1 rfl rfl (dOk_at dt_X10_againstBy 13 rfl) ?_
      refine j_icmp_ne hC (tgt := 34) (by decide) (dOk_at dt_X10_againstBy 14 rfl) (fun q_2 => ?_) (fun q_2 => ?_)
      · refine j_iconst hC (v := (0 : Int32)) rfl (dOk_at dt_X10_againstBy 22 rfl) ?_
        refine j_sub [0, 1, 3] rfl ?_
        exact b35 (fX10_againstBy_4 fu) ih h x1 x3 x2 (0 : Int32) 
      · refine j_iconst hC (v := (1 : Int32)) rfl (dOk_at dt_X10_againstBy 15 rfl) ?_
        refine j_aload_n hC 0 rfl rfl (dOk_at dt_X10_againstBy 16 rfl) ?_
        refine j_getR hC flX10_39 (show shp 107 = (10, 88) from rfl) (Nat.lt_of_lt_of_le (Nat.le_of_ble_eq_true rfl : 107 < 152) hN) (by decide) (by decide) (fun _ _ _ => rfl) (fun hs => hs 107 32 116 rfl) (dOk_at dt_X10_againstBy 17 rfl) ?_
        refine j_iload_n hC 3 rfl rfl (dOk_at dt_X10_againstBy 18 rfl) ?_
        refine j_iald hC (show shp 116 = (21, 32) from rfl) (Nat.lt_of_lt_of_le (Nat.le_of_ble_eq_true rfl : 116 < 152) hN) (dOk_at dt_X10_againstBy 19 rfl) ?_
        refine j_ishl hC (dOk_at dt_X10_againstBy 20 rfl) ?_
        refine j_goto hC (tgt := 35) (by decide) (dOk_at dt_X10_againstBy 21 rfl) ?_
        refine j_sub [0, 1, 3] rfl ?_
        exact b35 (fX10_againstBy_4 fu) ih h x1 x3 x2 ((1 : Int32) <<< ((hI h 116 (Int32.toNatClampNeg x3)) &&& 31)) 
  unfold fX10_againstBy
  refine j_iconst hC (v := (0 : Int32)) rfl (dOk_at dt_X10_againstBy 0 rfl) ?_
  refine j_istore_n hC rfl (lv' := [(2, .int (0 : Int32)), (0, .ref 107), (1, .int x1)]) (by decide) rfl (dOk_at dt_X10_againstBy 1 rfl) ?_
  refine j_iconst hC (v := (0 : Int32)) rfl (dOk_at dt_X10_againstBy 2 rfl) ?_
  refine j_istore_n hC rfl (lv' := [(3, .int (0 : Int32)), (2, .int (0 : Int32)), (0, .ref 107), (1, .int x1)]) (by decide) rfl (dOk_at dt_X10_againstBy 3 rfl) ?_
  refine j_sub [2, 3, 1, 0] rfl ?_
  exact b4 FU h x1 (0 : Int32) (0 : Int32) 
def tb_X10_againstIt : List (Nat × Instr × Nat) := [(0, .iconst 0, 1), (1, .istore 4, 2), (3, .iconst 0, 1), (4, .istore 5, 2), (6, .iload 5, 2), (8, .aload_n 0, 1), (9, .getfield 246, 3), (12, .if_icmp .ge 50, 3), (15, .iload 4, 2), (17, .aload_n 0, 1), (18, .getfield 39, 3), (21, .iload 5, 2), (23, .iaload, 1), (24, .iload_n 1, 1), (25, .if_icmp .ne 27, 3), (28, .iload 5, 2), (30, .iload_n 2, 1), (31, .if_icmp .eq 21, 3), (34, .iload 5, 2), (36, .iload_n 3, 1), (37, .if_icmp .eq 15, 3), (40, .iconst 1, 1), (41, .aload_n 0, 1), (42, .getfield 36, 3), (45, .iload 5, 2), (47, .iaload, 1), (48, .ishl, 1), (49, .goto 4, 3), (52, .iconst 0, 1), (53, .ior, 1), (54, .istore 4, 2), (56, .iinc 5 1, 3), (59, .goto (-53), 3), (62, .iload 4, 2), (64, .ireturn, 1)]
theorem dt_X10_againstIt : dOk cX10_againstIt tb_X10_againstIt = true := by decide +kernel
def fX10_againstIt_53 (rec6 : Hp → Int32 → Int32 → Int32 → Int32 → Int32 → Option (Int32 × Hp)) (h : Hp) (x1 : Int32) (x2 : Int32) (x3 : Int32) (x5 : Int32) (s0 : Int32) (s1 : Int32) : Option (Int32 × Hp) := rec6 h x1 x2 x3 (s0 ||| s1) (x5 + (1 : Int32))
def fX10_againstIt_52 (rec6 : Hp → Int32 → Int32 → Int32 → Int32 → Int32 → Option (Int32 × Hp)) (h : Hp) (x1 : Int32) (x2 : Int32) (x3 : Int32) (x5 : Int32) (s0 : Int32) : Option (Int32 × Hp) := fX10_againstIt_53 rec6 h x1 x2 x3 x5 s0 (0 : Int32)
def fX10_againstIt_6 : Nat → Hp → Int32 → Int32 → Int32 → Int32 → Int32 → Option (Int32 × Hp)
  | 0, _, _, _, _, _, _ => none
  | fu + 1, h, x1, x2, x3, x4, x5 => if (hI h 107 13) ≤ x5 then (some (x4, h)) else (if inb x5 32 then (if (hI h 116 (Int32.toNatClampNeg x5)) = x1 then (if x5 = x2 then (fX10_againstIt_52 (fX10_againstIt_6 fu) h x1 x2 x3 x5 x4) else (if x5 = x3 then (fX10_againstIt_52 (fX10_againstIt_6 fu) h x1 x2 x3 x5 x4) else (if inb x5 32 then (fX10_againstIt_53 (fX10_againstIt_6 fu) h x1 x2 x3 x5 x4 ((1 : Int32) <<< ((hI h 115 (Int32.toNatClampNeg x5)) &&& 31))) else none))) else (fX10_againstIt_52 (fX10_againstIt_6 fu) h x1 x2 x3 x5 x4)) else none)
def fX10_againstIt (h : Hp) (x1 : Int32) (x2 : Int32) (x3 : Int32) : Option (Int32 × Hp) := fX10_againstIt_6 FU h x1 x2 x3 (0 : Int32) (0 : Int32)
set_option maxRecDepth 100000 in
set_option maxHeartbeats 4000000 in
theorem c_X10_againstIt {l : Launch} {sb : State} {D : va_G} {ids : Nat → ClassId} {n : Nat} (hN : 152 ≤ n) (h : Hp) (x1 : Int32) (x2 : Int32) (x3 : Int32) (r : Int32 × Hp) (hr : fX10_againstIt h x1 x2 x3 = some r) : jM l yX10_againstIt cX10_againstIt 6 (some .int) 0 sb D ids shp St n [.ref 107, .int x1, .int x2, .int x3] h (jQi sb D ids shp St n r) := by
  refine jM_of hr rfl (Nat.le_of_ble_eq_true rfl) ?_
  intro p e s m args below meth c hC hret
  have b53 : ∀ (rec6 : Hp → Int32 → Int32 → Int32 → Int32 → Int32 → Option (Int32 × Hp)) (hrec6 : ∀ (h : Hp) (x1 : Int32) (x2 : Int32) (x3 : Int32) (x4 : Int32) (x5 : Int32) , jJ p l e (rmD 0) s m args below meth c 6 sb D ids shp St (fun r => MQ below (jQi sb D ids shp St n r) args s 0 0 (jA sb)) n 0 0 h 6 [(0, .ref 107), (1, .int x1), (2, .int x2), (3, .int x3), (4, .int x4), (5, .int x5)] [] (rec6 h x1 x2 x3 x4 x5)) (h : Hp) (x1 : Int32) (x2 : Int32) (x3 : Int32) (x5 : Int32) (s0 : Int32) (s1 : Int32) , jJ p l e (rmD 0) s m args below meth c 6 sb D ids shp St (fun r => MQ below (jQi sb D ids shp St n r) args s 0 0 (jA sb)) n 0 0 h 53 [(0, .ref 107), (1, .int x1), (2, .int x2), (3, .int x3), (5, .int x5)] [.int s1, .int s0] (fX10_againstIt_53 rec6 h x1 x2 x3 x5 s0 s1) := by
    intro rec6 hrec6 h x1 x2 x3 x5 s0 s1 
    unfold fX10_againstIt_53
    refine j_ior hC (dOk_at dt_X10_againstIt 29 rfl) ?_
    refine j_istore hC (lv' := [(4, .int (s0 ||| s1)), (0, .ref 107), (1, .int x1), (2, .int x2), (3, .int x3), (5, .int x5)]) (by decide) rfl (dOk_at dt_X10_againstIt 30 rfl) ?_
    refine j_iinc hC (v := (x5 + (1 : Int32))) (lv' := [(5, .int (x5 + (1 : Int32))), (4, .int (s0 ||| s1)), (0, .ref 107), (1, .int x1), (2, .int x2), (3, .int x3)]) 5 rfl (congrArg (fun z => x5 + z) (show Int32.ofInt (1) = (1 : Int32) from by decide)) (by decide) rfl (dOk_at dt_X10_againstIt 31 rfl) ?_
    refine j_goto hC (tgt := 6) (by decide) (dOk_at dt_X10_againstIt 32 rfl) ?_
    refine j_sub [2, 3, 4, 5, 1, 0] rfl ?_
    exact hrec6 h x1 x2 x3 (s0 ||| s1) (x5 + (1 : Int32)) 
  have b52 : ∀ (rec6 : Hp → Int32 → Int32 → Int32 → Int32 → Int32 → Option (Int32 × Hp)) (hrec6 : ∀ (h : Hp) (x1 : Int32) (x2 : Int32) (x3 : Int32) (x4 : Int32) (x5 : Int32) , jJ p l e (rmD 0) s m args below meth c 6 sb D ids shp St (fun r => MQ below (jQi sb D ids shp St n r) args s 0 0 (jA sb)) n 0 0 h 6 [(0, .ref 107), (1, .int x1), (2, .int x2), (3, .int x3), (4, .int x4), (5, .int x5)] [] (rec6 h x1 x2 x3 x4 x5)) (h : Hp) (x1 : Int32) (x2 : Int32) (x3 : Int32) (x5 : Int32) (s0 : Int32) , jJ p l e (rmD 0) s m args below meth c 6 sb D ids shp St (fun r => MQ below (jQi sb D ids shp St n r) args s 0 0 (jA sb)) n 0 0 h 52 [(0, .ref 107), (1, .int x1), (2, .int x2), (3, .int x3), (5, .int x5)] [.int s0] (fX10_againstIt_52 rec6 h x1 x2 x3 x5 s0) := by
    intro rec6 hrec6 h x1 x2 x3 x5 s0 
    unfold fX10_againstIt_52
    refine j_iconst hC (v := (0 : Int32)) rfl (dOk_at dt_X10_againstIt 28 rfl) ?_
    exact b53 rec6 hrec6 h x1 x2 x3 x5 s0 (0 : Int32) 
  have b6 : ∀ (fu : Nat) (h : Hp) (x1 : Int32) (x2 : Int32) (x3 : Int32) (x4 : Int32) (x5 : Int32) , jJ p l e (rmD 0) s m args below meth c 6 sb D ids shp St (fun r => MQ below (jQi sb D ids shp St n r) args s 0 0 (jA sb)) n 0 0 h 6 [(0, .ref 107), (1, .int x1), (2, .int x2), (3, .int x3), (4, .int x4), (5, .int x5)] [] (fX10_againstIt_6 fu h x1 x2 x3 x4 x5) := by
    intro fu 
    induction fu with
    | zero => intro h x1 x2 x3 x4 x5 ; exact j_none
    | succ fu ih =>
    intro h x1 x2 x3 x4 x5 
    rw [fX10_againstIt_6]
    refine j_iload hC 5 rfl (dOk_at dt_X10_againstIt 4 rfl) ?_
    refine j_aload_n hC 0 rfl rfl (dOk_at dt_X10_againstIt 5 rfl) ?_
    refine j_getI hC flX10_246 (show shp 107 = (10, 88) from rfl) (Nat.lt_of_lt_of_le (Nat.le_of_ble_eq_true rfl : 107 < 152) hN) (by decide) (by decide) (fun _ _ _ => rfl) (dOk_at dt_X10_againstIt 6 rfl) ?_
    refine j_icmp_ge hC (tgt := 62) (by decide) (dOk_at dt_X10_againstIt 7 rfl) (fun q_1 => ?_) (fun q_1 => ?_)
    · refine j_iload hC 4 rfl (dOk_at dt_X10_againstIt 33 rfl) ?_
      exact j_iret hC hret (dOk_at dt_X10_againstIt 34 rfl)
    · refine j_iload hC 4 rfl (dOk_at dt_X10_againstIt 8 rfl) ?_
      refine j_aload_n hC 0 rfl rfl (dOk_at dt_X10_againstIt 9 rfl) ?_
      refine j_getR hC flX10_39 (show shp 107 = (10, 88) from rfl) (Nat.lt_of_lt_of_le (Nat.le_of_ble_eq_true rfl : 107 < 152) hN) (by decide) (by decide) (fun _ _ _ => rfl) (fun hs => hs 107 32 116 rfl) (dOk_at dt_X10_againstIt 10 rfl) ?_
      refine j_iload hC 5 rfl (dOk_at dt_X10_againstIt 11 rfl) ?_
      refine j_iald hC (show shp 116 = (21, 32) from rfl) (Nat.lt_of_lt_of_le (Nat.le_of_ble_eq_true rfl : 116 < 152) hN) (dOk_at dt_X10_againstIt 12 rfl) ?_
      refine j_iload_n hC 1 rfl rfl (dOk_at dt_X10_againstIt 13 rfl) ?_
      refine j_icmp_ne hC (tgt := 52) (by decide) (dOk_at dt_X10_againstIt 14 rfl) (fun q_2 => ?_) (fun q_2 => ?_)
      · refine j_sub [0, 1, 2, 3, 5] rfl ?_
        exact b52 (fX10_againstIt_6 fu) ih h x1 x2 x3 x5 x4 
      · refine j_iload hC 5 rfl (dOk_at dt_X10_againstIt 15 rfl) ?_
        refine j_iload_n hC 2 rfl rfl (dOk_at dt_X10_againstIt 16 rfl) ?_
        refine j_icmp_eq hC (tgt := 52) (by decide) (dOk_at dt_X10_againstIt 17 rfl) (fun q_3 => ?_) (fun q_3 => ?_)
        · refine j_sub [0, 1, 2, 3, 5] rfl ?_
          exact b52 (fX10_againstIt_6 fu) ih h x1 x2 x3 x5 x4 
        · refine j_iload hC 5 rfl (dOk_at dt_X10_againstIt 18 rfl) ?_
          refine j_iload_n hC 3 rfl rfl (dOk_at dt_X10_againstIt 19 rfl) ?_
          refine j_icmp_eq hC (tgt := 52) (by decide) (dOk_at dt_X10_againstIt 20 rfl) (fun q_4 => ?_) (fun q_4 => ?_)
          · refine j_sub [0, 1, 2, 3, 5] rfl ?_
            exact b52 (fX10_againstIt_6 fu) ih h x1 x2 x3 x5 x4 
          · refine j_iconst hC (v := (1 : Int32)) rfl (dOk_at dt_X10_againstIt 21 rfl) ?_
            refine j_aload_n hC 0 rfl rfl (dOk_at dt_X10_againstIt 22 rfl) ?_
            refine j_getR hC flX10_36 (show shp 107 = (10, 88) from rfl) (Nat.lt_of_lt_of_le (Nat.le_of_ble_eq_true rfl : 107 < 152) hN) (by decide) (by decide) (fun _ _ _ => rfl) (fun hs => hs 107 31 115 rfl) (dOk_at dt_X10_againstIt 23 rfl) ?_
            refine j_iload hC 5 rfl (dOk_at dt_X10_againstIt 24 rfl) ?_
            refine j_iald hC (show shp 115 = (21, 32) from rfl) (Nat.lt_of_lt_of_le (Nat.le_of_ble_eq_true rfl : 115 < 152) hN) (dOk_at dt_X10_againstIt 25 rfl) ?_
            refine j_ishl hC (dOk_at dt_X10_againstIt 26 rfl) ?_
            refine j_goto hC (tgt := 53) (by decide) (dOk_at dt_X10_againstIt 27 rfl) ?_
            refine j_sub [0, 1, 2, 3, 5] rfl ?_
            exact b53 (fX10_againstIt_6 fu) ih h x1 x2 x3 x5 x4 ((1 : Int32) <<< ((hI h 115 (Int32.toNatClampNeg x5)) &&& 31)) 
  unfold fX10_againstIt
  refine j_iconst hC (v := (0 : Int32)) rfl (dOk_at dt_X10_againstIt 0 rfl) ?_
  refine j_istore hC (lv' := [(4, .int (0 : Int32)), (0, .ref 107), (1, .int x1), (2, .int x2), (3, .int x3)]) (by decide) rfl (dOk_at dt_X10_againstIt 1 rfl) ?_
  refine j_iconst hC (v := (0 : Int32)) rfl (dOk_at dt_X10_againstIt 2 rfl) ?_
  refine j_istore hC (lv' := [(5, .int (0 : Int32)), (4, .int (0 : Int32)), (0, .ref 107), (1, .int x1), (2, .int x2), (3, .int x3)]) (by decide) rfl (dOk_at dt_X10_againstIt 3 rfl) ?_
  refine j_sub [2, 3, 4, 5, 1, 0] rfl ?_
  exact b6 FU h x1 x2 x3 (0 : Int32) (0 : Int32) 
def tb_X10_claim : List (Nat × Instr × Nat) := [(0, .aload_n 0, 1), (1, .iconst 0, 1), (2, .putfield 157, 3), (5, .aload_n 0, 1), (6, .iload_n 1, 1), (7, .invokevirtual 465, 3), (10, .ifCond .ne 9, 3), (13, .aload_n 0, 1), (14, .iconst 1, 1), (15, .invokevirtual 468, 3), (18, .ireturn, 1), (19, .iload_n 2, 1), (20, .tableswitch 60 0 3 #[32, 39, 46, 52], 32), (52, .aload_n 0, 1), (53, .getfield 30, 3), (56, .iload_n 1, 1), (57, .iaload, 1), (58, .ireturn, 1), (59, .aload_n 0, 1), (60, .getfield 33, 3), (63, .iload_n 1, 1), (64, .iaload, 1), (65, .ireturn, 1), (66, .aload_n 0, 1), (67, .iload_n 1, 1), (68, .invokevirtual 471, 3), (71, .ireturn, 1), (72, .aload_n 0, 1), (73, .iload_n 1, 1), (74, .iconst (-1), 1), (75, .iconst (-1), 1), (76, .invokevirtual 474, 3), (79, .ireturn, 1), (80, .aload_n 0, 1), (81, .iconst 2, 1), (82, .invokevirtual 468, 3), (85, .ireturn, 1)]
theorem dt_X10_claim : dOk cX10_claim tb_X10_claim = true := by decide +kernel
def fX10_claim (h : Hp) (x1 : Int32) (x2 : Int32) : Option (Int32 × Hp) := bnd (fX10_isClaim (uI h 107 2 (0 : Int32)) x1) (fun v_1 h_2 => if v_1 = 0 then (bnd (fX10_fails h_2 (1 : Int32)) (fun v_14 h_15 => some (v_14, h_15))) else (if inT x2 0 3 then (if x2 = (0 : Int32) then (if inb x1 16 then (some ((hI h_2 113 (Int32.toNatClampNeg x1)), h_2)) else none) else (if x2 = (1 : Int32) then (if inb x1 16 then (some ((hI h_2 114 (Int32.toNatClampNeg x1)), h_2)) else none) else (if x2 = (2 : Int32) then (bnd (fX10_againstBy h_2 x1) (fun v_7 h_8 => some (v_7, h_8))) else (if x2 = (3 : Int32) then (bnd (fX10_againstIt h_2 x1 (-1 : Int32) (-1 : Int32)) (fun v_10 h_11 => some (v_10, h_11))) else none)))) else (bnd (fX10_fails h_2 (2 : Int32)) (fun v_12 h_13 => some (v_12, h_13)))))
set_option maxRecDepth 100000 in
set_option maxHeartbeats 4000000 in
theorem c_X10_claim {l : Launch} {sb : State} {D : va_G} {ids : Nat → ClassId} {n : Nat} (hN : 152 ≤ n) (h : Hp) (x1 : Int32) (x2 : Int32) (r : Int32 × Hp) (hr : fX10_claim h x1 x2 = some r) : jM l yX10_claim cX10_claim 3 (some .int) 1 sb D ids shp St n [.ref 107, .int x1, .int x2] h (jQi sb D ids shp St n r) := by
  refine jM_of hr rfl (Nat.le_of_ble_eq_true rfl) ?_
  intro p e s m args below meth c hC hret
  unfold fX10_claim
  refine j_aload_n hC 0 rfl rfl (dOk_at dt_X10_claim 0 rfl) ?_
  refine j_iconst hC (v := (0 : Int32)) rfl (dOk_at dt_X10_claim 1 rfl) ?_
  refine j_putI hC St_SP flX10_157 (show shp 107 = (10, 88) from rfl) (Nat.lt_of_lt_of_le (Nat.le_of_ble_eq_true rfl : 107 < 152) hN) (by decide) (by decide) rfl rfl (dOk_at dt_X10_claim 2 rfl) ?_
  refine j_aload_n hC 0 rfl rfl (dOk_at dt_X10_claim 3 rfl) ?_
  refine j_iload_n hC 1 rfl rfl (dOk_at dt_X10_claim 4 rfl) ?_
  refine j_callVi hC clX10_465 (fun rz hrz => c_X10_isClaim hN _ _ rz hrz) (show shp 107 = (10, 88) from rfl) (Nat.lt_of_lt_of_le (Nat.le_of_ble_eq_true rfl : 107 < 152) hN) (by decide) rfl rfl ⟨Nat.le_of_ble_eq_true rfl, Nat.le_of_ble_eq_true rfl⟩ ⟨Nat.le_refl 0, Nat.le_refl 0⟩ (As := [.int x1]) (st := []) rfl (Nat.le_of_ble_eq_true rfl) (dOk_at dt_X10_claim 5 rfl) (fun v_1 h_2 _ => ?_)
  refine j_if_ne hC (tgt := 19) (by decide) (dOk_at dt_X10_claim 6 rfl) (fun q_3 => ?_) (fun q_3 => ?_)
  · refine j_iload_n hC 2 rfl rfl (dOk_at dt_X10_claim 11 rfl) ?_
    refine j_ite (P := inT x2 0 3 = true) (fun _ => ?_) (fun q => ?_)
    · refine j_ite (P := x2 = (0 : Int32)) (fun q_4 => ?_) (fun _ => ?_)
      · refine j_tswIn hC (tgt := 52) q_4 (by decide) (by decide) rfl (by decide) (dOk_at dt_X10_claim 12 rfl) ?_
        refine j_aload_n hC 0 rfl rfl (dOk_at dt_X10_claim 13 rfl) ?_
        refine j_getR hC flX10_30 (show shp 107 = (10, 88) from rfl) (Nat.lt_of_lt_of_le (Nat.le_of_ble_eq_true rfl : 107 < 152) hN) (by decide) (by decide) (fun _ _ _ => rfl) (fun hs => hs 107 29 113 rfl) (dOk_at dt_X10_claim 14 rfl) ?_
        refine j_iload_n hC 1 rfl rfl (dOk_at dt_X10_claim 15 rfl) ?_
        refine j_iald hC (show shp 113 = (21, 16) from rfl) (Nat.lt_of_lt_of_le (Nat.le_of_ble_eq_true rfl : 113 < 152) hN) (dOk_at dt_X10_claim 16 rfl) ?_
        exact j_iret hC hret (dOk_at dt_X10_claim 17 rfl)
      refine j_ite (P := x2 = (1 : Int32)) (fun q_5 => ?_) (fun _ => ?_)
      · refine j_tswIn hC (tgt := 59) q_5 (by decide) (by decide) rfl (by decide) (dOk_at dt_X10_claim 12 rfl) ?_
        refine j_aload_n hC 0 rfl rfl (dOk_at dt_X10_claim 18 rfl) ?_
        refine j_getR hC flX10_33 (show shp 107 = (10, 88) from rfl) (Nat.lt_of_lt_of_le (Nat.le_of_ble_eq_true rfl : 107 < 152) hN) (by decide) (by decide) (fun _ _ _ => rfl) (fun hs => hs 107 30 114 rfl) (dOk_at dt_X10_claim 19 rfl) ?_
        refine j_iload_n hC 1 rfl rfl (dOk_at dt_X10_claim 20 rfl) ?_
        refine j_iald hC (show shp 114 = (21, 16) from rfl) (Nat.lt_of_lt_of_le (Nat.le_of_ble_eq_true rfl : 114 < 152) hN) (dOk_at dt_X10_claim 21 rfl) ?_
        exact j_iret hC hret (dOk_at dt_X10_claim 22 rfl)
      refine j_ite (P := x2 = (2 : Int32)) (fun q_6 => ?_) (fun _ => ?_)
      · refine j_tswIn hC (tgt := 66) q_6 (by decide) (by decide) rfl (by decide) (dOk_at dt_X10_claim 12 rfl) ?_
        refine j_aload_n hC 0 rfl rfl (dOk_at dt_X10_claim 23 rfl) ?_
        refine j_iload_n hC 1 rfl rfl (dOk_at dt_X10_claim 24 rfl) ?_
        refine j_callVi hC clX10_471 (fun rz hrz => c_X10_againstBy hN _ _ rz hrz) (show shp 107 = (10, 88) from rfl) (Nat.lt_of_lt_of_le (Nat.le_of_ble_eq_true rfl : 107 < 152) hN) (by decide) rfl rfl ⟨Nat.le_of_ble_eq_true rfl, Nat.le_of_ble_eq_true rfl⟩ ⟨Nat.le_refl 0, Nat.le_refl 0⟩ (As := [.int x1]) (st := []) rfl (Nat.le_of_ble_eq_true rfl) (dOk_at dt_X10_claim 25 rfl) (fun v_7 h_8 _ => ?_)
        exact j_iret hC hret (dOk_at dt_X10_claim 26 rfl)
      refine j_ite (P := x2 = (3 : Int32)) (fun q_9 => ?_) (fun _ => ?_)
      · refine j_tswIn hC (tgt := 72) q_9 (by decide) (by decide) rfl (by decide) (dOk_at dt_X10_claim 12 rfl) ?_
        refine j_aload_n hC 0 rfl rfl (dOk_at dt_X10_claim 27 rfl) ?_
        refine j_iload_n hC 1 rfl rfl (dOk_at dt_X10_claim 28 rfl) ?_
        refine j_iconst hC (v := (-1 : Int32)) rfl (dOk_at dt_X10_claim 29 rfl) ?_
        refine j_iconst hC (v := (-1 : Int32)) rfl (dOk_at dt_X10_claim 30 rfl) ?_
        refine j_callVi hC clX10_474 (fun rz hrz => c_X10_againstIt hN _ _ _ _ rz hrz) (show shp 107 = (10, 88) from rfl) (Nat.lt_of_lt_of_le (Nat.le_of_ble_eq_true rfl : 107 < 152) hN) (by decide) rfl rfl ⟨Nat.le_of_ble_eq_true rfl, Nat.le_of_ble_eq_true rfl⟩ ⟨Nat.le_refl 0, Nat.le_refl 0⟩ (As := [.int x1, .int (-1 : Int32), .int (-1 : Int32)]) (st := []) rfl (Nat.le_of_ble_eq_true rfl) (dOk_at dt_X10_claim 31 rfl) (fun v_10 h_11 _ => ?_)
        exact j_iret hC hret (dOk_at dt_X10_claim 32 rfl)
      exact j_none
    · refine j_tswOut hC (tgt := 80) q (by decide) (dOk_at dt_X10_claim 12 rfl) ?_
      refine j_aload_n hC 0 rfl rfl (dOk_at dt_X10_claim 33 rfl) ?_
      refine j_iconst hC (v := (2 : Int32)) rfl (dOk_at dt_X10_claim 34 rfl) ?_
      refine j_callVi hC clX10_468 (fun rz hrz => c_X10_fails hN _ _ rz hrz) (show shp 107 = (10, 88) from rfl) (Nat.lt_of_lt_of_le (Nat.le_of_ble_eq_true rfl : 107 < 152) hN) (by decide) rfl rfl ⟨Nat.le_of_ble_eq_true rfl, Nat.le_of_ble_eq_true rfl⟩ ⟨Nat.le_refl 0, Nat.le_refl 0⟩ (As := [.int (2 : Int32)]) (st := []) rfl (Nat.le_of_ble_eq_true rfl) (dOk_at dt_X10_claim 35 rfl) (fun v_12 h_13 _ => ?_)
      exact j_iret hC hret (dOk_at dt_X10_claim 36 rfl)
  · refine j_aload_n hC 0 rfl rfl (dOk_at dt_X10_claim 7 rfl) ?_
    refine j_iconst hC (v := (1 : Int32)) rfl (dOk_at dt_X10_claim 8 rfl) ?_
    refine j_callVi hC clX10_468 (fun rz hrz => c_X10_fails hN _ _ rz hrz) (show shp 107 = (10, 88) from rfl) (Nat.lt_of_lt_of_le (Nat.le_of_ble_eq_true rfl : 107 < 152) hN) (by decide) rfl rfl ⟨Nat.le_of_ble_eq_true rfl, Nat.le_of_ble_eq_true rfl⟩ ⟨Nat.le_refl 0, Nat.le_refl 0⟩ (As := [.int (1 : Int32)]) (st := []) rfl (Nat.le_of_ble_eq_true rfl) (dOk_at dt_X10_claim 9 rfl) (fun v_14 h_15 _ => ?_)
    exact j_iret hC hret (dOk_at dt_X10_claim 10 rfl)
def tb_X10_straw : List (Nat × Instr × Nat) := [(0, .aload_n 0, 1), (1, .iconst 0, 1), (2, .putfield 157, 3), (5, .aload_n 0, 1), (6, .iload_n 1, 1), (7, .invokevirtual 477, 3), (10, .ifCond .ne 5, 3), (13, .iconst (-1), 1), (14, .ireturn, 1), (15, .iload_n 2, 1), (16, .ifCond .ne 12, 3), (19, .aload_n 0, 1), (20, .getfield 45, 3), (23, .iload_n 1, 1), (24, .iaload, 1), (25, .goto 40, 3), (28, .iload_n 2, 1), (29, .iconst 1, 1), (30, .if_icmp .ne 12, 3), (33, .aload_n 0, 1), (34, .getfield 103, 3), (37, .iload_n 1, 1), (38, .iaload, 1), (39, .goto 26, 3), (42, .iload_n 2, 1), (43, .iconst 2, 1), (44, .if_icmp .ne 20, 3), (47, .aload_n 0, 1), (48, .getfield 106, 3), (51, .iload_n 1, 1), (52, .baload, 1), (53, .ifCond .eq 7, 3), (56, .iconst 1, 1), (57, .goto 8, 3), (60, .iconst 0, 1), (61, .goto 4, 3), (64, .iconst (-1), 1), (65, .ireturn, 1)]
theorem dt_X10_straw : dOk cX10_straw tb_X10_straw = true := by decide +kernel
def fX10_straw (h : Hp) (x1 : Int32) (x2 : Int32) : Option (Int32 × Hp) := bnd (fX10_isStraw (uI h 107 2 (0 : Int32)) x1) (fun v_1 h_2 => if v_1 = 0 then (some ((-1 : Int32), h_2)) else (if x2 = 0 then (if inb x1 10 then (some ((hI h_2 118 (Int32.toNatClampNeg x1)), h_2)) else none) else (if x2 = (1 : Int32) then (if inb x1 10 then (some ((hI h_2 137 (Int32.toNatClampNeg x1)), h_2)) else none) else (if x2 = (2 : Int32) then (if inb x1 10 then (if (hI h_2 138 (Int32.toNatClampNeg x1)) = 0 then (some ((0 : Int32), h_2)) else (some ((1 : Int32), h_2))) else none) else (some ((-1 : Int32), h_2))))))
set_option maxRecDepth 100000 in
set_option maxHeartbeats 4000000 in
theorem c_X10_straw {l : Launch} {sb : State} {D : va_G} {ids : Nat → ClassId} {n : Nat} (hN : 152 ≤ n) (h : Hp) (x1 : Int32) (x2 : Int32) (r : Int32 × Hp) (hr : fX10_straw h x1 x2 = some r) : jM l yX10_straw cX10_straw 3 (some .int) 1 sb D ids shp St n [.ref 107, .int x1, .int x2] h (jQi sb D ids shp St n r) := by
  refine jM_of hr rfl (Nat.le_of_ble_eq_true rfl) ?_
  intro p e s m args below meth c hC hret
  unfold fX10_straw
  refine j_aload_n hC 0 rfl rfl (dOk_at dt_X10_straw 0 rfl) ?_
  refine j_iconst hC (v := (0 : Int32)) rfl (dOk_at dt_X10_straw 1 rfl) ?_
  refine j_putI hC St_SP flX10_157 (show shp 107 = (10, 88) from rfl) (Nat.lt_of_lt_of_le (Nat.le_of_ble_eq_true rfl : 107 < 152) hN) (by decide) (by decide) rfl rfl (dOk_at dt_X10_straw 2 rfl) ?_
  refine j_aload_n hC 0 rfl rfl (dOk_at dt_X10_straw 3 rfl) ?_
  refine j_iload_n hC 1 rfl rfl (dOk_at dt_X10_straw 4 rfl) ?_
  refine j_callVi hC clX10_477 (fun rz hrz => c_X10_isStraw hN _ _ rz hrz) (show shp 107 = (10, 88) from rfl) (Nat.lt_of_lt_of_le (Nat.le_of_ble_eq_true rfl : 107 < 152) hN) (by decide) rfl rfl ⟨Nat.le_of_ble_eq_true rfl, Nat.le_of_ble_eq_true rfl⟩ ⟨Nat.le_refl 0, Nat.le_refl 0⟩ (As := [.int x1]) (st := []) rfl (Nat.le_of_ble_eq_true rfl) (dOk_at dt_X10_straw 5 rfl) (fun v_1 h_2 _ => ?_)
  refine j_if_ne hC (tgt := 15) (by decide) (dOk_at dt_X10_straw 6 rfl) (fun q_3 => ?_) (fun q_3 => ?_)
  · refine j_iload_n hC 2 rfl rfl (dOk_at dt_X10_straw 9 rfl) ?_
    refine j_if_ne hC (tgt := 28) (by decide) (dOk_at dt_X10_straw 10 rfl) (fun q_4 => ?_) (fun q_4 => ?_)
    · refine j_iload_n hC 2 rfl rfl (dOk_at dt_X10_straw 16 rfl) ?_
      refine j_iconst hC (v := (1 : Int32)) rfl (dOk_at dt_X10_straw 17 rfl) ?_
      refine j_icmp_ne hC (tgt := 42) (by decide) (dOk_at dt_X10_straw 18 rfl) (fun q_5 => ?_) (fun q_5 => ?_)
      · refine j_iload_n hC 2 rfl rfl (dOk_at dt_X10_straw 24 rfl) ?_
        refine j_iconst hC (v := (2 : Int32)) rfl (dOk_at dt_X10_straw 25 rfl) ?_
        refine j_icmp_ne hC (tgt := 64) (by decide) (dOk_at dt_X10_straw 26 rfl) (fun q_6 => ?_) (fun q_6 => ?_)
        · refine j_iconst hC (v := (-1 : Int32)) rfl (dOk_at dt_X10_straw 36 rfl) ?_
          exact j_iret hC hret (dOk_at dt_X10_straw 37 rfl)
        · refine j_aload_n hC 0 rfl rfl (dOk_at dt_X10_straw 27 rfl) ?_
          refine j_getR hC flX10_106 (show shp 107 = (10, 88) from rfl) (Nat.lt_of_lt_of_le (Nat.le_of_ble_eq_true rfl : 107 < 152) hN) (by decide) (by decide) (fun _ _ _ => rfl) (fun hs => hs 107 61 138 rfl) (dOk_at dt_X10_straw 28 rfl) ?_
          refine j_iload_n hC 1 rfl rfl (dOk_at dt_X10_straw 29 rfl) ?_
          refine j_zald hC (show shp 138 = (23, 10) from rfl) (Nat.lt_of_lt_of_le (Nat.le_of_ble_eq_true rfl : 138 < 152) hN) (dOk_at dt_X10_straw 30 rfl) ?_
          refine j_if_eq hC (tgt := 60) (by decide) (dOk_at dt_X10_straw 31 rfl) (fun q_7 => ?_) (fun q_7 => ?_)
          · refine j_iconst hC (v := (0 : Int32)) rfl (dOk_at dt_X10_straw 34 rfl) ?_
            refine j_goto hC (tgt := 65) (by decide) (dOk_at dt_X10_straw 35 rfl) ?_
            exact j_iret hC hret (dOk_at dt_X10_straw 37 rfl)
          · refine j_iconst hC (v := (1 : Int32)) rfl (dOk_at dt_X10_straw 32 rfl) ?_
            refine j_goto hC (tgt := 65) (by decide) (dOk_at dt_X10_straw 33 rfl) ?_
            exact j_iret hC hret (dOk_at dt_X10_straw 37 rfl)
      · refine j_aload_n hC 0 rfl rfl (dOk_at dt_X10_straw 19 rfl) ?_
        refine j_getR hC flX10_103 (show shp 107 = (10, 88) from rfl) (Nat.lt_of_lt_of_le (Nat.le_of_ble_eq_true rfl : 107 < 152) hN) (by decide) (by decide) (fun _ _ _ => rfl) (fun hs => hs 107 60 137 rfl) (dOk_at dt_X10_straw 20 rfl) ?_
        refine j_iload_n hC 1 rfl rfl (dOk_at dt_X10_straw 21 rfl) ?_
        refine j_iald hC (show shp 137 = (21, 10) from rfl) (Nat.lt_of_lt_of_le (Nat.le_of_ble_eq_true rfl : 137 < 152) hN) (dOk_at dt_X10_straw 22 rfl) ?_
        refine j_goto hC (tgt := 65) (by decide) (dOk_at dt_X10_straw 23 rfl) ?_
        exact j_iret hC hret (dOk_at dt_X10_straw 37 rfl)
    · refine j_aload_n hC 0 rfl rfl (dOk_at dt_X10_straw 11 rfl) ?_
      refine j_getR hC flX10_45 (show shp 107 = (10, 88) from rfl) (Nat.lt_of_lt_of_le (Nat.le_of_ble_eq_true rfl : 107 < 152) hN) (by decide) (by decide) (fun _ _ _ => rfl) (fun hs => hs 107 34 118 rfl) (dOk_at dt_X10_straw 12 rfl) ?_
      refine j_iload_n hC 1 rfl rfl (dOk_at dt_X10_straw 13 rfl) ?_
      refine j_iald hC (show shp 118 = (21, 10) from rfl) (Nat.lt_of_lt_of_le (Nat.le_of_ble_eq_true rfl : 118 < 152) hN) (dOk_at dt_X10_straw 14 rfl) ?_
      refine j_goto hC (tgt := 65) (by decide) (dOk_at dt_X10_straw 15 rfl) ?_
      exact j_iret hC hret (dOk_at dt_X10_straw 37 rfl)
  · refine j_iconst hC (v := (-1 : Int32)) rfl (dOk_at dt_X10_straw 7 rfl) ?_
    exact j_iret hC hret (dOk_at dt_X10_straw 8 rfl)
def tb_X10_member : List (Nat × Instr × Nat) := [(0, .aload_n 0, 1), (1, .iconst 0, 1), (2, .putfield 157, 3), (5, .aload_n 0, 1), (6, .iload_n 1, 1), (7, .invokevirtual 480, 3), (10, .ifCond .ne 5, 3), (13, .iconst (-1), 1), (14, .ireturn, 1), (15, .iload_n 2, 1), (16, .ifCond .ne 12, 3), (19, .aload_n 0, 1), (20, .getfield 109, 3), (23, .iload_n 1, 1), (24, .iaload, 1), (25, .goto 32, 3), (28, .iload_n 2, 1), (29, .iconst 1, 1), (30, .if_icmp .ne 12, 3), (33, .aload_n 0, 1), (34, .getfield 112, 3), (37, .iload_n 1, 1), (38, .iaload, 1), (39, .goto 18, 3), (42, .iload_n 2, 1), (43, .iconst 2, 1), (44, .if_icmp .ne 12, 3), (47, .aload_n 0, 1), (48, .getfield 115, 3), (51, .iload_n 1, 1), (52, .iaload, 1), (53, .goto 4, 3), (56, .iconst (-1), 1), (57, .ireturn, 1)]
theorem dt_X10_member : dOk cX10_member tb_X10_member = true := by decide +kernel
def fX10_member (h : Hp) (x1 : Int32) (x2 : Int32) : Option (Int32 × Hp) := bnd (fX10_isMember (uI h 107 2 (0 : Int32)) x1) (fun v_1 h_2 => if v_1 = 0 then (some ((-1 : Int32), h_2)) else (if x2 = 0 then (if inb x1 10 then (some ((hI h_2 139 (Int32.toNatClampNeg x1)), h_2)) else none) else (if x2 = (1 : Int32) then (if inb x1 10 then (some ((hI h_2 140 (Int32.toNatClampNeg x1)), h_2)) else none) else (if x2 = (2 : Int32) then (if inb x1 10 then (some ((hI h_2 141 (Int32.toNatClampNeg x1)), h_2)) else none) else (some ((-1 : Int32), h_2))))))
set_option maxRecDepth 100000 in
set_option maxHeartbeats 4000000 in
theorem c_X10_member {l : Launch} {sb : State} {D : va_G} {ids : Nat → ClassId} {n : Nat} (hN : 152 ≤ n) (h : Hp) (x1 : Int32) (x2 : Int32) (r : Int32 × Hp) (hr : fX10_member h x1 x2 = some r) : jM l yX10_member cX10_member 3 (some .int) 1 sb D ids shp St n [.ref 107, .int x1, .int x2] h (jQi sb D ids shp St n r) := by
  refine jM_of hr rfl (Nat.le_of_ble_eq_true rfl) ?_
  intro p e s m args below meth c hC hret
  unfold fX10_member
  refine j_aload_n hC 0 rfl rfl (dOk_at dt_X10_member 0 rfl) ?_
  refine j_iconst hC (v := (0 : Int32)) rfl (dOk_at dt_X10_member 1 rfl) ?_
  refine j_putI hC St_SP flX10_157 (show shp 107 = (10, 88) from rfl) (Nat.lt_of_lt_of_le (Nat.le_of_ble_eq_true rfl : 107 < 152) hN) (by decide) (by decide) rfl rfl (dOk_at dt_X10_member 2 rfl) ?_
  refine j_aload_n hC 0 rfl rfl (dOk_at dt_X10_member 3 rfl) ?_
  refine j_iload_n hC 1 rfl rfl (dOk_at dt_X10_member 4 rfl) ?_
  refine j_callVi hC clX10_480 (fun rz hrz => c_X10_isMember hN _ _ rz hrz) (show shp 107 = (10, 88) from rfl) (Nat.lt_of_lt_of_le (Nat.le_of_ble_eq_true rfl : 107 < 152) hN) (by decide) rfl rfl ⟨Nat.le_of_ble_eq_true rfl, Nat.le_of_ble_eq_true rfl⟩ ⟨Nat.le_refl 0, Nat.le_refl 0⟩ (As := [.int x1]) (st := []) rfl (Nat.le_of_ble_eq_true rfl) (dOk_at dt_X10_member 5 rfl) (fun v_1 h_2 _ => ?_)
  refine j_if_ne hC (tgt := 15) (by decide) (dOk_at dt_X10_member 6 rfl) (fun q_3 => ?_) (fun q_3 => ?_)
  · refine j_iload_n hC 2 rfl rfl (dOk_at dt_X10_member 9 rfl) ?_
    refine j_if_ne hC (tgt := 28) (by decide) (dOk_at dt_X10_member 10 rfl) (fun q_4 => ?_) (fun q_4 => ?_)
    · refine j_iload_n hC 2 rfl rfl (dOk_at dt_X10_member 16 rfl) ?_
      refine j_iconst hC (v := (1 : Int32)) rfl (dOk_at dt_X10_member 17 rfl) ?_
      refine j_icmp_ne hC (tgt := 42) (by decide) (dOk_at dt_X10_member 18 rfl) (fun q_5 => ?_) (fun q_5 => ?_)
      · refine j_iload_n hC 2 rfl rfl (dOk_at dt_X10_member 24 rfl) ?_
        refine j_iconst hC (v := (2 : Int32)) rfl (dOk_at dt_X10_member 25 rfl) ?_
        refine j_icmp_ne hC (tgt := 56) (by decide) (dOk_at dt_X10_member 26 rfl) (fun q_6 => ?_) (fun q_6 => ?_)
        · refine j_iconst hC (v := (-1 : Int32)) rfl (dOk_at dt_X10_member 32 rfl) ?_
          exact j_iret hC hret (dOk_at dt_X10_member 33 rfl)
        · refine j_aload_n hC 0 rfl rfl (dOk_at dt_X10_member 27 rfl) ?_
          refine j_getR hC flX10_115 (show shp 107 = (10, 88) from rfl) (Nat.lt_of_lt_of_le (Nat.le_of_ble_eq_true rfl : 107 < 152) hN) (by decide) (by decide) (fun _ _ _ => rfl) (fun hs => hs 107 64 141 rfl) (dOk_at dt_X10_member 28 rfl) ?_
          refine j_iload_n hC 1 rfl rfl (dOk_at dt_X10_member 29 rfl) ?_
          refine j_iald hC (show shp 141 = (21, 10) from rfl) (Nat.lt_of_lt_of_le (Nat.le_of_ble_eq_true rfl : 141 < 152) hN) (dOk_at dt_X10_member 30 rfl) ?_
          refine j_goto hC (tgt := 57) (by decide) (dOk_at dt_X10_member 31 rfl) ?_
          exact j_iret hC hret (dOk_at dt_X10_member 33 rfl)
      · refine j_aload_n hC 0 rfl rfl (dOk_at dt_X10_member 19 rfl) ?_
        refine j_getR hC flX10_112 (show shp 107 = (10, 88) from rfl) (Nat.lt_of_lt_of_le (Nat.le_of_ble_eq_true rfl : 107 < 152) hN) (by decide) (by decide) (fun _ _ _ => rfl) (fun hs => hs 107 63 140 rfl) (dOk_at dt_X10_member 20 rfl) ?_
        refine j_iload_n hC 1 rfl rfl (dOk_at dt_X10_member 21 rfl) ?_
        refine j_iald hC (show shp 140 = (21, 10) from rfl) (Nat.lt_of_lt_of_le (Nat.le_of_ble_eq_true rfl : 140 < 152) hN) (dOk_at dt_X10_member 22 rfl) ?_
        refine j_goto hC (tgt := 57) (by decide) (dOk_at dt_X10_member 23 rfl) ?_
        exact j_iret hC hret (dOk_at dt_X10_member 33 rfl)
    · refine j_aload_n hC 0 rfl rfl (dOk_at dt_X10_member 11 rfl) ?_
      refine j_getR hC flX10_109 (show shp 107 = (10, 88) from rfl) (Nat.lt_of_lt_of_le (Nat.le_of_ble_eq_true rfl : 107 < 152) hN) (by decide) (by decide) (fun _ _ _ => rfl) (fun hs => hs 107 62 139 rfl) (dOk_at dt_X10_member 12 rfl) ?_
      refine j_iload_n hC 1 rfl rfl (dOk_at dt_X10_member 13 rfl) ?_
      refine j_iald hC (show shp 139 = (21, 10) from rfl) (Nat.lt_of_lt_of_le (Nat.le_of_ble_eq_true rfl : 139 < 152) hN) (dOk_at dt_X10_member 14 rfl) ?_
      refine j_goto hC (tgt := 57) (by decide) (dOk_at dt_X10_member 15 rfl) ?_
      exact j_iret hC hret (dOk_at dt_X10_member 33 rfl)
  · refine j_iconst hC (v := (-1 : Int32)) rfl (dOk_at dt_X10_member 7 rfl) ?_
    exact j_iret hC hret (dOk_at dt_X10_member 8 rfl)
def tb_X10_force : List (Nat × Instr × Nat) := [(0, .aload_n 0, 1), (1, .iconst 0, 1), (2, .putfield 157, 3), (5, .aload_n 0, 1), (6, .invokevirtual 392, 3), (9, .aload_n 0, 1), (10, .iload_n 1, 1), (11, .invokevirtual 480, 3), (14, .ifCond .eq 21, 3), (17, .aload_n 0, 1), (18, .iload_n 2, 1), (19, .invokevirtual 465, 3), (22, .ifCond .eq 13, 3), (25, .aload_n 0, 1), (26, .iconst 0, 1), (27, .iload_n 1, 1), (28, .iload_n 2, 1), (29, .invokevirtual 419, 3), (32, .goto 4, 3), (35, .iconst (-1), 1), (36, .ireturn, 1)]
theorem dt_X10_force : dOk cX10_force tb_X10_force = true := by decide +kernel
def fX10_force (h : Hp) (x1 : Int32) (x2 : Int32) : Option (Int32 × Hp) := (fX10_plainTried (uI h 107 2 (0 : Int32))).bind (fun h_2 => bnd (fX10_isMember h_2 x1) (fun v_3 h_4 => if v_3 = 0 then (some ((-1 : Int32), h_4)) else (bnd (fX10_isClaim h_4 x2) (fun v_6 h_7 => if v_6 = 0 then (some ((-1 : Int32), h_7)) else (bnd (fX10_forceOf h_7 (0 : Int32) x1 x2) (fun v_9 h_10 => some (v_9, h_10)))))))
set_option maxRecDepth 100000 in
set_option maxHeartbeats 4000000 in
theorem c_X10_force {l : Launch} {sb : State} {D : va_G} {ids : Nat → ClassId} {n : Nat} (hN : 152 ≤ n) (h : Hp) (x1 : Int32) (x2 : Int32) (r : Int32 × Hp) (hr : fX10_force h x1 x2 = some r) : jM l yX10_force cX10_force 3 (some .int) 2 sb D ids shp St n [.ref 107, .int x1, .int x2] h (jQi sb D ids shp St n r) := by
  refine jM_of hr rfl (Nat.le_of_ble_eq_true rfl) ?_
  intro p e s m args below meth c hC hret
  unfold fX10_force
  refine j_aload_n hC 0 rfl rfl (dOk_at dt_X10_force 0 rfl) ?_
  refine j_iconst hC (v := (0 : Int32)) rfl (dOk_at dt_X10_force 1 rfl) ?_
  refine j_putI hC St_SP flX10_157 (show shp 107 = (10, 88) from rfl) (Nat.lt_of_lt_of_le (Nat.le_of_ble_eq_true rfl : 107 < 152) hN) (by decide) (by decide) rfl rfl (dOk_at dt_X10_force 2 rfl) ?_
  refine j_aload_n hC 0 rfl rfl (dOk_at dt_X10_force 3 rfl) ?_
  refine j_callVv hC clX10_392 (fun rz hrz => c_X10_plainTried hN _ rz hrz) (show shp 107 = (10, 88) from rfl) (Nat.lt_of_lt_of_le (Nat.le_of_ble_eq_true rfl : 107 < 152) hN) (by decide) rfl rfl ⟨Nat.le_of_ble_eq_true rfl, Nat.le_of_ble_eq_true rfl⟩ ⟨Nat.le_refl 0, Nat.le_refl 0⟩ (As := []) (st := []) rfl (Nat.le_of_ble_eq_true rfl) (dOk_at dt_X10_force 4 rfl) (fun h_2 _ => ?_)
  refine j_aload_n hC 0 rfl rfl (dOk_at dt_X10_force 5 rfl) ?_
  refine j_iload_n hC 1 rfl rfl (dOk_at dt_X10_force 6 rfl) ?_
  refine j_callVi hC clX10_480 (fun rz hrz => c_X10_isMember hN _ _ rz hrz) (show shp 107 = (10, 88) from rfl) (Nat.lt_of_lt_of_le (Nat.le_of_ble_eq_true rfl : 107 < 152) hN) (by decide) rfl rfl ⟨Nat.le_of_ble_eq_true rfl, Nat.le_of_ble_eq_true rfl⟩ ⟨Nat.le_refl 0, Nat.le_refl 0⟩ (As := [.int x1]) (st := []) rfl (Nat.le_of_ble_eq_true rfl) (dOk_at dt_X10_force 7 rfl) (fun v_3 h_4 _ => ?_)
  refine j_if_eq hC (tgt := 35) (by decide) (dOk_at dt_X10_force 8 rfl) (fun q_5 => ?_) (fun q_5 => ?_)
  · refine j_iconst hC (v := (-1 : Int32)) rfl (dOk_at dt_X10_force 19 rfl) ?_
    exact j_iret hC hret (dOk_at dt_X10_force 20 rfl)
  · refine j_aload_n hC 0 rfl rfl (dOk_at dt_X10_force 9 rfl) ?_
    refine j_iload_n hC 2 rfl rfl (dOk_at dt_X10_force 10 rfl) ?_
    refine j_callVi hC clX10_465 (fun rz hrz => c_X10_isClaim hN _ _ rz hrz) (show shp 107 = (10, 88) from rfl) (Nat.lt_of_lt_of_le (Nat.le_of_ble_eq_true rfl : 107 < 152) hN) (by decide) rfl rfl ⟨Nat.le_of_ble_eq_true rfl, Nat.le_of_ble_eq_true rfl⟩ ⟨Nat.le_refl 0, Nat.le_refl 0⟩ (As := [.int x2]) (st := []) rfl (Nat.le_of_ble_eq_true rfl) (dOk_at dt_X10_force 11 rfl) (fun v_6 h_7 _ => ?_)
    refine j_if_eq hC (tgt := 35) (by decide) (dOk_at dt_X10_force 12 rfl) (fun q_8 => ?_) (fun q_8 => ?_)
    · refine j_iconst hC (v := (-1 : Int32)) rfl (dOk_at dt_X10_force 19 rfl) ?_
      exact j_iret hC hret (dOk_at dt_X10_force 20 rfl)
    · refine j_aload_n hC 0 rfl rfl (dOk_at dt_X10_force 13 rfl) ?_
      refine j_iconst hC (v := (0 : Int32)) rfl (dOk_at dt_X10_force 14 rfl) ?_
      refine j_iload_n hC 1 rfl rfl (dOk_at dt_X10_force 15 rfl) ?_
      refine j_iload_n hC 2 rfl rfl (dOk_at dt_X10_force 16 rfl) ?_
      refine j_callVi hC clX10_419 (fun rz hrz => c_X10_forceOf hN _ _ _ _ rz hrz) (show shp 107 = (10, 88) from rfl) (Nat.lt_of_lt_of_le (Nat.le_of_ble_eq_true rfl : 107 < 152) hN) (by decide) rfl rfl ⟨Nat.le_of_ble_eq_true rfl, Nat.le_of_ble_eq_true rfl⟩ ⟨Nat.le_refl 0, Nat.le_refl 0⟩ (As := [.int (0 : Int32), .int x1, .int x2]) (st := []) rfl (Nat.le_of_ble_eq_true rfl) (dOk_at dt_X10_force 17 rfl) (fun v_9 h_10 _ => ?_)
      refine j_goto hC (tgt := 36) (by decide) (dOk_at dt_X10_force 18 rfl) ?_
      exact j_iret hC hret (dOk_at dt_X10_force 20 rfl)
def tb_X10_law : List (Nat × Instr × Nat) := [(0, .aload_n 0, 1), (1, .iconst 0, 1), (2, .putfield 157, 3), (5, .iload_n 1, 1), (6, .iconst 0, 1), (7, .iconst 2, 1), (8, .invokestatic 202, 3), (11, .ifCond .eq 28, 3), (14, .aload_n 0, 1), (15, .getfield 72, 3), (18, .iload_n 1, 1), (19, .baload, 1), (20, .ifCond .eq 19, 3), (23, .aload_n 0, 1), (24, .iload_n 2, 1), (25, .invokevirtual 477, 3), (28, .ifCond .eq 11, 3), (31, .aload_n 0, 1), (32, .iload_n 3, 1), (33, .invokevirtual 480, 3), (36, .ifCond .ne 7, 3), (39, .ldc2_w 483, 3), (42, .lreturn, 1), (43, .aload_n 0, 1), (44, .invokevirtual 392, 3), (47, .aload_n 0, 1), (48, .iconst 0, 1), (49, .iload_n 2, 1), (50, .iload_n 3, 1), (51, .invokevirtual 433, 3), (54, .aload_n 0, 1), (55, .iload_n 1, 1), (56, .invokevirtual 430, 3), (59, .lstore 4, 2), (61, .aload_n 0, 1), (62, .getfield 366, 3), (65, .ifCond .eq 9, 3), (68, .ldc2_w 483, 3), (71, .goto 5, 3), (74, .lload 4, 2), (76, .lreturn, 1)]
theorem dt_X10_law : dOk cX10_law tb_X10_law = true := by decide +kernel
def fX10_law (h : Hp) (x1 : Int32) (x2 : Int32) (x3 : Int32) : Option (Int64 × Hp) := bnd (fX10_isIn (uI h 107 2 (0 : Int32)) x1 (0 : Int32) (2 : Int32)) (fun v_1 h_2 => if v_1 = 0 then (some ((-9223372036854775808 : Int64), h_2)) else (if inb x1 6 then (if (hI h_2 127 (Int32.toNatClampNeg x1)) = 0 then (some ((-9223372036854775808 : Int64), h_2)) else (bnd (fX10_isStraw h_2 x2) (fun v_5 h_6 => if v_5 = 0 then (some ((-9223372036854775808 : Int64), h_6)) else (bnd (fX10_isMember h_6 x3) (fun v_8 h_9 => if v_8 = 0 then (some ((-9223372036854775808 : Int64), h_9)) else ((fX10_plainTried h_9).bind (fun h_12 => (fX10_layNames h_12 (0 : Int32) x2 x3).bind (fun h_14 => bnd (fX10_lawOf h_14 x1) (fun v_15 h_16 => if (hI h_16 107 59) = 0 then (some (v_15, h_16)) else (some ((-9223372036854775808 : Int64), h_16))))))))))) else none))
set_option maxRecDepth 100000 in
set_option maxHeartbeats 4000000 in
theorem c_X10_law {l : Launch} {sb : State} {D : va_G} {ids : Nat → ClassId} {n : Nat} (hN : 152 ≤ n) (h : Hp) (x1 : Int32) (x2 : Int32) (x3 : Int32) (r : Int64 × Hp) (hr : fX10_law h x1 x2 x3 = some r) : jM l yX10_law cX10_law 6 (some .long) 3 sb D ids shp St n [.ref 107, .int x1, .int x2, .int x3] h (jQl sb D ids shp St n r) := by
  refine jM_of hr rfl (Nat.le_of_ble_eq_true rfl) ?_
  intro p e s m args below meth c hC hret
  unfold fX10_law
  refine j_aload_n hC 0 rfl rfl (dOk_at dt_X10_law 0 rfl) ?_
  refine j_iconst hC (v := (0 : Int32)) rfl (dOk_at dt_X10_law 1 rfl) ?_
  refine j_putI hC St_SP flX10_157 (show shp 107 = (10, 88) from rfl) (Nat.lt_of_lt_of_le (Nat.le_of_ble_eq_true rfl : 107 < 152) hN) (by decide) (by decide) rfl rfl (dOk_at dt_X10_law 2 rfl) ?_
  refine j_iload_n hC 1 rfl rfl (dOk_at dt_X10_law 3 rfl) ?_
  refine j_iconst hC (v := (0 : Int32)) rfl (dOk_at dt_X10_law 4 rfl) ?_
  refine j_iconst hC (v := (2 : Int32)) rfl (dOk_at dt_X10_law 5 rfl) ?_
  refine j_callSi hC clX10_202 (fun rz hrz => c_X10_isIn hN _ _ _ _ rz hrz) rfl ⟨Nat.le_of_ble_eq_true rfl, Nat.le_of_ble_eq_true rfl⟩ ⟨Nat.le_refl 0, Nat.le_refl 0⟩ (As := [.int x1, .int (0 : Int32), .int (2 : Int32)]) (st := []) rfl (Nat.le_of_ble_eq_true rfl) (dOk_at dt_X10_law 6 rfl) (fun v_1 h_2 _ => ?_)
  refine j_if_eq hC (tgt := 39) (by decide) (dOk_at dt_X10_law 7 rfl) (fun q_3 => ?_) (fun q_3 => ?_)
  · refine j_ldc2 hC klX10_483 (dOk_at dt_X10_law 21 rfl) ?_
    exact j_lret hC hret (dOk_at dt_X10_law 22 rfl)
  · refine j_aload_n hC 0 rfl rfl (dOk_at dt_X10_law 8 rfl) ?_
    refine j_getR hC flX10_72 (show shp 107 = (10, 88) from rfl) (Nat.lt_of_lt_of_le (Nat.le_of_ble_eq_true rfl : 107 < 152) hN) (by decide) (by decide) (fun _ _ _ => rfl) (fun hs => hs 107 43 127 rfl) (dOk_at dt_X10_law 9 rfl) ?_
    refine j_iload_n hC 1 rfl rfl (dOk_at dt_X10_law 10 rfl) ?_
    refine j_zald hC (show shp 127 = (23, 6) from rfl) (Nat.lt_of_lt_of_le (Nat.le_of_ble_eq_true rfl : 127 < 152) hN) (dOk_at dt_X10_law 11 rfl) ?_
    refine j_if_eq hC (tgt := 39) (by decide) (dOk_at dt_X10_law 12 rfl) (fun q_4 => ?_) (fun q_4 => ?_)
    · refine j_ldc2 hC klX10_483 (dOk_at dt_X10_law 21 rfl) ?_
      exact j_lret hC hret (dOk_at dt_X10_law 22 rfl)
    · refine j_aload_n hC 0 rfl rfl (dOk_at dt_X10_law 13 rfl) ?_
      refine j_iload_n hC 2 rfl rfl (dOk_at dt_X10_law 14 rfl) ?_
      refine j_callVi hC clX10_477 (fun rz hrz => c_X10_isStraw hN _ _ rz hrz) (show shp 107 = (10, 88) from rfl) (Nat.lt_of_lt_of_le (Nat.le_of_ble_eq_true rfl : 107 < 152) hN) (by decide) rfl rfl ⟨Nat.le_of_ble_eq_true rfl, Nat.le_of_ble_eq_true rfl⟩ ⟨Nat.le_refl 0, Nat.le_refl 0⟩ (As := [.int x2]) (st := []) rfl (Nat.le_of_ble_eq_true rfl) (dOk_at dt_X10_law 15 rfl) (fun v_5 h_6 _ => ?_)
      refine j_if_eq hC (tgt := 39) (by decide) (dOk_at dt_X10_law 16 rfl) (fun q_7 => ?_) (fun q_7 => ?_)
      · refine j_ldc2 hC klX10_483 (dOk_at dt_X10_law 21 rfl) ?_
        exact j_lret hC hret (dOk_at dt_X10_law 22 rfl)
      · refine j_aload_n hC 0 rfl rfl (dOk_at dt_X10_law 17 rfl) ?_
        refine j_iload_n hC 3 rfl rfl (dOk_at dt_X10_law 18 rfl) ?_
        refine j_callVi hC clX10_480 (fun rz hrz => c_X10_isMember hN _ _ rz hrz) (show shp 107 = (10, 88) from rfl) (Nat.lt_of_lt_of_le (Nat.le_of_ble_eq_true rfl : 107 < 152) hN) (by decide) rfl rfl ⟨Nat.le_of_ble_eq_true rfl, Nat.le_of_ble_eq_true rfl⟩ ⟨Nat.le_refl 0, Nat.le_refl 0⟩ (As := [.int x3]) (st := []) rfl (Nat.le_of_ble_eq_true rfl) (dOk_at dt_X10_law 19 rfl) (fun v_8 h_9 _ => ?_)
        refine j_if_ne hC (tgt := 43) (by decide) (dOk_at dt_X10_law 20 rfl) (fun q_10 => ?_) (fun q_10 => ?_)
        · refine j_aload_n hC 0 rfl rfl (dOk_at dt_X10_law 23 rfl) ?_
          refine j_callVv hC clX10_392 (fun rz hrz => c_X10_plainTried hN _ rz hrz) (show shp 107 = (10, 88) from rfl) (Nat.lt_of_lt_of_le (Nat.le_of_ble_eq_true rfl : 107 < 152) hN) (by decide) rfl rfl ⟨Nat.le_of_ble_eq_true rfl, Nat.le_of_ble_eq_true rfl⟩ ⟨Nat.le_refl 0, Nat.le_refl 0⟩ (As := []) (st := []) rfl (Nat.le_of_ble_eq_true rfl) (dOk_at dt_X10_law 24 rfl) (fun h_12 _ => ?_)
          refine j_aload_n hC 0 rfl rfl (dOk_at dt_X10_law 25 rfl) ?_
          refine j_iconst hC (v := (0 : Int32)) rfl (dOk_at dt_X10_law 26 rfl) ?_
          refine j_iload_n hC 2 rfl rfl (dOk_at dt_X10_law 27 rfl) ?_
          refine j_iload_n hC 3 rfl rfl (dOk_at dt_X10_law 28 rfl) ?_
          refine j_callVv hC clX10_433 (fun rz hrz => c_X10_layNames hN _ _ _ _ rz hrz) (show shp 107 = (10, 88) from rfl) (Nat.lt_of_lt_of_le (Nat.le_of_ble_eq_true rfl : 107 < 152) hN) (by decide) rfl rfl ⟨Nat.le_of_ble_eq_true rfl, Nat.le_of_ble_eq_true rfl⟩ ⟨Nat.le_refl 0, Nat.le_refl 0⟩ (As := [.int (0 : Int32), .int x2, .int x3]) (st := []) rfl (Nat.le_of_ble_eq_true rfl) (dOk_at dt_X10_law 29 rfl) (fun h_14 _ => ?_)
          refine j_aload_n hC 0 rfl rfl (dOk_at dt_X10_law 30 rfl) ?_
          refine j_iload_n hC 1 rfl rfl (dOk_at dt_X10_law 31 rfl) ?_
          refine j_callVl hC clX10_430 (fun rz hrz => c_X10_lawOf hN _ _ rz hrz) (show shp 107 = (10, 88) from rfl) (Nat.lt_of_lt_of_le (Nat.le_of_ble_eq_true rfl : 107 < 152) hN) (by decide) rfl rfl ⟨Nat.le_of_ble_eq_true rfl, Nat.le_of_ble_eq_true rfl⟩ ⟨Nat.le_refl 0, Nat.le_refl 0⟩ (As := [.int x1]) (st := []) rfl (Nat.le_of_ble_eq_true rfl) (dOk_at dt_X10_law 32 rfl) (fun v_15 h_16 _ => ?_)
          refine j_lstore hC (lv' := [(4, .long v_15), (0, .ref 107), (1, .int x1), (2, .int x2), (3, .int x3)]) (by decide) rfl (dOk_at dt_X10_law 33 rfl) ?_
          refine j_aload_n hC 1 rfl rfl (dOk_at dt_X10_law 34 rfl) ?_
          refine j_getI hC flX10_366 (show shp 107 = (10, 88) from rfl) (Nat.lt_of_lt_of_le (Nat.le_of_ble_eq_true rfl : 107 < 152) hN) (by decide) (by decide) (fun _ _ _ => rfl) (dOk_at dt_X10_law 35 rfl) ?_
          refine j_if_eq hC (tgt := 74) (by decide) (dOk_at dt_X10_law 36 rfl) (fun q_17 => ?_) (fun q_17 => ?_)
          · refine j_lload hC 0 rfl (dOk_at dt_X10_law 39 rfl) ?_
            exact j_lret hC hret (dOk_at dt_X10_law 40 rfl)
          · refine j_ldc2 hC klX10_483 (dOk_at dt_X10_law 37 rfl) ?_
            refine j_goto hC (tgt := 76) (by decide) (dOk_at dt_X10_law 38 rfl) ?_
            exact j_lret hC hret (dOk_at dt_X10_law 40 rfl)
        · refine j_ldc2 hC klX10_483 (dOk_at dt_X10_law 21 rfl) ?_
          exact j_lret hC hret (dOk_at dt_X10_law 22 rfl)
def tb_X10_put : List (Nat × Instr × Nat) := [(0, .iconst 0, 1), (1, .istore_n 3, 1), (2, .iload_n 3, 1), (3, .iconst 5, 1), (4, .if_icmp .ge 61, 3), (7, .aload_n 1, 1), (8, .iload_n 2, 1), (9, .iload_n 3, 1), (10, .iadd, 1), (11, .aload_n 0, 1), (12, .getfield 103, 3), (15, .iload_n 3, 1), (16, .iaload, 1), (17, .iastore, 1), (18, .aload_n 1, 1), (19, .iload_n 2, 1), (20, .iconst 5, 1), (21, .iadd, 1), (22, .iload_n 3, 1), (23, .iadd, 1), (24, .aload_n 0, 1), (25, .getfield 109, 3), (28, .iload_n 3, 1), (29, .iaload, 1), (30, .iastore, 1), (31, .aload_n 1, 1), (32, .iload_n 2, 1), (33, .bipush 10, 2), (35, .iadd, 1), (36, .iload_n 3, 1), (37, .iadd, 1), (38, .aload_n 0, 1), (39, .getfield 112, 3), (42, .iload_n 3, 1), (43, .iaload, 1), (44, .iastore, 1), (45, .aload_n 1, 1), (46, .iload_n 2, 1), (47, .bipush 15, 2), (49, .iadd, 1), (50, .iload_n 3, 1), (51, .iadd, 1), (52, .aload_n 0, 1), (53, .getfield 115, 3), (56, .iload_n 3, 1), (57, .iaload, 1), (58, .iastore, 1), (59, .iinc 3 1, 3), (62, .goto (-60), 3), (65, .return_, 1)]
theorem dt_X10_put : dOk cX10_put tb_X10_put = true := by decide +kernel
def fX10_put_2 : Nat → (Nat) → (Nat) → Hp → Int32 → Int32 → Option (Hp)
  | 0, _, _, _, _, _ => none
  | fu + 1, r1, n1, h, x2, x3 => if (5 : Int32) ≤ x3 then (some h) else (if inb x3 10 then (if inb (x2 + x3) n1 then (if inb x3 10 then (if inb ((x2 + (5 : Int32)) + x3) n1 then (if inb x3 10 then (if inb ((x2 + (10 : Int32)) + x3) n1 then (if inb x3 10 then (if inb ((x2 + (15 : Int32)) + x3) n1 then ((fX10_put_2 fu r1 n1) (uI (uI (uI (uI h r1 (Int32.toNatClampNeg (x2 + x3)) (hI h 137 (Int32.toNatClampNeg x3))) r1 (Int32.toNatClampNeg ((x2 + (5 : Int32)) + x3)) (hI (uI h r1 (Int32.toNatClampNeg (x2 + x3)) (hI h 137 (Int32.toNatClampNeg x3))) 139 (Int32.toNatClampNeg x3))) r1 (Int32.toNatClampNeg ((x2 + (10 : Int32)) + x3)) (hI (uI (uI h r1 (Int32.toNatClampNeg (x2 + x3)) (hI h 137 (Int32.toNatClampNeg x3))) r1 (Int32.toNatClampNeg ((x2 + (5 : Int32)) + x3)) (hI (uI h r1 (Int32.toNatClampNeg (x2 + x3)) (hI h 137 (Int32.toNatClampNeg x3))) 139 (Int32.toNatClampNeg x3))) 140 (Int32.toNatClampNeg x3))) r1 (Int32.toNatClampNeg ((x2 + (15 : Int32)) + x3)) (hI (uI (uI (uI h r1 (Int32.toNatClampNeg (x2 + x3)) (hI h 137 (Int32.toNatClampNeg x3))) r1 (Int32.toNatClampNeg ((x2 + (5 : Int32)) + x3)) (hI (uI h r1 (Int32.toNatClampNeg (x2 + x3)) (hI h 137 (Int32.toNatClampNeg x3))) 139 (Int32.toNatClampNeg x3))) r1 (Int32.toNatClampNeg ((x2 + (10 : Int32)) + x3)) (hI (uI (uI h r1 (Int32.toNatClampNeg (x2 + x3)) (hI h 137 (Int32.toNatClampNeg x3))) r1 (Int32.toNatClampNeg ((x2 + (5 : Int32)) + x3)) (hI (uI h r1 (Int32.toNatClampNeg (x2 + x3)) (hI h 137 (Int32.toNatClampNeg x3))) 139 (Int32.toNatClampNeg x3))) 140 (Int32.toNatClampNeg x3))) 141 (Int32.toNatClampNeg x3))) x2 (x3 + (1 : Int32))) else none) else none) else none) else none) else none) else none) else none) else none)
def fX10_put (r1 : Nat) (n1 : Nat) (h : Hp) (x2 : Int32) : Option (Hp) := fX10_put_2 FU r1 n1 h x2 (0 : Int32)
set_option maxRecDepth 100000 in
set_option maxHeartbeats 4000000 in
theorem c_X10_put {l : Launch} {sb : State} {D : va_G} {ids : Nat → ClassId} {n : Nat} (hN : 152 ≤ n) {r1 : Nat} {n1 : Nat} (h1 : shp r1 = (21, n1)) (h : Hp) (x2 : Int32) (r : Hp) (hr : fX10_put r1 n1 h x2 = some r) : jM l yX10_put cX10_put 4 none 0 sb D ids shp St n [.ref 107, .ref r1, .int x2] h (jQv sb D ids shp St n r) := by
  refine jM_of hr rfl (Nat.le_of_ble_eq_true rfl) ?_
  intro p e s m args below meth c hC hret
  have b2 : ∀ (fu : Nat) (h : Hp) (x2 : Int32) (x3 : Int32) , jJ p l e (rmD 0) s m args below meth c 4 sb D ids shp St (fun r => MQ below (jQv sb D ids shp St n r) args s 0 0 (jA sb)) n 0 0 h 2 [(0, .ref 107), (1, .ref r1), (2, .int x2), (3, .int x3)] [] (fX10_put_2 fu r1 n1 h x2 x3) := by
    intro fu 
    induction fu with
    | zero => intro h x2 x3 ; exact j_none
    | succ fu ih =>
    intro h x2 x3 
    rw [fX10_put_2]
    refine j_iload_n hC 3 rfl rfl (dOk_at dt_X10_put 2 rfl) ?_
    refine j_iconst hC (v := (5 : Int32)) rfl (dOk_at dt_X10_put 3 rfl) ?_
    refine j_icmp_ge hC (tgt := 65) (by decide) (dOk_at dt_X10_put 4 rfl) (fun q_1 => ?_) (fun q_1 => ?_)
    · exact j_vret hC hret (dOk_at dt_X10_put 49 rfl)
    · refine j_aload_n hC 1 rfl rfl (dOk_at dt_X10_put 5 rfl) ?_
      refine j_iload_n hC 2 rfl rfl (dOk_at dt_X10_put 6 rfl) ?_
      refine j_iload_n hC 3 rfl rfl (dOk_at dt_X10_put 7 rfl) ?_
      refine j_iadd hC (dOk_at dt_X10_put 8 rfl) ?_
      refine j_aload_n hC 0 rfl rfl (dOk_at dt_X10_put 9 rfl) ?_
      refine j_getR hC flX10_103 (show shp 107 = (10, 88) from rfl) (Nat.lt_of_lt_of_le (Nat.le_of_ble_eq_true rfl : 107 < 152) hN) (by decide) (by decide) (fun _ _ _ => rfl) (fun hs => hs 107 60 137 rfl) (dOk_at dt_X10_put 10 rfl) ?_
      refine j_iload_n hC 3 rfl rfl (dOk_at dt_X10_put 11 rfl) ?_
      refine j_iald hC (show shp 137 = (21, 10) from rfl) (Nat.lt_of_lt_of_le (Nat.le_of_ble_eq_true rfl : 137 < 152) hN) (dOk_at dt_X10_put 12 rfl) ?_
      refine j_iast hC St_SP h1 (jlt hN h1 (by decide)) (dOk_at dt_X10_put 13 rfl) ?_
      refine j_aload_n hC 1 rfl rfl (dOk_at dt_X10_put 14 rfl) ?_
      refine j_iload_n hC 2 rfl rfl (dOk_at dt_X10_put 15 rfl) ?_
      refine j_iconst hC (v := (5 : Int32)) rfl (dOk_at dt_X10_put 16 rfl) ?_
      refine j_iadd hC (dOk_at dt_X10_put 17 rfl) ?_
      refine j_iload_n hC 3 rfl rfl (dOk_at dt_X10_put 18 rfl) ?_
      refine j_iadd hC (dOk_at dt_X10_put 19 rfl) ?_
      refine j_aload_n hC 0 rfl rfl (dOk_at dt_X10_put 20 rfl) ?_
      refine j_getR hC flX10_109 (show shp 107 = (10, 88) from rfl) (Nat.lt_of_lt_of_le (Nat.le_of_ble_eq_true rfl : 107 < 152) hN) (by decide) (by decide) (fun _ _ _ => rfl) (fun hs => hs 107 62 139 rfl) (dOk_at dt_X10_put 21 rfl) ?_
      refine j_iload_n hC 3 rfl rfl (dOk_at dt_X10_put 22 rfl) ?_
      refine j_iald hC (show shp 139 = (21, 10) from rfl) (Nat.lt_of_lt_of_le (Nat.le_of_ble_eq_true rfl : 139 < 152) hN) (dOk_at dt_X10_put 23 rfl) ?_
      refine j_iast hC St_SP h1 (jlt hN h1 (by decide)) (dOk_at dt_X10_put 24 rfl) ?_
      refine j_aload_n hC 1 rfl rfl (dOk_at dt_X10_put 25 rfl) ?_
      refine j_iload_n hC 2 rfl rfl (dOk_at dt_X10_put 26 rfl) ?_
      refine j_bipush hC (v := (10 : Int32)) rfl (dOk_at dt_X10_put 27 rfl) ?_
      refine j_iadd hC (dOk_at dt_X10_put 28 rfl) ?_
      refine j_iload_n hC 3 rfl rfl (dOk_at dt_X10_put 29 rfl) ?_
      refine j_iadd hC (dOk_at dt_X10_put 30 rfl) ?_
      refine j_aload_n hC 0 rfl rfl (dOk_at dt_X10_put 31 rfl) ?_
      refine j_getR hC flX10_112 (show shp 107 = (10, 88) from rfl) (Nat.lt_of_lt_of_le (Nat.le_of_ble_eq_true rfl : 107 < 152) hN) (by decide) (by decide) (fun _ _ _ => rfl) (fun hs => hs 107 63 140 rfl) (dOk_at dt_X10_put 32 rfl) ?_
      refine j_iload_n hC 3 rfl rfl (dOk_at dt_X10_put 33 rfl) ?_
      refine j_iald hC (show shp 140 = (21, 10) from rfl) (Nat.lt_of_lt_of_le (Nat.le_of_ble_eq_true rfl : 140 < 152) hN) (dOk_at dt_X10_put 34 rfl) ?_
      refine j_iast hC St_SP h1 (jlt hN h1 (by decide)) (dOk_at dt_X10_put 35 rfl) ?_
      refine j_aload_n hC 1 rfl rfl (dOk_at dt_X10_put 36 rfl) ?_
      refine j_iload_n hC 2 rfl rfl (dOk_at dt_X10_put 37 rfl) ?_
      refine j_bipush hC (v := (15 : Int32)) rfl (dOk_at dt_X10_put 38 rfl) ?_
      refine j_iadd hC (dOk_at dt_X10_put 39 rfl) ?_
      refine j_iload_n hC 3 rfl rfl (dOk_at dt_X10_put 40 rfl) ?_
      refine j_iadd hC (dOk_at dt_X10_put 41 rfl) ?_
      refine j_aload_n hC 0 rfl rfl (dOk_at dt_X10_put 42 rfl) ?_
      refine j_getR hC flX10_115 (show shp 107 = (10, 88) from rfl) (Nat.lt_of_lt_of_le (Nat.le_of_ble_eq_true rfl : 107 < 152) hN) (by decide) (by decide) (fun _ _ _ => rfl) (fun hs => hs 107 64 141 rfl) (dOk_at dt_X10_put 43 rfl) ?_
      refine j_iload_n hC 3 rfl rfl (dOk_at dt_X10_put 44 rfl) ?_
      refine j_iald hC (show shp 141 = (21, 10) from rfl) (Nat.lt_of_lt_of_le (Nat.le_of_ble_eq_true rfl : 141 < 152) hN) (dOk_at dt_X10_put 45 rfl) ?_
      refine j_iast hC St_SP h1 (jlt hN h1 (by decide)) (dOk_at dt_X10_put 46 rfl) ?_
      refine j_iinc hC (v := (x3 + (1 : Int32))) (lv' := [(3, .int (x3 + (1 : Int32))), (0, .ref 107), (1, .ref r1), (2, .int x2)]) 3 rfl (congrArg (fun z => x3 + z) (show Int32.ofInt (1) = (1 : Int32) from by decide)) (by decide) rfl (dOk_at dt_X10_put 47 rfl) ?_
      refine j_goto hC (tgt := 2) (by decide) (dOk_at dt_X10_put 48 rfl) ?_
      refine j_sub [1, 2, 3, 0] rfl ?_
      exact ih (uI (uI (uI (uI h r1 (Int32.toNatClampNeg (x2 + x3)) (hI h 137 (Int32.toNatClampNeg x3))) r1 (Int32.toNatClampNeg ((x2 + (5 : Int32)) + x3)) (hI (uI h r1 (Int32.toNatClampNeg (x2 + x3)) (hI h 137 (Int32.toNatClampNeg x3))) 139 (Int32.toNatClampNeg x3))) r1 (Int32.toNatClampNeg ((x2 + (10 : Int32)) + x3)) (hI (uI (uI h r1 (Int32.toNatClampNeg (x2 + x3)) (hI h 137 (Int32.toNatClampNeg x3))) r1 (Int32.toNatClampNeg ((x2 + (5 : Int32)) + x3)) (hI (uI h r1 (Int32.toNatClampNeg (x2 + x3)) (hI h 137 (Int32.toNatClampNeg x3))) 139 (Int32.toNatClampNeg x3))) 140 (Int32.toNatClampNeg x3))) r1 (Int32.toNatClampNeg ((x2 + (15 : Int32)) + x3)) (hI (uI (uI (uI h r1 (Int32.toNatClampNeg (x2 + x3)) (hI h 137 (Int32.toNatClampNeg x3))) r1 (Int32.toNatClampNeg ((x2 + (5 : Int32)) + x3)) (hI (uI h r1 (Int32.toNatClampNeg (x2 + x3)) (hI h 137 (Int32.toNatClampNeg x3))) 139 (Int32.toNatClampNeg x3))) r1 (Int32.toNatClampNeg ((x2 + (10 : Int32)) + x3)) (hI (uI (uI h r1 (Int32.toNatClampNeg (x2 + x3)) (hI h 137 (Int32.toNatClampNeg x3))) r1 (Int32.toNatClampNeg ((x2 + (5 : Int32)) + x3)) (hI (uI h r1 (Int32.toNatClampNeg (x2 + x3)) (hI h 137 (Int32.toNatClampNeg x3))) 139 (Int32.toNatClampNeg x3))) 140 (Int32.toNatClampNeg x3))) 141 (Int32.toNatClampNeg x3))) x2 (x3 + (1 : Int32)) 
  unfold fX10_put
  refine j_iconst hC (v := (0 : Int32)) rfl (dOk_at dt_X10_put 0 rfl) ?_
  refine j_istore_n hC rfl (lv' := [(3, .int (0 : Int32)), (0, .ref 107), (1, .ref r1), (2, .int x2)]) (by decide) rfl (dOk_at dt_X10_put 1 rfl) ?_
  refine j_sub [1, 2, 3, 0] rfl ?_
  exact b2 FU h x2 (0 : Int32) 
def tb_X10_remember : List (Nat × Instr × Nat) := [(0, .aload_n 0, 1), (1, .getfield 398, 3), (4, .bipush 20, 2), (6, .if_icmp .ne 43, 3), (9, .iconst 0, 1), (10, .istore_n 1, 1), (11, .iload_n 1, 1), (12, .sipush 380, 3), (15, .if_icmp .ge 24, 3), (18, .aload_n 0, 1), (19, .getfield 142, 3), (22, .iload_n 1, 1), (23, .aload_n 0, 1), (24, .getfield 142, 3), (27, .iload_n 1, 1), (28, .bipush 20, 2), (30, .iadd, 1), (31, .iaload, 1), (32, .iastore, 1), (33, .iinc 1 1, 3), (36, .goto (-25), 3), (39, .aload_n 0, 1), (40, .dup, 1), (41, .getfield 398, 3), (44, .iconst 1, 1), (45, .isub, 1), (46, .putfield 398, 3), (49, .aload_n 0, 1), (50, .aload_n 0, 1), (51, .getfield 142, 3), (54, .bipush 20, 2), (56, .aload_n 0, 1), (57, .getfield 398, 3), (60, .imul, 1), (61, .invokevirtual 554, 3), (64, .aload_n 0, 1), (65, .dup, 1), (66, .getfield 398, 3), (69, .iconst 1, 1), (70, .iadd, 1), (71, .putfield 398, 3), (74, .return_, 1)]
theorem dt_X10_remember : dOk cX10_remember tb_X10_remember = true := by decide +kernel
def fX10_remember_49 (h : Hp) : Option (Hp) := (fX10_put 149 400 h ((20 : Int32) * (hI h 107 80))).bind (fun h_3 => some (uI h_3 107 80 ((hI h_3 107 80) + (1 : Int32))))
def fX10_remember_11 : Nat → Hp → Int32 → Option (Hp)
  | 0, _, _ => none
  | fu + 1, h, x1 => if (380 : Int32) ≤ x1 then (fX10_remember_49 (uI h 107 80 ((hI h 107 80) - (1 : Int32)))) else (if inb (x1 + (20 : Int32)) 400 then (if inb x1 400 then ((fX10_remember_11 fu) (uI h 149 (Int32.toNatClampNeg x1) (hI h 149 (Int32.toNatClampNeg (x1 + (20 : Int32))))) (x1 + (1 : Int32))) else none) else none)
def fX10_remember (h : Hp) : Option (Hp) := if (hI h 107 80) = (20 : Int32) then (fX10_remember_11 FU h (0 : Int32)) else (fX10_remember_49 h)
set_option maxRecDepth 100000 in
set_option maxHeartbeats 4000000 in
theorem c_X10_remember {l : Launch} {sb : State} {D : va_G} {ids : Nat → ClassId} {n : Nat} (hN : 152 ≤ n) (h : Hp) (r : Hp) (hr : fX10_remember h = some r) : jM l yX10_remember cX10_remember 2 none 1 sb D ids shp St n [.ref 107] h (jQv sb D ids shp St n r) := by
  refine jM_of hr rfl (Nat.le_of_ble_eq_true rfl) ?_
  intro p e s m args below meth c hC hret
  have b49 : ∀ (h : Hp) , jJ p l e (rmD 1) s m args below meth c 2 sb D ids shp St (fun r => MQ below (jQv sb D ids shp St n r) args s 0 0 (jA sb)) n 0 0 h 49 [(0, .ref 107)] [] (fX10_remember_49 h ) := by
    intro h 
    unfold fX10_remember_49
    refine j_aload_n hC 0 rfl rfl (dOk_at dt_X10_remember 27 rfl) ?_
    refine j_aload_n hC 0 rfl rfl (dOk_at dt_X10_remember 28 rfl) ?_
    refine j_getR hC flX10_142 (show shp 107 = (10, 88) from rfl) (Nat.lt_of_lt_of_le (Nat.le_of_ble_eq_true rfl : 107 < 152) hN) (by decide) (by decide) (fun _ _ _ => rfl) (fun hs => hs 107 81 149 rfl) (dOk_at dt_X10_remember 29 rfl) ?_
    refine j_bipush hC (v := (20 : Int32)) rfl (dOk_at dt_X10_remember 30 rfl) ?_
    refine j_aload_n hC 0 rfl rfl (dOk_at dt_X10_remember 31 rfl) ?_
    refine j_getI hC flX10_398 (show shp 107 = (10, 88) from rfl) (Nat.lt_of_lt_of_le (Nat.le_of_ble_eq_true rfl : 107 < 152) hN) (by decide) (by decide) (fun _ _ _ => rfl) (dOk_at dt_X10_remember 32 rfl) ?_
    refine j_imul hC (dOk_at dt_X10_remember 33 rfl) ?_
    refine j_callVv hC clX10_554 (fun rz hrz => c_X10_put hN ((show shp 149 = (21, 400) from rfl)) _ _ rz hrz) (show shp 107 = (10, 88) from rfl) (Nat.lt_of_lt_of_le (Nat.le_of_ble_eq_true rfl : 107 < 152) hN) (by decide) rfl rfl ⟨Nat.le_of_ble_eq_true rfl, Nat.le_of_ble_eq_true rfl⟩ ⟨Nat.le_refl 0, Nat.le_refl 0⟩ (As := [.ref 149, .int ((20 : Int32) * (hI h 107 80))]) (st := []) rfl (Nat.le_of_ble_eq_true rfl) (dOk_at dt_X10_remember 34 rfl) (fun h_3 _ => ?_)
    refine j_aload_n hC 0 rfl rfl (dOk_at dt_X10_remember 35 rfl) ?_
    refine j_dupr hC (dOk_at dt_X10_remember 36 rfl) ?_
    refine j_getI hC flX10_398 (show shp 107 = (10, 88) from rfl) (Nat.lt_of_lt_of_le (Nat.le_of_ble_eq_true rfl : 107 < 152) hN) (by decide) (by decide) (fun _ _ _ => rfl) (dOk_at dt_X10_remember 37 rfl) ?_
    refine j_iconst hC (v := (1 : Int32)) rfl (dOk_at dt_X10_remember 38 rfl) ?_
    refine j_iadd hC (dOk_at dt_X10_remember 39 rfl) ?_
    refine j_putI hC St_SP flX10_398 (show shp 107 = (10, 88) from rfl) (Nat.lt_of_lt_of_le (Nat.le_of_ble_eq_true rfl : 107 < 152) hN) (by decide) (by decide) rfl rfl (dOk_at dt_X10_remember 40 rfl) ?_
    exact j_vret hC hret (dOk_at dt_X10_remember 41 rfl)
  have b11 : ∀ (fu : Nat) (h : Hp) (x1 : Int32) , jJ p l e (rmD 1) s m args below meth c 2 sb D ids shp St (fun r => MQ below (jQv sb D ids shp St n r) args s 0 0 (jA sb)) n 0 0 h 11 [(0, .ref 107), (1, .int x1)] [] (fX10_remember_11 fu h x1) := by
    intro fu 
    induction fu with
    | zero => intro h x1 ; exact j_none
    | succ fu ih =>
    intro h x1 
    rw [fX10_remember_11]
    refine j_iload_n hC 1 rfl rfl (dOk_at dt_X10_remember 6 rfl) ?_
    refine j_sipush hC (v := (380 : Int32)) rfl (dOk_at dt_X10_remember 7 rfl) ?_
    refine j_icmp_ge hC (tgt := 39) (by decide) (dOk_at dt_X10_remember 8 rfl) (fun q_4 => ?_) (fun q_4 => ?_)
    · refine j_aload_n hC 0 rfl rfl (dOk_at dt_X10_remember 21 rfl) ?_
      refine j_dupr hC (dOk_at dt_X10_remember 22 rfl) ?_
      refine j_getI hC flX10_398 (show shp 107 = (10, 88) from rfl) (Nat.lt_of_lt_of_le (Nat.le_of_ble_eq_true rfl : 107 < 152) hN) (by decide) (by decide) (fun _ _ _ => rfl) (dOk_at dt_X10_remember 23 rfl) ?_
      refine j_iconst hC (v := (1 : Int32)) rfl (dOk_at dt_X10_remember 24 rfl) ?_
      refine j_isub hC (dOk_at dt_X10_remember 25 rfl) ?_
      refine j_putI hC St_SP flX10_398 (show shp 107 = (10, 88) from rfl) (Nat.lt_of_lt_of_le (Nat.le_of_ble_eq_true rfl : 107 < 152) hN) (by decide) (by decide) rfl rfl (dOk_at dt_X10_remember 26 rfl) ?_
      refine j_sub [0] rfl ?_
      exact b49 (uI h 107 80 ((hI h 107 80) - (1 : Int32))) 
    · refine j_aload_n hC 0 rfl rfl (dOk_at dt_X10_remember 9 rfl) ?_
      refine j_getR hC flX10_142 (show shp 107 = (10, 88) from rfl) (Nat.lt_of_lt_of_le (Nat.le_of_ble_eq_true rfl : 107 < 152) hN) (by decide) (by decide) (fun _ _ _ => rfl) (fun hs => hs 107 81 149 rfl) (dOk_at dt_X10_remember 10 rfl) ?_
      refine j_iload_n hC 1 rfl rfl (dOk_at dt_X10_remember 11 rfl) ?_
      refine j_aload_n hC 0 rfl rfl (dOk_at dt_X10_remember 12 rfl) ?_
      refine j_getR hC flX10_142 (show shp 107 = (10, 88) from rfl) (Nat.lt_of_lt_of_le (Nat.le_of_ble_eq_true rfl : 107 < 152) hN) (by decide) (by decide) (fun _ _ _ => rfl) (fun hs => hs 107 81 149 rfl) (dOk_at dt_X10_remember 13 rfl) ?_
      refine j_iload_n hC 1 rfl rfl (dOk_at dt_X10_remember 14 rfl) ?_
      refine j_bipush hC (v := (20 : Int32)) rfl (dOk_at dt_X10_remember 15 rfl) ?_
      refine j_iadd hC (dOk_at dt_X10_remember 16 rfl) ?_
      refine j_iald hC (show shp 149 = (21, 400) from rfl) (Nat.lt_of_lt_of_le (Nat.le_of_ble_eq_true rfl : 149 < 152) hN) (dOk_at dt_X10_remember 17 rfl) ?_
      refine j_iast hC St_SP (show shp 149 = (21, 400) from rfl) (Nat.lt_of_lt_of_le (Nat.le_of_ble_eq_true rfl : 149 < 152) hN) (dOk_at dt_X10_remember 18 rfl) ?_
      refine j_iinc hC (v := (x1 + (1 : Int32))) (lv' := [(1, .int (x1 + (1 : Int32))), (0, .ref 107)]) 1 rfl (congrArg (fun z => x1 + z) (show Int32.ofInt (1) = (1 : Int32) from by decide)) (by decide) rfl (dOk_at dt_X10_remember 19 rfl) ?_
      refine j_goto hC (tgt := 11) (by decide) (dOk_at dt_X10_remember 20 rfl) ?_
      refine j_sub [1, 0] rfl ?_
      exact ih (uI h 149 (Int32.toNatClampNeg x1) (hI h 149 (Int32.toNatClampNeg (x1 + (20 : Int32))))) (x1 + (1 : Int32)) 
  unfold fX10_remember
  refine j_aload_n hC 0 rfl rfl (dOk_at dt_X10_remember 0 rfl) ?_
  refine j_getI hC flX10_398 (show shp 107 = (10, 88) from rfl) (Nat.lt_of_lt_of_le (Nat.le_of_ble_eq_true rfl : 107 < 152) hN) (by decide) (by decide) (fun _ _ _ => rfl) (dOk_at dt_X10_remember 1 rfl) ?_
  refine j_bipush hC (v := (20 : Int32)) rfl (dOk_at dt_X10_remember 2 rfl) ?_
  refine j_icmp_ne hC (tgt := 49) (by decide) (dOk_at dt_X10_remember 3 rfl) (fun q_1 => ?_) (fun q_1 => ?_)
  · exact b49 h 
  · refine j_iconst hC (v := (0 : Int32)) rfl (dOk_at dt_X10_remember 4 rfl) ?_
    refine j_istore_n hC rfl (lv' := [(1, .int (0 : Int32)), (0, .ref 107)]) (by decide) rfl (dOk_at dt_X10_remember 5 rfl) ?_
    refine j_sub [1, 0] rfl ?_
    exact b11 FU h (0 : Int32) 
def tb_X10_debate : List (Nat × Instr × Nat) := [(0, .aload_n 0, 1), (1, .iconst 0, 1), (2, .putfield 157, 3), (5, .aload_n 0, 1), (6, .iload_n 1, 1), (7, .invokevirtual 480, 3), (10, .ifCond .eq 11, 3), (13, .aload_n 0, 1), (14, .iload_n 2, 1), (15, .invokevirtual 477, 3), (18, .ifCond .ne 5, 3), (21, .iconst (-1), 1), (22, .ireturn, 1), (23, .aload_n 0, 1), (24, .getfield 106, 3), (27, .iload_n 2, 1), (28, .baload, 1), (29, .ifCond .eq 6, 3), (32, .bipush (-2), 2), (34, .ireturn, 1), (35, .aload_n 0, 1), (36, .invokevirtual 392, 3), (39, .aload_n 0, 1), (40, .invokevirtual 485, 3), (43, .aload_n 0, 1), (44, .iconst 0, 1), (45, .iload_n 1, 1), (46, .iload_n 2, 1), (47, .invokevirtual 456, 3), (50, .ifCond .eq 7, 3), (53, .iconst 1, 1), (54, .goto 4, 3), (57, .iconst 0, 1), (58, .ireturn, 1)]
theorem dt_X10_debate : dOk cX10_debate tb_X10_debate = true := by decide +kernel
def fX10_debate (h : Hp) (x1 : Int32) (x2 : Int32) : Option (Int32 × Hp) := bnd (fX10_isMember (uI h 107 2 (0 : Int32)) x1) (fun v_1 h_2 => if v_1 = 0 then (some ((-1 : Int32), h_2)) else (bnd (fX10_isStraw h_2 x2) (fun v_4 h_5 => if v_4 = 0 then (some ((-1 : Int32), h_5)) else (if inb x2 10 then (if (hI h_5 138 (Int32.toNatClampNeg x2)) = 0 then ((fX10_plainTried h_5).bind (fun h_9 => (fX10_remember h_9).bind (fun h_11 => bnd (fX10_debatesOne h_11 (0 : Int32) x1 x2) (fun v_12 h_13 => if v_12 = 0 then (some ((0 : Int32), h_13)) else (some ((1 : Int32), h_13)))))) else (some ((-2 : Int32), h_5))) else none))))
set_option maxRecDepth 100000 in
set_option maxHeartbeats 4000000 in
theorem c_X10_debate {l : Launch} {sb : State} {D : va_G} {ids : Nat → ClassId} {n : Nat} (hN : 152 ≤ n) (h : Hp) (x1 : Int32) (x2 : Int32) (r : Int32 × Hp) (hr : fX10_debate h x1 x2 = some r) : jM l yX10_debate cX10_debate 3 (some .int) 7 sb D ids shp St n [.ref 107, .int x1, .int x2] h (jQi sb D ids shp St n r) := by
  refine jM_of hr rfl (Nat.le_of_ble_eq_true rfl) ?_
  intro p e s m args below meth c hC hret
  unfold fX10_debate
  refine j_aload_n hC 0 rfl rfl (dOk_at dt_X10_debate 0 rfl) ?_
  refine j_iconst hC (v := (0 : Int32)) rfl (dOk_at dt_X10_debate 1 rfl) ?_
  refine j_putI hC St_SP flX10_157 (show shp 107 = (10, 88) from rfl) (Nat.lt_of_lt_of_le (Nat.le_of_ble_eq_true rfl : 107 < 152) hN) (by decide) (by decide) rfl rfl (dOk_at dt_X10_debate 2 rfl) ?_
  refine j_aload_n hC 0 rfl rfl (dOk_at dt_X10_debate 3 rfl) ?_
  refine j_iload_n hC 1 rfl rfl (dOk_at dt_X10_debate 4 rfl) ?_
  refine j_callVi hC clX10_480 (fun rz hrz => c_X10_isMember hN _ _ rz hrz) (show shp 107 = (10, 88) from rfl) (Nat.lt_of_lt_of_le (Nat.le_of_ble_eq_true rfl : 107 < 152) hN) (by decide) rfl rfl ⟨Nat.le_of_ble_eq_true rfl, Nat.le_of_ble_eq_true rfl⟩ ⟨Nat.le_refl 0, Nat.le_refl 0⟩ (As := [.int x1]) (st := []) rfl (Nat.le_of_ble_eq_true rfl) (dOk_at dt_X10_debate 5 rfl) (fun v_1 h_2 _ => ?_)
  refine j_if_eq hC (tgt := 21) (by decide) (dOk_at dt_X10_debate 6 rfl) (fun q_3 => ?_) (fun q_3 => ?_)
  · refine j_iconst hC (v := (-1 : Int32)) rfl (dOk_at dt_X10_debate 11 rfl) ?_
    exact j_iret hC hret (dOk_at dt_X10_debate 12 rfl)
  · refine j_aload_n hC 0 rfl rfl (dOk_at dt_X10_debate 7 rfl) ?_
    refine j_iload_n hC 2 rfl rfl (dOk_at dt_X10_debate 8 rfl) ?_
    refine j_callVi hC clX10_477 (fun rz hrz => c_X10_isStraw hN _ _ rz hrz) (show shp 107 = (10, 88) from rfl) (Nat.lt_of_lt_of_le (Nat.le_of_ble_eq_true rfl : 107 < 152) hN) (by decide) rfl rfl ⟨Nat.le_of_ble_eq_true rfl, Nat.le_of_ble_eq_true rfl⟩ ⟨Nat.le_refl 0, Nat.le_refl 0⟩ (As := [.int x2]) (st := []) rfl (Nat.le_of_ble_eq_true rfl) (dOk_at dt_X10_debate 9 rfl) (fun v_4 h_5 _ => ?_)
    refine j_if_ne hC (tgt := 23) (by decide) (dOk_at dt_X10_debate 10 rfl) (fun q_6 => ?_) (fun q_6 => ?_)
    · refine j_aload_n hC 0 rfl rfl (dOk_at dt_X10_debate 13 rfl) ?_
      refine j_getR hC flX10_106 (show shp 107 = (10, 88) from rfl) (Nat.lt_of_lt_of_le (Nat.le_of_ble_eq_true rfl : 107 < 152) hN) (by decide) (by decide) (fun _ _ _ => rfl) (fun hs => hs 107 61 138 rfl) (dOk_at dt_X10_debate 14 rfl) ?_
      refine j_iload_n hC 2 rfl rfl (dOk_at dt_X10_debate 15 rfl) ?_
      refine j_zald hC (show shp 138 = (23, 10) from rfl) (Nat.lt_of_lt_of_le (Nat.le_of_ble_eq_true rfl : 138 < 152) hN) (dOk_at dt_X10_debate 16 rfl) ?_
      refine j_if_eq hC (tgt := 35) (by decide) (dOk_at dt_X10_debate 17 rfl) (fun q_7 => ?_) (fun q_7 => ?_)
      · refine j_aload_n hC 0 rfl rfl (dOk_at dt_X10_debate 20 rfl) ?_
        refine j_callVv hC clX10_392 (fun rz hrz => c_X10_plainTried hN _ rz hrz) (show shp 107 = (10, 88) from rfl) (Nat.lt_of_lt_of_le (Nat.le_of_ble_eq_true rfl : 107 < 152) hN) (by decide) rfl rfl ⟨Nat.le_of_ble_eq_true rfl, Nat.le_of_ble_eq_true rfl⟩ ⟨Nat.le_refl 0, Nat.le_refl 0⟩ (As := []) (st := []) rfl (Nat.le_of_ble_eq_true rfl) (dOk_at dt_X10_debate 21 rfl) (fun h_9 _ => ?_)
        refine j_aload_n hC 0 rfl rfl (dOk_at dt_X10_debate 22 rfl) ?_
        refine j_callVv hC clX10_485 (fun rz hrz => c_X10_remember hN _ rz hrz) (show shp 107 = (10, 88) from rfl) (Nat.lt_of_lt_of_le (Nat.le_of_ble_eq_true rfl : 107 < 152) hN) (by decide) rfl rfl ⟨Nat.le_of_ble_eq_true rfl, Nat.le_of_ble_eq_true rfl⟩ ⟨Nat.le_refl 0, Nat.le_refl 0⟩ (As := []) (st := []) rfl (Nat.le_of_ble_eq_true rfl) (dOk_at dt_X10_debate 23 rfl) (fun h_11 _ => ?_)
        refine j_aload_n hC 0 rfl rfl (dOk_at dt_X10_debate 24 rfl) ?_
        refine j_iconst hC (v := (0 : Int32)) rfl (dOk_at dt_X10_debate 25 rfl) ?_
        refine j_iload_n hC 1 rfl rfl (dOk_at dt_X10_debate 26 rfl) ?_
        refine j_iload_n hC 2 rfl rfl (dOk_at dt_X10_debate 27 rfl) ?_
        refine j_callVi hC clX10_456 (fun rz hrz => c_X10_debatesOne hN _ _ _ _ rz hrz) (show shp 107 = (10, 88) from rfl) (Nat.lt_of_lt_of_le (Nat.le_of_ble_eq_true rfl : 107 < 152) hN) (by decide) rfl rfl ⟨Nat.le_of_ble_eq_true rfl, Nat.le_of_ble_eq_true rfl⟩ ⟨Nat.le_refl 0, Nat.le_refl 0⟩ (As := [.int (0 : Int32), .int x1, .int x2]) (st := []) rfl (Nat.le_of_ble_eq_true rfl) (dOk_at dt_X10_debate 28 rfl) (fun v_12 h_13 _ => ?_)
        refine j_if_eq hC (tgt := 57) (by decide) (dOk_at dt_X10_debate 29 rfl) (fun q_14 => ?_) (fun q_14 => ?_)
        · refine j_iconst hC (v := (0 : Int32)) rfl (dOk_at dt_X10_debate 32 rfl) ?_
          exact j_iret hC hret (dOk_at dt_X10_debate 33 rfl)
        · refine j_iconst hC (v := (1 : Int32)) rfl (dOk_at dt_X10_debate 30 rfl) ?_
          refine j_goto hC (tgt := 58) (by decide) (dOk_at dt_X10_debate 31 rfl) ?_
          exact j_iret hC hret (dOk_at dt_X10_debate 33 rfl)
      · refine j_bipush hC (v := (-2 : Int32)) rfl (dOk_at dt_X10_debate 18 rfl) ?_
        exact j_iret hC hret (dOk_at dt_X10_debate 19 rfl)
    · refine j_iconst hC (v := (-1 : Int32)) rfl (dOk_at dt_X10_debate 11 rfl) ?_
      exact j_iret hC hret (dOk_at dt_X10_debate 12 rfl)
def tb_X10_take : List (Nat × Instr × Nat) := [(0, .aload_n 0, 1), (1, .iconst 0, 1), (2, .putfield 157, 3), (5, .aload_n 0, 1), (6, .iload_n 1, 1), (7, .invokevirtual 480, 3), (10, .ifCond .eq 24, 3), (13, .aload_n 0, 1), (14, .iload_n 2, 1), (15, .invokevirtual 465, 3), (18, .ifCond .eq 16, 3), (21, .aload_n 0, 1), (22, .getfield 109, 3), (25, .iload_n 1, 1), (26, .iaload, 1), (27, .iload_n 2, 1), (28, .invokestatic 282, 3), (31, .ifCond .eq 5, 3), (34, .iconst (-1), 1), (35, .ireturn, 1), (36, .aload_n 0, 1), (37, .invokevirtual 485, 3), (40, .aload_n 0, 1), (41, .getfield 109, 3), (44, .iload_n 1, 1), (45, .dup2, 1), (46, .iaload, 1), (47, .iconst 1, 1), (48, .iload_n 2, 1), (49, .ishl, 1), (50, .ior, 1), (51, .iastore, 1), (52, .aload_n 0, 1), (53, .getfield 109, 3), (56, .iload_n 1, 1), (57, .iaload, 1), (58, .invokestatic 423, 3), (61, .ireturn, 1)]
theorem dt_X10_take : dOk cX10_take tb_X10_take = true := by decide +kernel
def fX10_take (h : Hp) (x1 : Int32) (x2 : Int32) : Option (Int32 × Hp) := bnd (fX10_isMember (uI h 107 2 (0 : Int32)) x1) (fun v_1 h_2 => if v_1 = 0 then (some ((-1 : Int32), h_2)) else (bnd (fX10_isClaim h_2 x2) (fun v_4 h_5 => if v_4 = 0 then (some ((-1 : Int32), h_5)) else (if inb x1 10 then (bnd (fX10_isOf h_5 (hI h_5 139 (Int32.toNatClampNeg x1)) x2) (fun v_7 h_8 => if v_7 = 0 then ((fX10_remember h_8).bind (fun h_11 => if inb x1 10 then (if inb x1 10 then (if inb x1 10 then (bnd (fX10_manyOf (uI h_11 139 (Int32.toNatClampNeg x1) ((hI h_11 139 (Int32.toNatClampNeg x1)) ||| ((1 : Int32) <<< (x2 &&& 31)))) (hI (uI h_11 139 (Int32.toNatClampNeg x1) ((hI h_11 139 (Int32.toNatClampNeg x1)) ||| ((1 : Int32) <<< (x2 &&& 31)))) 139 (Int32.toNatClampNeg x1))) (fun v_12 h_13 => some (v_12, h_13))) else none) else none) else none)) else (some ((-1 : Int32), h_8)))) else none))))
set_option maxRecDepth 100000 in
set_option maxHeartbeats 4000000 in
theorem c_X10_take {l : Launch} {sb : State} {D : va_G} {ids : Nat → ClassId} {n : Nat} (hN : 152 ≤ n) (h : Hp) (x1 : Int32) (x2 : Int32) (r : Int32 × Hp) (hr : fX10_take h x1 x2 = some r) : jM l yX10_take cX10_take 3 (some .int) 2 sb D ids shp St n [.ref 107, .int x1, .int x2] h (jQi sb D ids shp St n r) := by
  refine jM_of hr rfl (Nat.le_of_ble_eq_true rfl) ?_
  intro p e s m args below meth c hC hret
  unfold fX10_take
  refine j_aload_n hC 0 rfl rfl (dOk_at dt_X10_take 0 rfl) ?_
  refine j_iconst hC (v := (0 : Int32)) rfl (dOk_at dt_X10_take 1 rfl) ?_
  refine j_putI hC St_SP flX10_157 (show shp 107 = (10, 88) from rfl) (Nat.lt_of_lt_of_le (Nat.le_of_ble_eq_true rfl : 107 < 152) hN) (by decide) (by decide) rfl rfl (dOk_at dt_X10_take 2 rfl) ?_
  refine j_aload_n hC 0 rfl rfl (dOk_at dt_X10_take 3 rfl) ?_
  refine j_iload_n hC 1 rfl rfl (dOk_at dt_X10_take 4 rfl) ?_
  refine j_callVi hC clX10_480 (fun rz hrz => c_X10_isMember hN _ _ rz hrz) (show shp 107 = (10, 88) from rfl) (Nat.lt_of_lt_of_le (Nat.le_of_ble_eq_true rfl : 107 < 152) hN) (by decide) rfl rfl ⟨Nat.le_of_ble_eq_true rfl, Nat.le_of_ble_eq_true rfl⟩ ⟨Nat.le_refl 0, Nat.le_refl 0⟩ (As := [.int x1]) (st := []) rfl (Nat.le_of_ble_eq_true rfl) (dOk_at dt_X10_take 5 rfl) (fun v_1 h_2 _ => ?_)
  refine j_if_eq hC (tgt := 34) (by decide) (dOk_at dt_X10_take 6 rfl) (fun q_3 => ?_) (fun q_3 => ?_)
  · refine j_iconst hC (v := (-1 : Int32)) rfl (dOk_at dt_X10_take 18 rfl) ?_
    exact j_iret hC hret (dOk_at dt_X10_take 19 rfl)
  · refine j_aload_n hC 0 rfl rfl (dOk_at dt_X10_take 7 rfl) ?_
    refine j_iload_n hC 2 rfl rfl (dOk_at dt_X10_take 8 rfl) ?_
    refine j_callVi hC clX10_465 (fun rz hrz => c_X10_isClaim hN _ _ rz hrz) (show shp 107 = (10, 88) from rfl) (Nat.lt_of_lt_of_le (Nat.le_of_ble_eq_true rfl : 107 < 152) hN) (by decide) rfl rfl ⟨Nat.le_of_ble_eq_true rfl, Nat.le_of_ble_eq_true rfl⟩ ⟨Nat.le_refl 0, Nat.le_refl 0⟩ (As := [.int x2]) (st := []) rfl (Nat.le_of_ble_eq_true rfl) (dOk_at dt_X10_take 9 rfl) (fun v_4 h_5 _ => ?_)
    refine j_if_eq hC (tgt := 34) (by decide) (dOk_at dt_X10_take 10 rfl) (fun q_6 => ?_) (fun q_6 => ?_)
    · refine j_iconst hC (v := (-1 : Int32)) rfl (dOk_at dt_X10_take 18 rfl) ?_
      exact j_iret hC hret (dOk_at dt_X10_take 19 rfl)
    · refine j_aload_n hC 0 rfl rfl (dOk_at dt_X10_take 11 rfl) ?_
      refine j_getR hC flX10_109 (show shp 107 = (10, 88) from rfl) (Nat.lt_of_lt_of_le (Nat.le_of_ble_eq_true rfl : 107 < 152) hN) (by decide) (by decide) (fun _ _ _ => rfl) (fun hs => hs 107 62 139 rfl) (dOk_at dt_X10_take 12 rfl) ?_
      refine j_iload_n hC 1 rfl rfl (dOk_at dt_X10_take 13 rfl) ?_
      refine j_iald hC (show shp 139 = (21, 10) from rfl) (Nat.lt_of_lt_of_le (Nat.le_of_ble_eq_true rfl : 139 < 152) hN) (dOk_at dt_X10_take 14 rfl) ?_
      refine j_iload_n hC 2 rfl rfl (dOk_at dt_X10_take 15 rfl) ?_
      refine j_callSi hC clX10_282 (fun rz hrz => c_X10_isOf hN _ _ _ rz hrz) rfl ⟨Nat.le_of_ble_eq_true rfl, Nat.le_of_ble_eq_true rfl⟩ ⟨Nat.le_refl 0, Nat.le_refl 0⟩ (As := [.int (hI h_5 139 (Int32.toNatClampNeg x1)), .int x2]) (st := []) rfl (Nat.le_of_ble_eq_true rfl) (dOk_at dt_X10_take 16 rfl) (fun v_7 h_8 _ => ?_)
      refine j_if_eq hC (tgt := 36) (by decide) (dOk_at dt_X10_take 17 rfl) (fun q_9 => ?_) (fun q_9 => ?_)
      · refine j_aload_n hC 0 rfl rfl (dOk_at dt_X10_take 20 rfl) ?_
        refine j_callVv hC clX10_485 (fun rz hrz => c_X10_remember hN _ rz hrz) (show shp 107 = (10, 88) from rfl) (Nat.lt_of_lt_of_le (Nat.le_of_ble_eq_true rfl : 107 < 152) hN) (by decide) rfl rfl ⟨Nat.le_of_ble_eq_true rfl, Nat.le_of_ble_eq_true rfl⟩ ⟨Nat.le_refl 0, Nat.le_refl 0⟩ (As := []) (st := []) rfl (Nat.le_of_ble_eq_true rfl) (dOk_at dt_X10_take 21 rfl) (fun h_11 _ => ?_)
        refine j_aload_n hC 0 rfl rfl (dOk_at dt_X10_take 22 rfl) ?_
        refine j_getR hC flX10_109 (show shp 107 = (10, 88) from rfl) (Nat.lt_of_lt_of_le (Nat.le_of_ble_eq_true rfl : 107 < 152) hN) (by decide) (by decide) (fun _ _ _ => rfl) (fun hs => hs 107 62 139 rfl) (dOk_at dt_X10_take 23 rfl) ?_
        refine j_iload_n hC 1 rfl rfl (dOk_at dt_X10_take 24 rfl) ?_
        refine j_dup2 hC (dOk_at dt_X10_take 25 rfl) ?_
        refine j_iald hC (show shp 139 = (21, 10) from rfl) (Nat.lt_of_lt_of_le (Nat.le_of_ble_eq_true rfl : 139 < 152) hN) (dOk_at dt_X10_take 26 rfl) ?_
        refine j_iconst hC (v := (1 : Int32)) rfl (dOk_at dt_X10_take 27 rfl) ?_
        refine j_iload_n hC 2 rfl rfl (dOk_at dt_X10_take 28 rfl) ?_
        refine j_ishl hC (dOk_at dt_X10_take 29 rfl) ?_
        refine j_ior hC (dOk_at dt_X10_take 30 rfl) ?_
        refine j_iast hC St_SP (show shp 139 = (21, 10) from rfl) (Nat.lt_of_lt_of_le (Nat.le_of_ble_eq_true rfl : 139 < 152) hN) (dOk_at dt_X10_take 31 rfl) ?_
        refine j_aload_n hC 0 rfl rfl (dOk_at dt_X10_take 32 rfl) ?_
        refine j_getR hC flX10_109 (show shp 107 = (10, 88) from rfl) (Nat.lt_of_lt_of_le (Nat.le_of_ble_eq_true rfl : 107 < 152) hN) (by decide) (by decide) (fun _ _ _ => rfl) (fun hs => hs 107 62 139 rfl) (dOk_at dt_X10_take 33 rfl) ?_
        refine j_iload_n hC 1 rfl rfl (dOk_at dt_X10_take 34 rfl) ?_
        refine j_iald hC (show shp 139 = (21, 10) from rfl) (Nat.lt_of_lt_of_le (Nat.le_of_ble_eq_true rfl : 139 < 152) hN) (dOk_at dt_X10_take 35 rfl) ?_
        refine j_callSi hC clX10_423 (fun rz hrz => c_X10_manyOf hN _ _ rz hrz) rfl ⟨Nat.le_of_ble_eq_true rfl, Nat.le_of_ble_eq_true rfl⟩ ⟨Nat.le_refl 0, Nat.le_refl 0⟩ (As := [.int (hI (uI h_11 139 (Int32.toNatClampNeg x1) ((hI h_11 139 (Int32.toNatClampNeg x1)) ||| ((1 : Int32) <<< (x2 &&& 31)))) 139 (Int32.toNatClampNeg x1))]) (st := []) rfl (Nat.le_of_ble_eq_true rfl) (dOk_at dt_X10_take 36 rfl) (fun v_12 h_13 _ => ?_)
        exact j_iret hC hret (dOk_at dt_X10_take 37 rfl)
      · refine j_iconst hC (v := (-1 : Int32)) rfl (dOk_at dt_X10_take 18 rfl) ?_
        exact j_iret hC hret (dOk_at dt_X10_take 19 rfl)
def tb_X10_drop : List (Nat × Instr × Nat) := [(0, .aload_n 0, 1), (1, .iconst 0, 1), (2, .putfield 157, 3), (5, .aload_n 0, 1), (6, .iload_n 1, 1), (7, .invokevirtual 480, 3), (10, .ifCond .eq 24, 3), (13, .aload_n 0, 1), (14, .iload_n 2, 1), (15, .invokevirtual 465, 3), (18, .ifCond .eq 16, 3), (21, .aload_n 0, 1), (22, .getfield 109, 3), (25, .iload_n 1, 1), (26, .iaload, 1), (27, .iload_n 2, 1), (28, .invokestatic 282, 3), (31, .ifCond .ne 5, 3), (34, .iconst 0, 1), (35, .ireturn, 1), (36, .aload_n 0, 1), (37, .invokevirtual 485, 3), (40, .aload_n 0, 1), (41, .getfield 109, 3), (44, .iload_n 1, 1), (45, .dup2, 1), (46, .iaload, 1), (47, .iconst 1, 1), (48, .iload_n 2, 1), (49, .ishl, 1), (50, .iconst (-1), 1), (51, .ixor, 1), (52, .iand, 1), (53, .iastore, 1), (54, .iconst 1, 1), (55, .ireturn, 1)]
theorem dt_X10_drop : dOk cX10_drop tb_X10_drop = true := by decide +kernel
def fX10_drop (h : Hp) (x1 : Int32) (x2 : Int32) : Option (Int32 × Hp) := bnd (fX10_isMember (uI h 107 2 (0 : Int32)) x1) (fun v_1 h_2 => if v_1 = 0 then (some ((0 : Int32), h_2)) else (bnd (fX10_isClaim h_2 x2) (fun v_4 h_5 => if v_4 = 0 then (some ((0 : Int32), h_5)) else (if inb x1 10 then (bnd (fX10_isOf h_5 (hI h_5 139 (Int32.toNatClampNeg x1)) x2) (fun v_7 h_8 => if v_7 = 0 then (some ((0 : Int32), h_8)) else ((fX10_remember h_8).bind (fun h_11 => if inb x1 10 then (if inb x1 10 then (some ((1 : Int32), (uI h_11 139 (Int32.toNatClampNeg x1) ((hI h_11 139 (Int32.toNatClampNeg x1)) &&& (((1 : Int32) <<< (x2 &&& 31)) ^^^ (-1 : Int32)))))) else none) else none)))) else none))))
set_option maxRecDepth 100000 in
set_option maxHeartbeats 4000000 in
theorem c_X10_drop {l : Launch} {sb : State} {D : va_G} {ids : Nat → ClassId} {n : Nat} (hN : 152 ≤ n) (h : Hp) (x1 : Int32) (x2 : Int32) (r : Int32 × Hp) (hr : fX10_drop h x1 x2 = some r) : jM l yX10_drop cX10_drop 3 (some .boolean) 2 sb D ids shp St n [.ref 107, .int x1, .int x2] h (jQi sb D ids shp St n r) := by
  refine jM_of hr rfl (Nat.le_of_ble_eq_true rfl) ?_
  intro p e s m args below meth c hC hret
  unfold fX10_drop
  refine j_aload_n hC 0 rfl rfl (dOk_at dt_X10_drop 0 rfl) ?_
  refine j_iconst hC (v := (0 : Int32)) rfl (dOk_at dt_X10_drop 1 rfl) ?_
  refine j_putI hC St_SP flX10_157 (show shp 107 = (10, 88) from rfl) (Nat.lt_of_lt_of_le (Nat.le_of_ble_eq_true rfl : 107 < 152) hN) (by decide) (by decide) rfl rfl (dOk_at dt_X10_drop 2 rfl) ?_
  refine j_aload_n hC 0 rfl rfl (dOk_at dt_X10_drop 3 rfl) ?_
  refine j_iload_n hC 1 rfl rfl (dOk_at dt_X10_drop 4 rfl) ?_
  refine j_callVi hC clX10_480 (fun rz hrz => c_X10_isMember hN _ _ rz hrz) (show shp 107 = (10, 88) from rfl) (Nat.lt_of_lt_of_le (Nat.le_of_ble_eq_true rfl : 107 < 152) hN) (by decide) rfl rfl ⟨Nat.le_of_ble_eq_true rfl, Nat.le_of_ble_eq_true rfl⟩ ⟨Nat.le_refl 0, Nat.le_refl 0⟩ (As := [.int x1]) (st := []) rfl (Nat.le_of_ble_eq_true rfl) (dOk_at dt_X10_drop 5 rfl) (fun v_1 h_2 _ => ?_)
  refine j_if_eq hC (tgt := 34) (by decide) (dOk_at dt_X10_drop 6 rfl) (fun q_3 => ?_) (fun q_3 => ?_)
  · refine j_iconst hC (v := (0 : Int32)) rfl (dOk_at dt_X10_drop 18 rfl) ?_
    exact j_zretK hC hret rfl (dOk_at dt_X10_drop 19 rfl)
  · refine j_aload_n hC 0 rfl rfl (dOk_at dt_X10_drop 7 rfl) ?_
    refine j_iload_n hC 2 rfl rfl (dOk_at dt_X10_drop 8 rfl) ?_
    refine j_callVi hC clX10_465 (fun rz hrz => c_X10_isClaim hN _ _ rz hrz) (show shp 107 = (10, 88) from rfl) (Nat.lt_of_lt_of_le (Nat.le_of_ble_eq_true rfl : 107 < 152) hN) (by decide) rfl rfl ⟨Nat.le_of_ble_eq_true rfl, Nat.le_of_ble_eq_true rfl⟩ ⟨Nat.le_refl 0, Nat.le_refl 0⟩ (As := [.int x2]) (st := []) rfl (Nat.le_of_ble_eq_true rfl) (dOk_at dt_X10_drop 9 rfl) (fun v_4 h_5 _ => ?_)
    refine j_if_eq hC (tgt := 34) (by decide) (dOk_at dt_X10_drop 10 rfl) (fun q_6 => ?_) (fun q_6 => ?_)
    · refine j_iconst hC (v := (0 : Int32)) rfl (dOk_at dt_X10_drop 18 rfl) ?_
      exact j_zretK hC hret rfl (dOk_at dt_X10_drop 19 rfl)
    · refine j_aload_n hC 0 rfl rfl (dOk_at dt_X10_drop 11 rfl) ?_
      refine j_getR hC flX10_109 (show shp 107 = (10, 88) from rfl) (Nat.lt_of_lt_of_le (Nat.le_of_ble_eq_true rfl : 107 < 152) hN) (by decide) (by decide) (fun _ _ _ => rfl) (fun hs => hs 107 62 139 rfl) (dOk_at dt_X10_drop 12 rfl) ?_
      refine j_iload_n hC 1 rfl rfl (dOk_at dt_X10_drop 13 rfl) ?_
      refine j_iald hC (show shp 139 = (21, 10) from rfl) (Nat.lt_of_lt_of_le (Nat.le_of_ble_eq_true rfl : 139 < 152) hN) (dOk_at dt_X10_drop 14 rfl) ?_
      refine j_iload_n hC 2 rfl rfl (dOk_at dt_X10_drop 15 rfl) ?_
      refine j_callSi hC clX10_282 (fun rz hrz => c_X10_isOf hN _ _ _ rz hrz) rfl ⟨Nat.le_of_ble_eq_true rfl, Nat.le_of_ble_eq_true rfl⟩ ⟨Nat.le_refl 0, Nat.le_refl 0⟩ (As := [.int (hI h_5 139 (Int32.toNatClampNeg x1)), .int x2]) (st := []) rfl (Nat.le_of_ble_eq_true rfl) (dOk_at dt_X10_drop 16 rfl) (fun v_7 h_8 _ => ?_)
      refine j_if_ne hC (tgt := 36) (by decide) (dOk_at dt_X10_drop 17 rfl) (fun q_9 => ?_) (fun q_9 => ?_)
      · refine j_aload_n hC 0 rfl rfl (dOk_at dt_X10_drop 20 rfl) ?_
        refine j_callVv hC clX10_485 (fun rz hrz => c_X10_remember hN _ rz hrz) (show shp 107 = (10, 88) from rfl) (Nat.lt_of_lt_of_le (Nat.le_of_ble_eq_true rfl : 107 < 152) hN) (by decide) rfl rfl ⟨Nat.le_of_ble_eq_true rfl, Nat.le_of_ble_eq_true rfl⟩ ⟨Nat.le_refl 0, Nat.le_refl 0⟩ (As := []) (st := []) rfl (Nat.le_of_ble_eq_true rfl) (dOk_at dt_X10_drop 21 rfl) (fun h_11 _ => ?_)
        refine j_aload_n hC 0 rfl rfl (dOk_at dt_X10_drop 22 rfl) ?_
        refine j_getR hC flX10_109 (show shp 107 = (10, 88) from rfl) (Nat.lt_of_lt_of_le (Nat.le_of_ble_eq_true rfl : 107 < 152) hN) (by decide) (by decide) (fun _ _ _ => rfl) (fun hs => hs 107 62 139 rfl) (dOk_at dt_X10_drop 23 rfl) ?_
        refine j_iload_n hC 1 rfl rfl (dOk_at dt_X10_drop 24 rfl) ?_
        refine j_dup2 hC (dOk_at dt_X10_drop 25 rfl) ?_
        refine j_iald hC (show shp 139 = (21, 10) from rfl) (Nat.lt_of_lt_of_le (Nat.le_of_ble_eq_true rfl : 139 < 152) hN) (dOk_at dt_X10_drop 26 rfl) ?_
        refine j_iconst hC (v := (1 : Int32)) rfl (dOk_at dt_X10_drop 27 rfl) ?_
        refine j_iload_n hC 2 rfl rfl (dOk_at dt_X10_drop 28 rfl) ?_
        refine j_ishl hC (dOk_at dt_X10_drop 29 rfl) ?_
        refine j_iconst hC (v := (-1 : Int32)) rfl (dOk_at dt_X10_drop 30 rfl) ?_
        refine j_ixor hC (dOk_at dt_X10_drop 31 rfl) ?_
        refine j_iand hC (dOk_at dt_X10_drop 32 rfl) ?_
        refine j_iast hC St_SP (show shp 139 = (21, 10) from rfl) (Nat.lt_of_lt_of_le (Nat.le_of_ble_eq_true rfl : 139 < 152) hN) (dOk_at dt_X10_drop 33 rfl) ?_
        refine j_iconst hC (v := (1 : Int32)) rfl (dOk_at dt_X10_drop 34 rfl) ?_
        exact j_zretK hC hret rfl (dOk_at dt_X10_drop 35 rfl)
      · refine j_iconst hC (v := (0 : Int32)) rfl (dOk_at dt_X10_drop 18 rfl) ?_
        exact j_zretK hC hret rfl (dOk_at dt_X10_drop 19 rfl)
def tb_X10_go : List (Nat × Instr × Nat) := [(0, .aload_n 0, 1), (1, .iconst 0, 1), (2, .putfield 157, 3), (5, .iload_n 1, 1), (6, .iconst 0, 1), (7, .sipush 200, 3), (10, .invokestatic 202, 3), (13, .ifCond .eq 17, 3), (16, .aload_n 0, 1), (17, .getfield 121, 3), (20, .iconst 0, 1), (21, .iaload, 1), (22, .iload_n 1, 1), (23, .iadd, 1), (24, .sipush 9000, 3), (27, .if_icmp .le 5, 3), (30, .iconst (-1), 1), (31, .ireturn, 1), (32, .aload_n 0, 1), (33, .invokevirtual 392, 3), (36, .aload_n 0, 1), (37, .iconst 1, 1), (38, .putfield 404, 3), (41, .iconst 0, 1), (42, .istore_n 2, 1), (43, .iload_n 2, 1), (44, .iload_n 1, 1), (45, .if_icmp .ge 14, 3), (48, .aload_n 0, 1), (49, .iconst 0, 1), (50, .invokevirtual 462, 3), (53, .iinc 2 1, 3), (56, .goto (-13), 3), (59, .aload_n 0, 1), (60, .iconst 0, 1), (61, .putfield 404, 3), (64, .aload_n 0, 1), (65, .iload_n 1, 1), (66, .ifCond .le 7, 3), (69, .iconst 0, 1), (70, .goto 7, 3), (73, .aload_n 0, 1), (74, .getfield 398, 3), (77, .putfield 398, 3), (80, .aload_n 0, 1), (81, .getfield 121, 3), (84, .iconst 0, 1), (85, .iaload, 1), (86, .ireturn, 1)]
theorem dt_X10_go : dOk cX10_go tb_X10_go = true := by decide +kernel
def fX10_go_77 (h : Hp) (s1 : Int32) : Option (Int32 × Hp) := if inb (0 : Int32) 2 then (some ((hI (uI h 107 80 s1) 143 (Int32.toNatClampNeg (0 : Int32))), (uI h 107 80 s1))) else none
def fX10_go_43 : Nat → Hp → Int32 → Int32 → Option (Int32 × Hp)
  | 0, _, _, _ => none
  | fu + 1, h, x1, x2 => if x1 ≤ x2 then (if x1 ≤ 0 then (fX10_go_77 (uI h 107 68 (0 : Int32)) (hI (uI h 107 68 (0 : Int32)) 107 80)) else (fX10_go_77 (uI h 107 68 (0 : Int32)) (0 : Int32))) else ((fX10_nightGoes h (0 : Int32)).bind (fun h_10 => (fX10_go_43 fu) h_10 x1 (x2 + (1 : Int32))))
def fX10_go (h : Hp) (x1 : Int32) : Option (Int32 × Hp) := bnd (fX10_isIn (uI h 107 2 (0 : Int32)) x1 (0 : Int32) (200 : Int32)) (fun v_1 h_2 => if v_1 = 0 then (some ((-1 : Int32), h_2)) else (if inb (0 : Int32) 2 then (if ((hI h_2 143 (Int32.toNatClampNeg (0 : Int32))) + x1) ≤ (9000 : Int32) then ((fX10_plainTried h_2).bind (fun h_6 => fX10_go_43 FU (uI h_6 107 68 (1 : Int32)) x1 (0 : Int32))) else (some ((-1 : Int32), h_2))) else none))
set_option maxRecDepth 100000 in
set_option maxHeartbeats 4000000 in
theorem c_X10_go {l : Launch} {sb : State} {D : va_G} {ids : Nat → ClassId} {n : Nat} (hN : 152 ≤ n) (h : Hp) (x1 : Int32) (r : Int32 × Hp) (hr : fX10_go h x1 = some r) : jM l yX10_go cX10_go 3 (some .int) 8 sb D ids shp St n [.ref 107, .int x1] h (jQi sb D ids shp St n r) := by
  refine jM_of hr rfl (Nat.le_of_ble_eq_true rfl) ?_
  intro p e s m args below meth c hC hret
  have b77 : ∀ (h : Hp) (s1 : Int32) , jJ p l e (rmD 8) s m args below meth c 3 sb D ids shp St (fun r => MQ below (jQi sb D ids shp St n r) args s 0 0 (jA sb)) n 0 0 h 77 [(0, .ref 107)] [.int s1, .ref 107] (fX10_go_77 h s1) := by
    intro h s1 
    unfold fX10_go_77
    refine j_putI hC St_SP flX10_398 (show shp 107 = (10, 88) from rfl) (Nat.lt_of_lt_of_le (Nat.le_of_ble_eq_true rfl : 107 < 152) hN) (by decide) (by decide) rfl rfl (dOk_at dt_X10_go 43 rfl) ?_
    refine j_aload_n hC 0 rfl rfl (dOk_at dt_X10_go 44 rfl) ?_
    refine j_getR hC flX10_121 (show shp 107 = (10, 88) from rfl) (Nat.lt_of_lt_of_le (Nat.le_of_ble_eq_true rfl : 107 < 152) hN) (by decide) (by decide) (fun _ _ _ => rfl) (fun hs => hs 107 66 143 rfl) (dOk_at dt_X10_go 45 rfl) ?_
    refine j_iconst hC (v := (0 : Int32)) rfl (dOk_at dt_X10_go 46 rfl) ?_
    refine j_iald hC (show shp 143 = (21, 2) from rfl) (Nat.lt_of_lt_of_le (Nat.le_of_ble_eq_true rfl : 143 < 152) hN) (dOk_at dt_X10_go 47 rfl) ?_
    exact j_iret hC hret (dOk_at dt_X10_go 48 rfl)
  have b43 : ∀ (fu : Nat) (h : Hp) (x1 : Int32) (x2 : Int32) , jJ p l e (rmD 8) s m args below meth c 3 sb D ids shp St (fun r => MQ below (jQi sb D ids shp St n r) args s 0 0 (jA sb)) n 0 0 h 43 [(0, .ref 107), (1, .int x1), (2, .int x2)] [] (fX10_go_43 fu h x1 x2) := by
    intro fu 
    induction fu with
    | zero => intro h x1 x2 ; exact j_none
    | succ fu ih =>
    intro h x1 x2 
    rw [fX10_go_43]
    refine j_iload_n hC 2 rfl rfl (dOk_at dt_X10_go 25 rfl) ?_
    refine j_iload_n hC 1 rfl rfl (dOk_at dt_X10_go 26 rfl) ?_
    refine j_icmp_ge hC (tgt := 59) (by decide) (dOk_at dt_X10_go 27 rfl) (fun q_7 => ?_) (fun q_7 => ?_)
    · refine j_aload_n hC 0 rfl rfl (dOk_at dt_X10_go 33 rfl) ?_
      refine j_iconst hC (v := (0 : Int32)) rfl (dOk_at dt_X10_go 34 rfl) ?_
      refine j_putZ hC St_SP flX10_404 (show shp 107 = (10, 88) from rfl) (Nat.lt_of_lt_of_le (Nat.le_of_ble_eq_true rfl : 107 < 152) hN) (by decide) (by decide) rfl rfl rfl (dOk_at dt_X10_go 35 rfl) ?_
      refine j_aload_n hC 0 rfl rfl (dOk_at dt_X10_go 36 rfl) ?_
      refine j_iload_n hC 1 rfl rfl (dOk_at dt_X10_go 37 rfl) ?_
      refine j_if_le hC (tgt := 73) (by decide) (dOk_at dt_X10_go 38 rfl) (fun q_8 => ?_) (fun q_8 => ?_)
      · refine j_aload_n hC 0 rfl rfl (dOk_at dt_X10_go 41 rfl) ?_
        refine j_getI hC flX10_398 (show shp 107 = (10, 88) from rfl) (Nat.lt_of_lt_of_le (Nat.le_of_ble_eq_true rfl : 107 < 152) hN) (by decide) (by decide) (fun _ _ _ => rfl) (dOk_at dt_X10_go 42 rfl) ?_
        refine j_sub [0] rfl ?_
        exact b77 (uI h 107 68 (0 : Int32)) (hI (uI h 107 68 (0 : Int32)) 107 80) 
      · refine j_iconst hC (v := (0 : Int32)) rfl (dOk_at dt_X10_go 39 rfl) ?_
        refine j_goto hC (tgt := 77) (by decide) (dOk_at dt_X10_go 40 rfl) ?_
        refine j_sub [0] rfl ?_
        exact b77 (uI h 107 68 (0 : Int32)) (0 : Int32) 
    · refine j_aload_n hC 0 rfl rfl (dOk_at dt_X10_go 28 rfl) ?_
      refine j_iconst hC (v := (0 : Int32)) rfl (dOk_at dt_X10_go 29 rfl) ?_
      refine j_callVv hC clX10_462 (fun rz hrz => c_X10_nightGoes hN _ _ rz hrz) (show shp 107 = (10, 88) from rfl) (Nat.lt_of_lt_of_le (Nat.le_of_ble_eq_true rfl : 107 < 152) hN) (by decide) rfl rfl ⟨Nat.le_of_ble_eq_true rfl, Nat.le_of_ble_eq_true rfl⟩ ⟨Nat.le_refl 0, Nat.le_refl 0⟩ (As := [.int (0 : Int32)]) (st := []) rfl (Nat.le_of_ble_eq_true rfl) (dOk_at dt_X10_go 30 rfl) (fun h_10 _ => ?_)
      refine j_iinc hC (v := (x2 + (1 : Int32))) (lv' := [(2, .int (x2 + (1 : Int32))), (0, .ref 107), (1, .int x1)]) 2 rfl (congrArg (fun z => x2 + z) (show Int32.ofInt (1) = (1 : Int32) from by decide)) (by decide) rfl (dOk_at dt_X10_go 31 rfl) ?_
      refine j_goto hC (tgt := 43) (by decide) (dOk_at dt_X10_go 32 rfl) ?_
      refine j_sub [1, 2, 0] rfl ?_
      exact ih h_10 x1 (x2 + (1 : Int32)) 
  unfold fX10_go
  refine j_aload_n hC 0 rfl rfl (dOk_at dt_X10_go 0 rfl) ?_
  refine j_iconst hC (v := (0 : Int32)) rfl (dOk_at dt_X10_go 1 rfl) ?_
  refine j_putI hC St_SP flX10_157 (show shp 107 = (10, 88) from rfl) (Nat.lt_of_lt_of_le (Nat.le_of_ble_eq_true rfl : 107 < 152) hN) (by decide) (by decide) rfl rfl (dOk_at dt_X10_go 2 rfl) ?_
  refine j_iload_n hC 1 rfl rfl (dOk_at dt_X10_go 3 rfl) ?_
  refine j_iconst hC (v := (0 : Int32)) rfl (dOk_at dt_X10_go 4 rfl) ?_
  refine j_sipush hC (v := (200 : Int32)) rfl (dOk_at dt_X10_go 5 rfl) ?_
  refine j_callSi hC clX10_202 (fun rz hrz => c_X10_isIn hN _ _ _ _ rz hrz) rfl ⟨Nat.le_of_ble_eq_true rfl, Nat.le_of_ble_eq_true rfl⟩ ⟨Nat.le_refl 0, Nat.le_refl 0⟩ (As := [.int x1, .int (0 : Int32), .int (200 : Int32)]) (st := []) rfl (Nat.le_of_ble_eq_true rfl) (dOk_at dt_X10_go 6 rfl) (fun v_1 h_2 _ => ?_)
  refine j_if_eq hC (tgt := 30) (by decide) (dOk_at dt_X10_go 7 rfl) (fun q_3 => ?_) (fun q_3 => ?_)
  · refine j_iconst hC (v := (-1 : Int32)) rfl (dOk_at dt_X10_go 16 rfl) ?_
    exact j_iret hC hret (dOk_at dt_X10_go 17 rfl)
  · refine j_aload_n hC 0 rfl rfl (dOk_at dt_X10_go 8 rfl) ?_
    refine j_getR hC flX10_121 (show shp 107 = (10, 88) from rfl) (Nat.lt_of_lt_of_le (Nat.le_of_ble_eq_true rfl : 107 < 152) hN) (by decide) (by decide) (fun _ _ _ => rfl) (fun hs => hs 107 66 143 rfl) (dOk_at dt_X10_go 9 rfl) ?_
    refine j_iconst hC (v := (0 : Int32)) rfl (dOk_at dt_X10_go 10 rfl) ?_
    refine j_iald hC (show shp 143 = (21, 2) from rfl) (Nat.lt_of_lt_of_le (Nat.le_of_ble_eq_true rfl : 143 < 152) hN) (dOk_at dt_X10_go 11 rfl) ?_
    refine j_iload_n hC 1 rfl rfl (dOk_at dt_X10_go 12 rfl) ?_
    refine j_iadd hC (dOk_at dt_X10_go 13 rfl) ?_
    refine j_sipush hC (v := (9000 : Int32)) rfl (dOk_at dt_X10_go 14 rfl) ?_
    refine j_icmp_le hC (tgt := 32) (by decide) (dOk_at dt_X10_go 15 rfl) (fun q_4 => ?_) (fun q_4 => ?_)
    · refine j_aload_n hC 0 rfl rfl (dOk_at dt_X10_go 18 rfl) ?_
      refine j_callVv hC clX10_392 (fun rz hrz => c_X10_plainTried hN _ rz hrz) (show shp 107 = (10, 88) from rfl) (Nat.lt_of_lt_of_le (Nat.le_of_ble_eq_true rfl : 107 < 152) hN) (by decide) rfl rfl ⟨Nat.le_of_ble_eq_true rfl, Nat.le_of_ble_eq_true rfl⟩ ⟨Nat.le_refl 0, Nat.le_refl 0⟩ (As := []) (st := []) rfl (Nat.le_of_ble_eq_true rfl) (dOk_at dt_X10_go 19 rfl) (fun h_6 _ => ?_)
      refine j_aload_n hC 0 rfl rfl (dOk_at dt_X10_go 20 rfl) ?_
      refine j_iconst hC (v := (1 : Int32)) rfl (dOk_at dt_X10_go 21 rfl) ?_
      refine j_putZ hC St_SP flX10_404 (show shp 107 = (10, 88) from rfl) (Nat.lt_of_lt_of_le (Nat.le_of_ble_eq_true rfl : 107 < 152) hN) (by decide) (by decide) rfl rfl rfl (dOk_at dt_X10_go 22 rfl) ?_
      refine j_iconst hC (v := (0 : Int32)) rfl (dOk_at dt_X10_go 23 rfl) ?_
      refine j_istore_n hC rfl (lv' := [(2, .int (0 : Int32)), (0, .ref 107), (1, .int x1)]) (by decide) rfl (dOk_at dt_X10_go 24 rfl) ?_
      refine j_sub [1, 2, 0] rfl ?_
      exact b43 FU (uI h_6 107 68 (1 : Int32)) x1 (0 : Int32) 
    · refine j_iconst hC (v := (-1 : Int32)) rfl (dOk_at dt_X10_go 16 rfl) ?_
      exact j_iret hC hret (dOk_at dt_X10_go 17 rfl)
def tb_X10_ahead : List (Nat × Instr × Nat) := [(0, .aload_n 0, 1), (1, .iconst 0, 1), (2, .putfield 157, 3), (5, .iload_n 1, 1), (6, .iconst 0, 1), (7, .sipush 200, 3), (10, .invokestatic 202, 3), (13, .ifCond .eq 25, 3), (16, .iload_n 2, 1), (17, .iconst 0, 1), (18, .iconst 4, 1), (19, .invokestatic 202, 3), (22, .ifCond .eq 16, 3), (25, .iload_n 2, 1), (26, .iconst 2, 1), (27, .if_icmp .ne 13, 3), (30, .aload_n 0, 1), (31, .iload_n 3, 1), (32, .invokevirtual 477, 3), (35, .ifCond .ne 5, 3), (38, .iconst (-1), 1), (39, .ireturn, 1), (40, .aload_n 0, 1), (41, .invokevirtual 488, 3), (44, .aload_n 0, 1), (45, .iload_n 1, 1), (46, .invokevirtual 491, 3), (49, .iload_n 2, 1), (50, .tableswitch 81 0 3 #[30, 48, 66, 75], 30), (80, .aload_n 0, 1), (81, .getfield 112, 3), (84, .iconst 1, 1), (85, .invokestatic 494, 3), (88, .aload_n 0, 1), (89, .getfield 112, 3), (92, .iconst 0, 1), (93, .invokestatic 494, 3), (96, .isub, 1), (97, .ireturn, 1), (98, .aload_n 0, 1), (99, .getfield 115, 3), (102, .iconst 1, 1), (103, .invokestatic 494, 3), (106, .aload_n 0, 1), (107, .getfield 115, 3), (110, .iconst 0, 1), (111, .invokestatic 494, 3), (114, .isub, 1), (115, .ireturn, 1), (116, .aload_n 0, 1), (117, .getfield 103, 3), (120, .iconst 5, 1), (121, .iload_n 3, 1), (122, .iadd, 1), (123, .iaload, 1), (124, .ireturn, 1), (125, .aload_n 0, 1), (126, .iconst 1, 1), (127, .invokevirtual 498, 3), (130, .ireturn, 1), (131, .aload_n 0, 1), (132, .getfield 118, 3), (135, .iconst 1, 1), (136, .iaload, 1), (137, .aload_n 0, 1), (138, .getfield 118, 3), (141, .iconst 0, 1), (142, .iaload, 1), (143, .isub, 1), (144, .ireturn, 1)]
theorem dt_X10_ahead : dOk cX10_ahead tb_X10_ahead = true := by decide +kernel
def fX10_ahead_40 (h : Hp) (x1 : Int32) (x2 : Int32) (x3 : Int32) : Option (Int32 × Hp) := (fX10_layTried h).bind (fun h_12 => (fX10_goMany h_12 x1).bind (fun h_14 => if inT x2 0 3 then (if x2 = (0 : Int32) then (bnd (fX10_sumOf 140 10 h_14 (1 : Int32)) (fun v_16 h_17 => bnd (fX10_sumOf 140 10 h_17 (0 : Int32)) (fun v_18 h_19 => some ((v_16 - v_18), h_19)))) else (if x2 = (1 : Int32) then (bnd (fX10_sumOf 141 10 h_14 (1 : Int32)) (fun v_21 h_22 => bnd (fX10_sumOf 141 10 h_22 (0 : Int32)) (fun v_23 h_24 => some ((v_21 - v_23), h_24)))) else (if x2 = (2 : Int32) then (if inb ((5 : Int32) + x3) 10 then (some ((hI h_14 137 (Int32.toNatClampNeg ((5 : Int32) + x3))), h_14)) else none) else (if x2 = (3 : Int32) then (bnd (fX10_shedMany h_14 (1 : Int32)) (fun v_27 h_28 => some (v_27, h_28))) else none)))) else (if inb (1 : Int32) 2 then (if inb (0 : Int32) 2 then (some (((hI h_14 142 (Int32.toNatClampNeg (1 : Int32))) - (hI h_14 142 (Int32.toNatClampNeg (0 : Int32)))), h_14)) else none) else none)))
def fX10_ahead (h : Hp) (x1 : Int32) (x2 : Int32) (x3 : Int32) : Option (Int32 × Hp) := bnd (fX10_isIn (uI h 107 2 (0 : Int32)) x1 (0 : Int32) (200 : Int32)) (fun v_1 h_2 => if v_1 = 0 then (some ((-1 : Int32), h_2)) else (bnd (fX10_isIn h_2 x2 (0 : Int32) (4 : Int32)) (fun v_4 h_5 => if v_4 = 0 then (some ((-1 : Int32), h_5)) else (if x2 = (2 : Int32) then (bnd (fX10_isStraw h_5 x3) (fun v_8 h_9 => if v_8 = 0 then (some ((-1 : Int32), h_9)) else (fX10_ahead_40 h_9 x1 x2 x3))) else (fX10_ahead_40 h_5 x1 x2 x3)))))
set_option maxRecDepth 100000 in
set_option maxHeartbeats 4000000 in
theorem c_X10_ahead {l : Launch} {sb : State} {D : va_G} {ids : Nat → ClassId} {n : Nat} (hN : 152 ≤ n) (h : Hp) (x1 : Int32) (x2 : Int32) (x3 : Int32) (r : Int32 × Hp) (hr : fX10_ahead h x1 x2 x3 = some r) : jM l yX10_ahead cX10_ahead 4 (some .int) 9 sb D ids shp St n [.ref 107, .int x1, .int x2, .int x3] h (jQi sb D ids shp St n r) := by
  refine jM_of hr rfl (Nat.le_of_ble_eq_true rfl) ?_
  intro p e s m args below meth c hC hret
  have b40 : ∀ (h : Hp) (x1 : Int32) (x2 : Int32) (x3 : Int32) , jJ p l e (rmD 9) s m args below meth c 4 sb D ids shp St (fun r => MQ below (jQi sb D ids shp St n r) args s 0 0 (jA sb)) n 0 0 h 40 [(0, .ref 107), (1, .int x1), (2, .int x2), (3, .int x3)] [] (fX10_ahead_40 h x1 x2 x3) := by
    intro h x1 x2 x3 
    unfold fX10_ahead_40
    refine j_aload_n hC 0 rfl rfl (dOk_at dt_X10_ahead 22 rfl) ?_
    refine j_callVv hC clX10_488 (fun rz hrz => c_X10_layTried hN _ rz hrz) (show shp 107 = (10, 88) from rfl) (Nat.lt_of_lt_of_le (Nat.le_of_ble_eq_true rfl : 107 < 152) hN) (by decide) rfl rfl ⟨Nat.le_of_ble_eq_true rfl, Nat.le_of_ble_eq_true rfl⟩ ⟨Nat.le_refl 0, Nat.le_refl 0⟩ (As := []) (st := []) rfl (Nat.le_of_ble_eq_true rfl) (dOk_at dt_X10_ahead 23 rfl) (fun h_12 _ => ?_)
    refine j_aload_n hC 0 rfl rfl (dOk_at dt_X10_ahead 24 rfl) ?_
    refine j_iload_n hC 1 rfl rfl (dOk_at dt_X10_ahead 25 rfl) ?_
    refine j_callVv hC clX10_491 (fun rz hrz => c_X10_goMany hN _ _ rz hrz) (show shp 107 = (10, 88) from rfl) (Nat.lt_of_lt_of_le (Nat.le_of_ble_eq_true rfl : 107 < 152) hN) (by decide) rfl rfl ⟨Nat.le_of_ble_eq_true rfl, Nat.le_of_ble_eq_true rfl⟩ ⟨Nat.le_refl 0, Nat.le_refl 0⟩ (As := [.int x1]) (st := []) rfl (Nat.le_of_ble_eq_true rfl) (dOk_at dt_X10_ahead 26 rfl) (fun h_14 _ => ?_)
    refine j_iload_n hC 2 rfl rfl (dOk_at dt_X10_ahead 27 rfl) ?_
    refine j_ite (P := inT x2 0 3 = true) (fun _ => ?_) (fun q => ?_)
    · refine j_ite (P := x2 = (0 : Int32)) (fun q_15 => ?_) (fun _ => ?_)
      · refine j_tswIn hC (tgt := 80) q_15 (by decide) (by decide) rfl (by decide) (dOk_at dt_X10_ahead 28 rfl) ?_
        refine j_aload_n hC 0 rfl rfl (dOk_at dt_X10_ahead 29 rfl) ?_
        refine j_getR hC flX10_112 (show shp 107 = (10, 88) from rfl) (Nat.lt_of_lt_of_le (Nat.le_of_ble_eq_true rfl : 107 < 152) hN) (by decide) (by decide) (fun _ _ _ => rfl) (fun hs => hs 107 63 140 rfl) (dOk_at dt_X10_ahead 30 rfl) ?_
        refine j_iconst hC (v := (1 : Int32)) rfl (dOk_at dt_X10_ahead 31 rfl) ?_
        refine j_callSi hC clX10_494 (fun rz hrz => c_X10_sumOf hN ((show shp 140 = (21, 10) from rfl)) _ _ rz hrz) rfl ⟨Nat.le_of_ble_eq_true rfl, Nat.le_of_ble_eq_true rfl⟩ ⟨Nat.le_refl 0, Nat.le_refl 0⟩ (As := [.ref 140, .int (1 : Int32)]) (st := []) rfl (Nat.le_of_ble_eq_true rfl) (dOk_at dt_X10_ahead 32 rfl) (fun v_16 h_17 _ => ?_)
        refine j_aload_n hC 0 rfl rfl (dOk_at dt_X10_ahead 33 rfl) ?_
        refine j_getR hC flX10_112 (show shp 107 = (10, 88) from rfl) (Nat.lt_of_lt_of_le (Nat.le_of_ble_eq_true rfl : 107 < 152) hN) (by decide) (by decide) (fun _ _ _ => rfl) (fun hs => hs 107 63 140 rfl) (dOk_at dt_X10_ahead 34 rfl) ?_
        refine j_iconst hC (v := (0 : Int32)) rfl (dOk_at dt_X10_ahead 35 rfl) ?_
        refine j_callSi hC clX10_494 (fun rz hrz => c_X10_sumOf hN ((show shp 140 = (21, 10) from rfl)) _ _ rz hrz) rfl ⟨Nat.le_of_ble_eq_true rfl, Nat.le_of_ble_eq_true rfl⟩ ⟨Nat.le_refl 0, Nat.le_refl 0⟩ (As := [.ref 140, .int (0 : Int32)]) (st := [.int v_16]) rfl (Nat.le_of_ble_eq_true rfl) (dOk_at dt_X10_ahead 36 rfl) (fun v_18 h_19 _ => ?_)
        refine j_isub hC (dOk_at dt_X10_ahead 37 rfl) ?_
        exact j_iret hC hret (dOk_at dt_X10_ahead 38 rfl)
      refine j_ite (P := x2 = (1 : Int32)) (fun q_20 => ?_) (fun _ => ?_)
      · refine j_tswIn hC (tgt := 98) q_20 (by decide) (by decide) rfl (by decide) (dOk_at dt_X10_ahead 28 rfl) ?_
        refine j_aload_n hC 0 rfl rfl (dOk_at dt_X10_ahead 39 rfl) ?_
        refine j_getR hC flX10_115 (show shp 107 = (10, 88) from rfl) (Nat.lt_of_lt_of_le (Nat.le_of_ble_eq_true rfl : 107 < 152) hN) (by decide) (by decide) (fun _ _ _ => rfl) (fun hs => hs 107 64 141 rfl) (dOk_at dt_X10_ahead 40 rfl) ?_
        refine j_iconst hC (v := (1 : Int32)) rfl (dOk_at dt_X10_ahead 41 rfl) ?_
        refine j_callSi hC clX10_494 (fun rz hrz => c_X10_sumOf hN ((show shp 141 = (21, 10) from rfl)) _ _ rz hrz) rfl ⟨Nat.le_of_ble_eq_true rfl, Nat.le_of_ble_eq_true rfl⟩ ⟨Nat.le_refl 0, Nat.le_refl 0⟩ (As := [.ref 141, .int (1 : Int32)]) (st := []) rfl (Nat.le_of_ble_eq_true rfl) (dOk_at dt_X10_ahead 42 rfl) (fun v_21 h_22 _ => ?_)
        refine j_aload_n hC 0 rfl rfl (dOk_at dt_X10_ahead 43 rfl) ?_
        refine j_getR hC flX10_115 (show shp 107 = (10, 88) from rfl) (Nat.lt_of_lt_of_le (Nat.le_of_ble_eq_true rfl : 107 < 152) hN) (by decide) (by decide) (fun _ _ _ => rfl) (fun hs => hs 107 64 141 rfl) (dOk_at dt_X10_ahead 44 rfl) ?_
        refine j_iconst hC (v := (0 : Int32)) rfl (dOk_at dt_X10_ahead 45 rfl) ?_
        refine j_callSi hC clX10_494 (fun rz hrz => c_X10_sumOf hN ((show shp 141 = (21, 10) from rfl)) _ _ rz hrz) rfl ⟨Nat.le_of_ble_eq_true rfl, Nat.le_of_ble_eq_true rfl⟩ ⟨Nat.le_refl 0, Nat.le_refl 0⟩ (As := [.ref 141, .int (0 : Int32)]) (st := [.int v_21]) rfl (Nat.le_of_ble_eq_true rfl) (dOk_at dt_X10_ahead 46 rfl) (fun v_23 h_24 _ => ?_)
        refine j_isub hC (dOk_at dt_X10_ahead 47 rfl) ?_
        exact j_iret hC hret (dOk_at dt_X10_ahead 48 rfl)
      refine j_ite (P := x2 = (2 : Int32)) (fun q_25 => ?_) (fun _ => ?_)
      · refine j_tswIn hC (tgt := 116) q_25 (by decide) (by decide) rfl (by decide) (dOk_at dt_X10_ahead 28 rfl) ?_
        refine j_aload_n hC 0 rfl rfl (dOk_at dt_X10_ahead 49 rfl) ?_
        refine j_getR hC flX10_103 (show shp 107 = (10, 88) from rfl) (Nat.lt_of_lt_of_le (Nat.le_of_ble_eq_true rfl : 107 < 152) hN) (by decide) (by decide) (fun _ _ _ => rfl) (fun hs => hs 107 60 137 rfl) (dOk_at dt_X10_ahead 50 rfl) ?_
        refine j_iconst hC (v := (5 : Int32)) rfl (dOk_at dt_X10_ahead 51 rfl) ?_
        refine j_iload_n hC 3 rfl rfl (dOk_at dt_X10_ahead 52 rfl) ?_
        refine j_iadd hC (dOk_at dt_X10_ahead 53 rfl) ?_
        refine j_iald hC (show shp 137 = (21, 10) from rfl) (Nat.lt_of_lt_of_le (Nat.le_of_ble_eq_true rfl : 137 < 152) hN) (dOk_at dt_X10_ahead 54 rfl) ?_
        exact j_iret hC hret (dOk_at dt_X10_ahead 55 rfl)
      refine j_ite (P := x2 = (3 : Int32)) (fun q_26 => ?_) (fun _ => ?_)
      · refine j_tswIn hC (tgt := 125) q_26 (by decide) (by decide) rfl (by decide) (dOk_at dt_X10_ahead 28 rfl) ?_
        refine j_aload_n hC 0 rfl rfl (dOk_at dt_X10_ahead 56 rfl) ?_
        refine j_iconst hC (v := (1 : Int32)) rfl (dOk_at dt_X10_ahead 57 rfl) ?_
        refine j_callVi hC clX10_498 (fun rz hrz => c_X10_shedMany hN _ _ rz hrz) (show shp 107 = (10, 88) from rfl) (Nat.lt_of_lt_of_le (Nat.le_of_ble_eq_true rfl : 107 < 152) hN) (by decide) rfl rfl ⟨Nat.le_of_ble_eq_true rfl, Nat.le_of_ble_eq_true rfl⟩ ⟨Nat.le_refl 0, Nat.le_refl 0⟩ (As := [.int (1 : Int32)]) (st := []) rfl (Nat.le_of_ble_eq_true rfl) (dOk_at dt_X10_ahead 58 rfl) (fun v_27 h_28 _ => ?_)
        exact j_iret hC hret (dOk_at dt_X10_ahead 59 rfl)
      exact j_none
    · refine j_tswOut hC (tgt := 131) q (by decide) (dOk_at dt_X10_ahead 28 rfl) ?_
      refine j_aload_n hC 0 rfl rfl (dOk_at dt_X10_ahead 60 rfl) ?_
      refine j_getR hC flX10_118 (show shp 107 = (10, 88) from rfl) (Nat.lt_of_lt_of_le (Nat.le_of_ble_eq_true rfl : 107 < 152) hN) (by decide) (by decide) (fun _ _ _ => rfl) (fun hs => hs 107 65 142 rfl) (dOk_at dt_X10_ahead 61 rfl) ?_
      refine j_iconst hC (v := (1 : Int32)) rfl (dOk_at dt_X10_ahead 62 rfl) ?_
      refine j_iald hC (show shp 142 = (21, 2) from rfl) (Nat.lt_of_lt_of_le (Nat.le_of_ble_eq_true rfl : 142 < 152) hN) (dOk_at dt_X10_ahead 63 rfl) ?_
      refine j_aload_n hC 0 rfl rfl (dOk_at dt_X10_ahead 64 rfl) ?_
      refine j_getR hC flX10_118 (show shp 107 = (10, 88) from rfl) (Nat.lt_of_lt_of_le (Nat.le_of_ble_eq_true rfl : 107 < 152) hN) (by decide) (by decide) (fun _ _ _ => rfl) (fun hs => hs 107 65 142 rfl) (dOk_at dt_X10_ahead 65 rfl) ?_
      refine j_iconst hC (v := (0 : Int32)) rfl (dOk_at dt_X10_ahead 66 rfl) ?_
      refine j_iald hC (show shp 142 = (21, 2) from rfl) (Nat.lt_of_lt_of_le (Nat.le_of_ble_eq_true rfl : 142 < 152) hN) (dOk_at dt_X10_ahead 67 rfl) ?_
      refine j_isub hC (dOk_at dt_X10_ahead 68 rfl) ?_
      exact j_iret hC hret (dOk_at dt_X10_ahead 69 rfl)
  unfold fX10_ahead
  refine j_aload_n hC 0 rfl rfl (dOk_at dt_X10_ahead 0 rfl) ?_
  refine j_iconst hC (v := (0 : Int32)) rfl (dOk_at dt_X10_ahead 1 rfl) ?_
  refine j_putI hC St_SP flX10_157 (show shp 107 = (10, 88) from rfl) (Nat.lt_of_lt_of_le (Nat.le_of_ble_eq_true rfl : 107 < 152) hN) (by decide) (by decide) rfl rfl (dOk_at dt_X10_ahead 2 rfl) ?_
  refine j_iload_n hC 1 rfl rfl (dOk_at dt_X10_ahead 3 rfl) ?_
  refine j_iconst hC (v := (0 : Int32)) rfl (dOk_at dt_X10_ahead 4 rfl) ?_
  refine j_sipush hC (v := (200 : Int32)) rfl (dOk_at dt_X10_ahead 5 rfl) ?_
  refine j_callSi hC clX10_202 (fun rz hrz => c_X10_isIn hN _ _ _ _ rz hrz) rfl ⟨Nat.le_of_ble_eq_true rfl, Nat.le_of_ble_eq_true rfl⟩ ⟨Nat.le_refl 0, Nat.le_refl 0⟩ (As := [.int x1, .int (0 : Int32), .int (200 : Int32)]) (st := []) rfl (Nat.le_of_ble_eq_true rfl) (dOk_at dt_X10_ahead 6 rfl) (fun v_1 h_2 _ => ?_)
  refine j_if_eq hC (tgt := 38) (by decide) (dOk_at dt_X10_ahead 7 rfl) (fun q_3 => ?_) (fun q_3 => ?_)
  · refine j_iconst hC (v := (-1 : Int32)) rfl (dOk_at dt_X10_ahead 20 rfl) ?_
    exact j_iret hC hret (dOk_at dt_X10_ahead 21 rfl)
  · refine j_iload_n hC 2 rfl rfl (dOk_at dt_X10_ahead 8 rfl) ?_
    refine j_iconst hC (v := (0 : Int32)) rfl (dOk_at dt_X10_ahead 9 rfl) ?_
    refine j_iconst hC (v := (4 : Int32)) rfl (dOk_at dt_X10_ahead 10 rfl) ?_
    refine j_callSi hC clX10_202 (fun rz hrz => c_X10_isIn hN _ _ _ _ rz hrz) rfl ⟨Nat.le_of_ble_eq_true rfl, Nat.le_of_ble_eq_true rfl⟩ ⟨Nat.le_refl 0, Nat.le_refl 0⟩ (As := [.int x2, .int (0 : Int32), .int (4 : Int32)]) (st := []) rfl (Nat.le_of_ble_eq_true rfl) (dOk_at dt_X10_ahead 11 rfl) (fun v_4 h_5 _ => ?_)
    refine j_if_eq hC (tgt := 38) (by decide) (dOk_at dt_X10_ahead 12 rfl) (fun q_6 => ?_) (fun q_6 => ?_)
    · refine j_iconst hC (v := (-1 : Int32)) rfl (dOk_at dt_X10_ahead 20 rfl) ?_
      exact j_iret hC hret (dOk_at dt_X10_ahead 21 rfl)
    · refine j_iload_n hC 2 rfl rfl (dOk_at dt_X10_ahead 13 rfl) ?_
      refine j_iconst hC (v := (2 : Int32)) rfl (dOk_at dt_X10_ahead 14 rfl) ?_
      refine j_icmp_ne hC (tgt := 40) (by decide) (dOk_at dt_X10_ahead 15 rfl) (fun q_7 => ?_) (fun q_7 => ?_)
      · exact b40 h_5 x1 x2 x3 
      · refine j_aload_n hC 0 rfl rfl (dOk_at dt_X10_ahead 16 rfl) ?_
        refine j_iload_n hC 3 rfl rfl (dOk_at dt_X10_ahead 17 rfl) ?_
        refine j_callVi hC clX10_477 (fun rz hrz => c_X10_isStraw hN _ _ rz hrz) (show shp 107 = (10, 88) from rfl) (Nat.lt_of_lt_of_le (Nat.le_of_ble_eq_true rfl : 107 < 152) hN) (by decide) rfl rfl ⟨Nat.le_of_ble_eq_true rfl, Nat.le_of_ble_eq_true rfl⟩ ⟨Nat.le_refl 0, Nat.le_refl 0⟩ (As := [.int x3]) (st := []) rfl (Nat.le_of_ble_eq_true rfl) (dOk_at dt_X10_ahead 18 rfl) (fun v_8 h_9 _ => ?_)
        refine j_if_ne hC (tgt := 40) (by decide) (dOk_at dt_X10_ahead 19 rfl) (fun q_10 => ?_) (fun q_10 => ?_)
        · exact b40 h_9 x1 x2 x3 
        · refine j_iconst hC (v := (-1 : Int32)) rfl (dOk_at dt_X10_ahead 20 rfl) ?_
          exact j_iret hC hret (dOk_at dt_X10_ahead 21 rfl)
def tb_X10_sheds : List (Nat × Instr × Nat) := [(0, .aload_n 0, 1), (1, .iconst 0, 1), (2, .putfield 157, 3), (5, .aload_n 0, 1), (6, .iload_n 1, 1), (7, .invokevirtual 477, 3), (10, .ifCond .ne 5, 3), (13, .iconst (-1), 1), (14, .ireturn, 1), (15, .aload_n 0, 1), (16, .invokevirtual 488, 3), (19, .iconst 0, 1), (20, .istore_n 2, 1), (21, .iload_n 2, 1), (22, .sipush 200, 3), (25, .if_icmp .ge 27, 3), (28, .aload_n 0, 1), (29, .getfield 106, 3), (32, .iconst 5, 1), (33, .iload_n 1, 1), (34, .iadd, 1), (35, .baload, 1), (36, .ifCond .eq 5, 3), (39, .iload_n 2, 1), (40, .ireturn, 1), (41, .aload_n 0, 1), (42, .iconst 1, 1), (43, .invokevirtual 462, 3), (46, .iinc 2 1, 3), (49, .goto (-28), 3), (52, .bipush (-2), 2), (54, .ireturn, 1)]
theorem dt_X10_sheds : dOk cX10_sheds tb_X10_sheds = true := by decide +kernel
def fX10_sheds_21 : Nat → Hp → Int32 → Int32 → Option (Int32 × Hp)
  | 0, _, _, _ => none
  | fu + 1, h, x1, x2 => if (200 : Int32) ≤ x2 then (some ((-2 : Int32), h)) else (if inb ((5 : Int32) + x1) 10 then (if (hI h 138 (Int32.toNatClampNeg ((5 : Int32) + x1))) = 0 then ((fX10_nightGoes h (1 : Int32)).bind (fun h_9 => (fX10_sheds_21 fu) h_9 x1 (x2 + (1 : Int32)))) else (some (x2, h))) else none)
def fX10_sheds (h : Hp) (x1 : Int32) : Option (Int32 × Hp) := bnd (fX10_isStraw (uI h 107 2 (0 : Int32)) x1) (fun v_1 h_2 => if v_1 = 0 then (some ((-1 : Int32), h_2)) else ((fX10_layTried h_2).bind (fun h_5 => fX10_sheds_21 FU h_5 x1 (0 : Int32))))
set_option maxRecDepth 100000 in
set_option maxHeartbeats 4000000 in
theorem c_X10_sheds {l : Launch} {sb : State} {D : va_G} {ids : Nat → ClassId} {n : Nat} (hN : 152 ≤ n) (h : Hp) (x1 : Int32) (r : Int32 × Hp) (hr : fX10_sheds h x1 = some r) : jM l yX10_sheds cX10_sheds 3 (some .int) 8 sb D ids shp St n [.ref 107, .int x1] h (jQi sb D ids shp St n r) := by
  refine jM_of hr rfl (Nat.le_of_ble_eq_true rfl) ?_
  intro p e s m args below meth c hC hret
  have b21 : ∀ (fu : Nat) (h : Hp) (x1 : Int32) (x2 : Int32) , jJ p l e (rmD 8) s m args below meth c 3 sb D ids shp St (fun r => MQ below (jQi sb D ids shp St n r) args s 0 0 (jA sb)) n 0 0 h 21 [(0, .ref 107), (1, .int x1), (2, .int x2)] [] (fX10_sheds_21 fu h x1 x2) := by
    intro fu 
    induction fu with
    | zero => intro h x1 x2 ; exact j_none
    | succ fu ih =>
    intro h x1 x2 
    rw [fX10_sheds_21]
    refine j_iload_n hC 2 rfl rfl (dOk_at dt_X10_sheds 13 rfl) ?_
    refine j_sipush hC (v := (200 : Int32)) rfl (dOk_at dt_X10_sheds 14 rfl) ?_
    refine j_icmp_ge hC (tgt := 52) (by decide) (dOk_at dt_X10_sheds 15 rfl) (fun q_6 => ?_) (fun q_6 => ?_)
    · refine j_bipush hC (v := (-2 : Int32)) rfl (dOk_at dt_X10_sheds 30 rfl) ?_
      exact j_iret hC hret (dOk_at dt_X10_sheds 31 rfl)
    · refine j_aload_n hC 0 rfl rfl (dOk_at dt_X10_sheds 16 rfl) ?_
      refine j_getR hC flX10_106 (show shp 107 = (10, 88) from rfl) (Nat.lt_of_lt_of_le (Nat.le_of_ble_eq_true rfl : 107 < 152) hN) (by decide) (by decide) (fun _ _ _ => rfl) (fun hs => hs 107 61 138 rfl) (dOk_at dt_X10_sheds 17 rfl) ?_
      refine j_iconst hC (v := (5 : Int32)) rfl (dOk_at dt_X10_sheds 18 rfl) ?_
      refine j_iload_n hC 1 rfl rfl (dOk_at dt_X10_sheds 19 rfl) ?_
      refine j_iadd hC (dOk_at dt_X10_sheds 20 rfl) ?_
      refine j_zald hC (show shp 138 = (23, 10) from rfl) (Nat.lt_of_lt_of_le (Nat.le_of_ble_eq_true rfl : 138 < 152) hN) (dOk_at dt_X10_sheds 21 rfl) ?_
      refine j_if_eq hC (tgt := 41) (by decide) (dOk_at dt_X10_sheds 22 rfl) (fun q_7 => ?_) (fun q_7 => ?_)
      · refine j_aload_n hC 0 rfl rfl (dOk_at dt_X10_sheds 25 rfl) ?_
        refine j_iconst hC (v := (1 : Int32)) rfl (dOk_at dt_X10_sheds 26 rfl) ?_
        refine j_callVv hC clX10_462 (fun rz hrz => c_X10_nightGoes hN _ _ rz hrz) (show shp 107 = (10, 88) from rfl) (Nat.lt_of_lt_of_le (Nat.le_of_ble_eq_true rfl : 107 < 152) hN) (by decide) rfl rfl ⟨Nat.le_of_ble_eq_true rfl, Nat.le_of_ble_eq_true rfl⟩ ⟨Nat.le_refl 0, Nat.le_refl 0⟩ (As := [.int (1 : Int32)]) (st := []) rfl (Nat.le_of_ble_eq_true rfl) (dOk_at dt_X10_sheds 27 rfl) (fun h_9 _ => ?_)
        refine j_iinc hC (v := (x2 + (1 : Int32))) (lv' := [(2, .int (x2 + (1 : Int32))), (0, .ref 107), (1, .int x1)]) 2 rfl (congrArg (fun z => x2 + z) (show Int32.ofInt (1) = (1 : Int32) from by decide)) (by decide) rfl (dOk_at dt_X10_sheds 28 rfl) ?_
        refine j_goto hC (tgt := 21) (by decide) (dOk_at dt_X10_sheds 29 rfl) ?_
        refine j_sub [1, 2, 0] rfl ?_
        exact ih h_9 x1 (x2 + (1 : Int32)) 
      · refine j_iload_n hC 2 rfl rfl (dOk_at dt_X10_sheds 23 rfl) ?_
        exact j_iret hC hret (dOk_at dt_X10_sheds 24 rfl)
  unfold fX10_sheds
  refine j_aload_n hC 0 rfl rfl (dOk_at dt_X10_sheds 0 rfl) ?_
  refine j_iconst hC (v := (0 : Int32)) rfl (dOk_at dt_X10_sheds 1 rfl) ?_
  refine j_putI hC St_SP flX10_157 (show shp 107 = (10, 88) from rfl) (Nat.lt_of_lt_of_le (Nat.le_of_ble_eq_true rfl : 107 < 152) hN) (by decide) (by decide) rfl rfl (dOk_at dt_X10_sheds 2 rfl) ?_
  refine j_aload_n hC 0 rfl rfl (dOk_at dt_X10_sheds 3 rfl) ?_
  refine j_iload_n hC 1 rfl rfl (dOk_at dt_X10_sheds 4 rfl) ?_
  refine j_callVi hC clX10_477 (fun rz hrz => c_X10_isStraw hN _ _ rz hrz) (show shp 107 = (10, 88) from rfl) (Nat.lt_of_lt_of_le (Nat.le_of_ble_eq_true rfl : 107 < 152) hN) (by decide) rfl rfl ⟨Nat.le_of_ble_eq_true rfl, Nat.le_of_ble_eq_true rfl⟩ ⟨Nat.le_refl 0, Nat.le_refl 0⟩ (As := [.int x1]) (st := []) rfl (Nat.le_of_ble_eq_true rfl) (dOk_at dt_X10_sheds 5 rfl) (fun v_1 h_2 _ => ?_)
  refine j_if_ne hC (tgt := 15) (by decide) (dOk_at dt_X10_sheds 6 rfl) (fun q_3 => ?_) (fun q_3 => ?_)
  · refine j_aload_n hC 0 rfl rfl (dOk_at dt_X10_sheds 9 rfl) ?_
    refine j_callVv hC clX10_488 (fun rz hrz => c_X10_layTried hN _ rz hrz) (show shp 107 = (10, 88) from rfl) (Nat.lt_of_lt_of_le (Nat.le_of_ble_eq_true rfl : 107 < 152) hN) (by decide) rfl rfl ⟨Nat.le_of_ble_eq_true rfl, Nat.le_of_ble_eq_true rfl⟩ ⟨Nat.le_refl 0, Nat.le_refl 0⟩ (As := []) (st := []) rfl (Nat.le_of_ble_eq_true rfl) (dOk_at dt_X10_sheds 10 rfl) (fun h_5 _ => ?_)
    refine j_iconst hC (v := (0 : Int32)) rfl (dOk_at dt_X10_sheds 11 rfl) ?_
    refine j_istore_n hC rfl (lv' := [(2, .int (0 : Int32)), (0, .ref 107), (1, .int x1)]) (by decide) rfl (dOk_at dt_X10_sheds 12 rfl) ?_
    refine j_sub [1, 2, 0] rfl ?_
    exact b21 FU h_5 x1 (0 : Int32) 
  · refine j_iconst hC (v := (-1 : Int32)) rfl (dOk_at dt_X10_sheds 7 rfl) ?_
    exact j_iret hC hret (dOk_at dt_X10_sheds 8 rfl)
def tb_X10_isCalm : List (Nat × Instr × Nat) := [(0, .iconst 0, 1), (1, .istore_n 2, 1), (2, .iload_n 2, 1), (3, .aload_n 0, 1), (4, .getfield 243, 3), (7, .if_icmp .ge 29, 3), (10, .iload_n 1, 1), (11, .iload_n 2, 1), (12, .invokestatic 282, 3), (15, .ifCond .eq 15, 3), (18, .aload_n 0, 1), (19, .iload_n 2, 1), (20, .invokevirtual 471, 3), (23, .iload_n 1, 1), (24, .iand, 1), (25, .ifCond .eq 5, 3), (28, .iconst 0, 1), (29, .ireturn, 1), (30, .iinc 2 1, 3), (33, .goto (-31), 3), (36, .iconst 1, 1), (37, .ireturn, 1)]
theorem dt_X10_isCalm : dOk cX10_isCalm tb_X10_isCalm = true := by decide +kernel
def fX10_isCalm_30 (rec2 : Hp → Int32 → Int32 → Option (Int32 × Hp)) (h : Hp) (x1 : Int32) (x2 : Int32) : Option (Int32 × Hp) := rec2 h x1 (x2 + (1 : Int32))
def fX10_isCalm_2 : Nat → Hp → Int32 → Int32 → Option (Int32 × Hp)
  | 0, _, _, _ => none
  | fu + 1, h, x1, x2 => if (hI h 107 12) ≤ x2 then (some ((1 : Int32), h)) else (bnd (fX10_isOf h x1 x2) (fun v_2 h_3 => if v_2 = 0 then (fX10_isCalm_30 (fX10_isCalm_2 fu) h_3 x1 x2) else (bnd (fX10_againstBy h_3 x2) (fun v_5 h_6 => if (v_5 &&& x1) = 0 then (fX10_isCalm_30 (fX10_isCalm_2 fu) h_6 x1 x2) else (some ((0 : Int32), h_6))))))
def fX10_isCalm (h : Hp) (x1 : Int32) : Option (Int32 × Hp) := fX10_isCalm_2 FU h x1 (0 : Int32)
set_option maxRecDepth 100000 in
set_option maxHeartbeats 4000000 in
theorem c_X10_isCalm {l : Launch} {sb : State} {D : va_G} {ids : Nat → ClassId} {n : Nat} (hN : 152 ≤ n) (h : Hp) (x1 : Int32) (r : Int32 × Hp) (hr : fX10_isCalm h x1 = some r) : jM l yX10_isCalm cX10_isCalm 3 (some .boolean) 1 sb D ids shp St n [.ref 107, .int x1] h (jQi sb D ids shp St n r) := by
  refine jM_of hr rfl (Nat.le_of_ble_eq_true rfl) ?_
  intro p e s m args below meth c hC hret
  have b30 : ∀ (rec2 : Hp → Int32 → Int32 → Option (Int32 × Hp)) (hrec2 : ∀ (h : Hp) (x1 : Int32) (x2 : Int32) , jJ p l e (rmD 1) s m args below meth c 3 sb D ids shp St (fun r => MQ below (jQi sb D ids shp St n r) args s 0 0 (jA sb)) n 0 0 h 2 [(0, .ref 107), (1, .int x1), (2, .int x2)] [] (rec2 h x1 x2)) (h : Hp) (x1 : Int32) (x2 : Int32) , jJ p l e (rmD 1) s m args below meth c 3 sb D ids shp St (fun r => MQ below (jQi sb D ids shp St n r) args s 0 0 (jA sb)) n 0 0 h 30 [(0, .ref 107), (1, .int x1), (2, .int x2)] [] (fX10_isCalm_30 rec2 h x1 x2) := by
    intro rec2 hrec2 h x1 x2 
    unfold fX10_isCalm_30
    refine j_iinc hC (v := (x2 + (1 : Int32))) (lv' := [(2, .int (x2 + (1 : Int32))), (0, .ref 107), (1, .int x1)]) 2 rfl (congrArg (fun z => x2 + z) (show Int32.ofInt (1) = (1 : Int32) from by decide)) (by decide) rfl (dOk_at dt_X10_isCalm 18 rfl) ?_
    refine j_goto hC (tgt := 2) (by decide) (dOk_at dt_X10_isCalm 19 rfl) ?_
    refine j_sub [1, 2, 0] rfl ?_
    exact hrec2 h x1 (x2 + (1 : Int32)) 
  have b2 : ∀ (fu : Nat) (h : Hp) (x1 : Int32) (x2 : Int32) , jJ p l e (rmD 1) s m args below meth c 3 sb D ids shp St (fun r => MQ below (jQi sb D ids shp St n r) args s 0 0 (jA sb)) n 0 0 h 2 [(0, .ref 107), (1, .int x1), (2, .int x2)] [] (fX10_isCalm_2 fu h x1 x2) := by
    intro fu 
    induction fu with
    | zero => intro h x1 x2 ; exact j_none
    | succ fu ih =>
    intro h x1 x2 
    rw [fX10_isCalm_2]
    refine j_iload_n hC 2 rfl rfl (dOk_at dt_X10_isCalm 2 rfl) ?_
    refine j_aload_n hC 0 rfl rfl (dOk_at dt_X10_isCalm 3 rfl) ?_
    refine j_getI hC flX10_243 (show shp 107 = (10, 88) from rfl) (Nat.lt_of_lt_of_le (Nat.le_of_ble_eq_true rfl : 107 < 152) hN) (by decide) (by decide) (fun _ _ _ => rfl) (dOk_at dt_X10_isCalm 4 rfl) ?_
    refine j_icmp_ge hC (tgt := 36) (by decide) (dOk_at dt_X10_isCalm 5 rfl) (fun q_1 => ?_) (fun q_1 => ?_)
    · refine j_iconst hC (v := (1 : Int32)) rfl (dOk_at dt_X10_isCalm 20 rfl) ?_
      exact j_zretK hC hret rfl (dOk_at dt_X10_isCalm 21 rfl)
    · refine j_iload_n hC 1 rfl rfl (dOk_at dt_X10_isCalm 6 rfl) ?_
      refine j_iload_n hC 2 rfl rfl (dOk_at dt_X10_isCalm 7 rfl) ?_
      refine j_callSi hC clX10_282 (fun rz hrz => c_X10_isOf hN _ _ _ rz hrz) rfl ⟨Nat.le_of_ble_eq_true rfl, Nat.le_of_ble_eq_true rfl⟩ ⟨Nat.le_refl 0, Nat.le_refl 0⟩ (As := [.int x1, .int x2]) (st := []) rfl (Nat.le_of_ble_eq_true rfl) (dOk_at dt_X10_isCalm 8 rfl) (fun v_2 h_3 _ => ?_)
      refine j_if_eq hC (tgt := 30) (by decide) (dOk_at dt_X10_isCalm 9 rfl) (fun q_4 => ?_) (fun q_4 => ?_)
      · exact b30 (fX10_isCalm_2 fu) ih h_3 x1 x2 
      · refine j_aload_n hC 0 rfl rfl (dOk_at dt_X10_isCalm 10 rfl) ?_
        refine j_iload_n hC 2 rfl rfl (dOk_at dt_X10_isCalm 11 rfl) ?_
        refine j_callVi hC clX10_471 (fun rz hrz => c_X10_againstBy hN _ _ rz hrz) (show shp 107 = (10, 88) from rfl) (Nat.lt_of_lt_of_le (Nat.le_of_ble_eq_true rfl : 107 < 152) hN) (by decide) rfl rfl ⟨Nat.le_of_ble_eq_true rfl, Nat.le_of_ble_eq_true rfl⟩ ⟨Nat.le_refl 0, Nat.le_refl 0⟩ (As := [.int x2]) (st := []) rfl (Nat.le_of_ble_eq_true rfl) (dOk_at dt_X10_isCalm 12 rfl) (fun v_5 h_6 _ => ?_)
        refine j_iload_n hC 1 rfl rfl (dOk_at dt_X10_isCalm 13 rfl) ?_
        refine j_iand hC (dOk_at dt_X10_isCalm 14 rfl) ?_
        refine j_if_eq hC (tgt := 30) (by decide) (dOk_at dt_X10_isCalm 15 rfl) (fun q_7 => ?_) (fun q_7 => ?_)
        · exact b30 (fX10_isCalm_2 fu) ih h_6 x1 x2 
        · refine j_iconst hC (v := (0 : Int32)) rfl (dOk_at dt_X10_isCalm 16 rfl) ?_
          exact j_zretK hC hret rfl (dOk_at dt_X10_isCalm 17 rfl)
  unfold fX10_isCalm
  refine j_iconst hC (v := (0 : Int32)) rfl (dOk_at dt_X10_isCalm 0 rfl) ?_
  refine j_istore_n hC rfl (lv' := [(2, .int (0 : Int32)), (0, .ref 107), (1, .int x1)]) (by decide) rfl (dOk_at dt_X10_isCalm 1 rfl) ?_
  refine j_sub [1, 2, 0] rfl ?_
  exact b2 FU h x1 (0 : Int32) 
def tb_X10_isStanding : List (Nat × Instr × Nat) := [(0, .aload_n 0, 1), (1, .iload_n 1, 1), (2, .invokevirtual 501, 3), (5, .ifCond .ne 5, 3), (8, .iconst 0, 1), (9, .ireturn, 1), (10, .iconst 0, 1), (11, .istore_n 2, 1), (12, .iload_n 2, 1), (13, .aload_n 0, 1), (14, .getfield 243, 3), (17, .if_icmp .ge 31, 3), (20, .iload_n 1, 1), (21, .iload_n 2, 1), (22, .invokestatic 282, 3), (25, .ifCond .ne 17, 3), (28, .aload_n 0, 1), (29, .iload_n 2, 1), (30, .iconst (-1), 1), (31, .iconst (-1), 1), (32, .invokevirtual 474, 3), (35, .iload_n 1, 1), (36, .iand, 1), (37, .ifCond .ne 5, 3), (40, .iconst 0, 1), (41, .ireturn, 1), (42, .iinc 2 1, 3), (45, .goto (-33), 3), (48, .iconst 1, 1), (49, .ireturn, 1)]
theorem dt_X10_isStanding : dOk cX10_isStanding tb_X10_isStanding = true := by decide +kernel
def fX10_isStanding_42 (rec12 : Hp → Int32 → Int32 → Option (Int32 × Hp)) (h : Hp) (x1 : Int32) (x2 : Int32) : Option (Int32 × Hp) := rec12 h x1 (x2 + (1 : Int32))
def fX10_isStanding_12 : Nat → Hp → Int32 → Int32 → Option (Int32 × Hp)
  | 0, _, _, _ => none
  | fu + 1, h, x1, x2 => if (hI h 107 12) ≤ x2 then (some ((1 : Int32), h)) else (bnd (fX10_isOf h x1 x2) (fun v_5 h_6 => if v_5 = 0 then (bnd (fX10_againstIt h_6 x2 (-1 : Int32) (-1 : Int32)) (fun v_8 h_9 => if (v_8 &&& x1) = 0 then (some ((0 : Int32), h_9)) else (fX10_isStanding_42 (fX10_isStanding_12 fu) h_9 x1 x2))) else (fX10_isStanding_42 (fX10_isStanding_12 fu) h_6 x1 x2)))
def fX10_isStanding (h : Hp) (x1 : Int32) : Option (Int32 × Hp) := bnd (fX10_isCalm h x1) (fun v_1 h_2 => if v_1 = 0 then (some ((0 : Int32), h_2)) else (fX10_isStanding_12 FU h_2 x1 (0 : Int32)))
set_option maxRecDepth 100000 in
set_option maxHeartbeats 4000000 in
theorem c_X10_isStanding {l : Launch} {sb : State} {D : va_G} {ids : Nat → ClassId} {n : Nat} (hN : 152 ≤ n) (h : Hp) (x1 : Int32) (r : Int32 × Hp) (hr : fX10_isStanding h x1 = some r) : jM l yX10_isStanding cX10_isStanding 3 (some .boolean) 2 sb D ids shp St n [.ref 107, .int x1] h (jQi sb D ids shp St n r) := by
  refine jM_of hr rfl (Nat.le_of_ble_eq_true rfl) ?_
  intro p e s m args below meth c hC hret
  have b42 : ∀ (rec12 : Hp → Int32 → Int32 → Option (Int32 × Hp)) (hrec12 : ∀ (h : Hp) (x1 : Int32) (x2 : Int32) , jJ p l e (rmD 2) s m args below meth c 3 sb D ids shp St (fun r => MQ below (jQi sb D ids shp St n r) args s 0 0 (jA sb)) n 0 0 h 12 [(0, .ref 107), (1, .int x1), (2, .int x2)] [] (rec12 h x1 x2)) (h : Hp) (x1 : Int32) (x2 : Int32) , jJ p l e (rmD 2) s m args below meth c 3 sb D ids shp St (fun r => MQ below (jQi sb D ids shp St n r) args s 0 0 (jA sb)) n 0 0 h 42 [(0, .ref 107), (1, .int x1), (2, .int x2)] [] (fX10_isStanding_42 rec12 h x1 x2) := by
    intro rec12 hrec12 h x1 x2 
    unfold fX10_isStanding_42
    refine j_iinc hC (v := (x2 + (1 : Int32))) (lv' := [(2, .int (x2 + (1 : Int32))), (0, .ref 107), (1, .int x1)]) 2 rfl (congrArg (fun z => x2 + z) (show Int32.ofInt (1) = (1 : Int32) from by decide)) (by decide) rfl (dOk_at dt_X10_isStanding 26 rfl) ?_
    refine j_goto hC (tgt := 12) (by decide) (dOk_at dt_X10_isStanding 27 rfl) ?_
    refine j_sub [1, 2, 0] rfl ?_
    exact hrec12 h x1 (x2 + (1 : Int32)) 
  have b12 : ∀ (fu : Nat) (h : Hp) (x1 : Int32) (x2 : Int32) , jJ p l e (rmD 2) s m args below meth c 3 sb D ids shp St (fun r => MQ below (jQi sb D ids shp St n r) args s 0 0 (jA sb)) n 0 0 h 12 [(0, .ref 107), (1, .int x1), (2, .int x2)] [] (fX10_isStanding_12 fu h x1 x2) := by
    intro fu 
    induction fu with
    | zero => intro h x1 x2 ; exact j_none
    | succ fu ih =>
    intro h x1 x2 
    rw [fX10_isStanding_12]
    refine j_iload_n hC 2 rfl rfl (dOk_at dt_X10_isStanding 8 rfl) ?_
    refine j_aload_n hC 0 rfl rfl (dOk_at dt_X10_isStanding 9 rfl) ?_
    refine j_getI hC flX10_243 (show shp 107 = (10, 88) from rfl) (Nat.lt_of_lt_of_le (Nat.le_of_ble_eq_true rfl : 107 < 152) hN) (by decide) (by decide) (fun _ _ _ => rfl) (dOk_at dt_X10_isStanding 10 rfl) ?_
    refine j_icmp_ge hC (tgt := 48) (by decide) (dOk_at dt_X10_isStanding 11 rfl) (fun q_4 => ?_) (fun q_4 => ?_)
    · refine j_iconst hC (v := (1 : Int32)) rfl (dOk_at dt_X10_isStanding 28 rfl) ?_
      exact j_zretK hC hret rfl (dOk_at dt_X10_isStanding 29 rfl)
    · refine j_iload_n hC 1 rfl rfl (dOk_at dt_X10_isStanding 12 rfl) ?_
      refine j_iload_n hC 2 rfl rfl (dOk_at dt_X10_isStanding 13 rfl) ?_
      refine j_callSi hC clX10_282 (fun rz hrz => c_X10_isOf hN _ _ _ rz hrz) rfl ⟨Nat.le_of_ble_eq_true rfl, Nat.le_of_ble_eq_true rfl⟩ ⟨Nat.le_refl 0, Nat.le_refl 0⟩ (As := [.int x1, .int x2]) (st := []) rfl (Nat.le_of_ble_eq_true rfl) (dOk_at dt_X10_isStanding 14 rfl) (fun v_5 h_6 _ => ?_)
      refine j_if_ne hC (tgt := 42) (by decide) (dOk_at dt_X10_isStanding 15 rfl) (fun q_7 => ?_) (fun q_7 => ?_)
      · exact b42 (fX10_isStanding_12 fu) ih h_6 x1 x2 
      · refine j_aload_n hC 0 rfl rfl (dOk_at dt_X10_isStanding 16 rfl) ?_
        refine j_iload_n hC 2 rfl rfl (dOk_at dt_X10_isStanding 17 rfl) ?_
        refine j_iconst hC (v := (-1 : Int32)) rfl (dOk_at dt_X10_isStanding 18 rfl) ?_
        refine j_iconst hC (v := (-1 : Int32)) rfl (dOk_at dt_X10_isStanding 19 rfl) ?_
        refine j_callVi hC clX10_474 (fun rz hrz => c_X10_againstIt hN _ _ _ _ rz hrz) (show shp 107 = (10, 88) from rfl) (Nat.lt_of_lt_of_le (Nat.le_of_ble_eq_true rfl : 107 < 152) hN) (by decide) rfl rfl ⟨Nat.le_of_ble_eq_true rfl, Nat.le_of_ble_eq_true rfl⟩ ⟨Nat.le_refl 0, Nat.le_refl 0⟩ (As := [.int x2, .int (-1 : Int32), .int (-1 : Int32)]) (st := []) rfl (Nat.le_of_ble_eq_true rfl) (dOk_at dt_X10_isStanding 20 rfl) (fun v_8 h_9 _ => ?_)
        refine j_iload_n hC 1 rfl rfl (dOk_at dt_X10_isStanding 21 rfl) ?_
        refine j_iand hC (dOk_at dt_X10_isStanding 22 rfl) ?_
        refine j_if_ne hC (tgt := 42) (by decide) (dOk_at dt_X10_isStanding 23 rfl) (fun q_10 => ?_) (fun q_10 => ?_)
        · exact b42 (fX10_isStanding_12 fu) ih h_9 x1 x2 
        · refine j_iconst hC (v := (0 : Int32)) rfl (dOk_at dt_X10_isStanding 24 rfl) ?_
          exact j_zretK hC hret rfl (dOk_at dt_X10_isStanding 25 rfl)
  unfold fX10_isStanding
  refine j_aload_n hC 0 rfl rfl (dOk_at dt_X10_isStanding 0 rfl) ?_
  refine j_iload_n hC 1 rfl rfl (dOk_at dt_X10_isStanding 1 rfl) ?_
  refine j_callVi hC clX10_501 (fun rz hrz => c_X10_isCalm hN _ _ rz hrz) (show shp 107 = (10, 88) from rfl) (Nat.lt_of_lt_of_le (Nat.le_of_ble_eq_true rfl : 107 < 152) hN) (by decide) rfl rfl ⟨Nat.le_of_ble_eq_true rfl, Nat.le_of_ble_eq_true rfl⟩ ⟨Nat.le_refl 0, Nat.le_refl 0⟩ (As := [.int x1]) (st := []) rfl (Nat.le_of_ble_eq_true rfl) (dOk_at dt_X10_isStanding 2 rfl) (fun v_1 h_2 _ => ?_)
  refine j_if_ne hC (tgt := 10) (by decide) (dOk_at dt_X10_isStanding 3 rfl) (fun q_3 => ?_) (fun q_3 => ?_)
  · refine j_iconst hC (v := (0 : Int32)) rfl (dOk_at dt_X10_isStanding 6 rfl) ?_
    refine j_istore_n hC rfl (lv' := [(2, .int (0 : Int32)), (0, .ref 107), (1, .int x1)]) (by decide) rfl (dOk_at dt_X10_isStanding 7 rfl) ?_
    refine j_sub [1, 2, 0] rfl ?_
    exact b12 FU h_2 x1 (0 : Int32) 
  · refine j_iconst hC (v := (0 : Int32)) rfl (dOk_at dt_X10_isStanding 4 rfl) ?_
    exact j_zretK hC hret rfl (dOk_at dt_X10_isStanding 5 rfl)
def tb_X10_isDefended : List (Nat × Instr × Nat) := [(0, .aload_n 0, 1), (1, .iload_n 1, 1), (2, .invokevirtual 501, 3), (5, .ifCond .ne 5, 3), (8, .iconst 0, 1), (9, .ireturn, 1), (10, .iconst 0, 1), (11, .istore_n 2, 1), (12, .iload_n 2, 1), (13, .aload_n 0, 1), (14, .getfield 243, 3), (17, .if_icmp .ge 33, 3), (20, .aload_n 0, 1), (21, .iload_n 2, 1), (22, .invokevirtual 471, 3), (25, .iload_n 1, 1), (26, .iand, 1), (27, .ifCond .eq 17, 3), (30, .aload_n 0, 1), (31, .iload_n 2, 1), (32, .iconst (-1), 1), (33, .iconst (-1), 1), (34, .invokevirtual 474, 3), (37, .iload_n 1, 1), (38, .iand, 1), (39, .ifCond .ne 5, 3), (42, .iconst 0, 1), (43, .ireturn, 1), (44, .iinc 2 1, 3), (47, .goto (-35), 3), (50, .iconst 1, 1), (51, .ireturn, 1)]
theorem dt_X10_isDefended : dOk cX10_isDefended tb_X10_isDefended = true := by decide +kernel
def fX10_isDefended_44 (rec12 : Hp → Int32 → Int32 → Option (Int32 × Hp)) (h : Hp) (x1 : Int32) (x2 : Int32) : Option (Int32 × Hp) := rec12 h x1 (x2 + (1 : Int32))
def fX10_isDefended_12 : Nat → Hp → Int32 → Int32 → Option (Int32 × Hp)
  | 0, _, _, _ => none
  | fu + 1, h, x1, x2 => if (hI h 107 12) ≤ x2 then (some ((1 : Int32), h)) else (bnd (fX10_againstBy h x2) (fun v_5 h_6 => if (v_5 &&& x1) = 0 then (fX10_isDefended_44 (fX10_isDefended_12 fu) h_6 x1 x2) else (bnd (fX10_againstIt h_6 x2 (-1 : Int32) (-1 : Int32)) (fun v_8 h_9 => if (v_8 &&& x1) = 0 then (some ((0 : Int32), h_9)) else (fX10_isDefended_44 (fX10_isDefended_12 fu) h_9 x1 x2)))))
def fX10_isDefended (h : Hp) (x1 : Int32) : Option (Int32 × Hp) := bnd (fX10_isCalm h x1) (fun v_1 h_2 => if v_1 = 0 then (some ((0 : Int32), h_2)) else (fX10_isDefended_12 FU h_2 x1 (0 : Int32)))
set_option maxRecDepth 100000 in
set_option maxHeartbeats 4000000 in
theorem c_X10_isDefended {l : Launch} {sb : State} {D : va_G} {ids : Nat → ClassId} {n : Nat} (hN : 152 ≤ n) (h : Hp) (x1 : Int32) (r : Int32 × Hp) (hr : fX10_isDefended h x1 = some r) : jM l yX10_isDefended cX10_isDefended 3 (some .boolean) 2 sb D ids shp St n [.ref 107, .int x1] h (jQi sb D ids shp St n r) := by
  refine jM_of hr rfl (Nat.le_of_ble_eq_true rfl) ?_
  intro p e s m args below meth c hC hret
  have b44 : ∀ (rec12 : Hp → Int32 → Int32 → Option (Int32 × Hp)) (hrec12 : ∀ (h : Hp) (x1 : Int32) (x2 : Int32) , jJ p l e (rmD 2) s m args below meth c 3 sb D ids shp St (fun r => MQ below (jQi sb D ids shp St n r) args s 0 0 (jA sb)) n 0 0 h 12 [(0, .ref 107), (1, .int x1), (2, .int x2)] [] (rec12 h x1 x2)) (h : Hp) (x1 : Int32) (x2 : Int32) , jJ p l e (rmD 2) s m args below meth c 3 sb D ids shp St (fun r => MQ below (jQi sb D ids shp St n r) args s 0 0 (jA sb)) n 0 0 h 44 [(0, .ref 107), (1, .int x1), (2, .int x2)] [] (fX10_isDefended_44 rec12 h x1 x2) := by
    intro rec12 hrec12 h x1 x2 
    unfold fX10_isDefended_44
    refine j_iinc hC (v := (x2 + (1 : Int32))) (lv' := [(2, .int (x2 + (1 : Int32))), (0, .ref 107), (1, .int x1)]) 2 rfl (congrArg (fun z => x2 + z) (show Int32.ofInt (1) = (1 : Int32) from by decide)) (by decide) rfl (dOk_at dt_X10_isDefended 28 rfl) ?_
    refine j_goto hC (tgt := 12) (by decide) (dOk_at dt_X10_isDefended 29 rfl) ?_
    refine j_sub [1, 2, 0] rfl ?_
    exact hrec12 h x1 (x2 + (1 : Int32)) 
  have b12 : ∀ (fu : Nat) (h : Hp) (x1 : Int32) (x2 : Int32) , jJ p l e (rmD 2) s m args below meth c 3 sb D ids shp St (fun r => MQ below (jQi sb D ids shp St n r) args s 0 0 (jA sb)) n 0 0 h 12 [(0, .ref 107), (1, .int x1), (2, .int x2)] [] (fX10_isDefended_12 fu h x1 x2) := by
    intro fu 
    induction fu with
    | zero => intro h x1 x2 ; exact j_none
    | succ fu ih =>
    intro h x1 x2 
    rw [fX10_isDefended_12]
    refine j_iload_n hC 2 rfl rfl (dOk_at dt_X10_isDefended 8 rfl) ?_
    refine j_aload_n hC 0 rfl rfl (dOk_at dt_X10_isDefended 9 rfl) ?_
    refine j_getI hC flX10_243 (show shp 107 = (10, 88) from rfl) (Nat.lt_of_lt_of_le (Nat.le_of_ble_eq_true rfl : 107 < 152) hN) (by decide) (by decide) (fun _ _ _ => rfl) (dOk_at dt_X10_isDefended 10 rfl) ?_
    refine j_icmp_ge hC (tgt := 50) (by decide) (dOk_at dt_X10_isDefended 11 rfl) (fun q_4 => ?_) (fun q_4 => ?_)
    · refine j_iconst hC (v := (1 : Int32)) rfl (dOk_at dt_X10_isDefended 30 rfl) ?_
      exact j_zretK hC hret rfl (dOk_at dt_X10_isDefended 31 rfl)
    · refine j_aload_n hC 0 rfl rfl (dOk_at dt_X10_isDefended 12 rfl) ?_
      refine j_iload_n hC 2 rfl rfl (dOk_at dt_X10_isDefended 13 rfl) ?_
      refine j_callVi hC clX10_471 (fun rz hrz => c_X10_againstBy hN _ _ rz hrz) (show shp 107 = (10, 88) from rfl) (Nat.lt_of_lt_of_le (Nat.le_of_ble_eq_true rfl : 107 < 152) hN) (by decide) rfl rfl ⟨Nat.le_of_ble_eq_true rfl, Nat.le_of_ble_eq_true rfl⟩ ⟨Nat.le_refl 0, Nat.le_refl 0⟩ (As := [.int x2]) (st := []) rfl (Nat.le_of_ble_eq_true rfl) (dOk_at dt_X10_isDefended 14 rfl) (fun v_5 h_6 _ => ?_)
      refine j_iload_n hC 1 rfl rfl (dOk_at dt_X10_isDefended 15 rfl) ?_
      refine j_iand hC (dOk_at dt_X10_isDefended 16 rfl) ?_
      refine j_if_eq hC (tgt := 44) (by decide) (dOk_at dt_X10_isDefended 17 rfl) (fun q_7 => ?_) (fun q_7 => ?_)
      · exact b44 (fX10_isDefended_12 fu) ih h_6 x1 x2 
      · refine j_aload_n hC 0 rfl rfl (dOk_at dt_X10_isDefended 18 rfl) ?_
        refine j_iload_n hC 2 rfl rfl (dOk_at dt_X10_isDefended 19 rfl) ?_
        refine j_iconst hC (v := (-1 : Int32)) rfl (dOk_at dt_X10_isDefended 20 rfl) ?_
        refine j_iconst hC (v := (-1 : Int32)) rfl (dOk_at dt_X10_isDefended 21 rfl) ?_
        refine j_callVi hC clX10_474 (fun rz hrz => c_X10_againstIt hN _ _ _ _ rz hrz) (show shp 107 = (10, 88) from rfl) (Nat.lt_of_lt_of_le (Nat.le_of_ble_eq_true rfl : 107 < 152) hN) (by decide) rfl rfl ⟨Nat.le_of_ble_eq_true rfl, Nat.le_of_ble_eq_true rfl⟩ ⟨Nat.le_refl 0, Nat.le_refl 0⟩ (As := [.int x2, .int (-1 : Int32), .int (-1 : Int32)]) (st := []) rfl (Nat.le_of_ble_eq_true rfl) (dOk_at dt_X10_isDefended 22 rfl) (fun v_8 h_9 _ => ?_)
        refine j_iload_n hC 1 rfl rfl (dOk_at dt_X10_isDefended 23 rfl) ?_
        refine j_iand hC (dOk_at dt_X10_isDefended 24 rfl) ?_
        refine j_if_ne hC (tgt := 44) (by decide) (dOk_at dt_X10_isDefended 25 rfl) (fun q_10 => ?_) (fun q_10 => ?_)
        · exact b44 (fX10_isDefended_12 fu) ih h_9 x1 x2 
        · refine j_iconst hC (v := (0 : Int32)) rfl (dOk_at dt_X10_isDefended 26 rfl) ?_
          exact j_zretK hC hret rfl (dOk_at dt_X10_isDefended 27 rfl)
  unfold fX10_isDefended
  refine j_aload_n hC 0 rfl rfl (dOk_at dt_X10_isDefended 0 rfl) ?_
  refine j_iload_n hC 1 rfl rfl (dOk_at dt_X10_isDefended 1 rfl) ?_
  refine j_callVi hC clX10_501 (fun rz hrz => c_X10_isCalm hN _ _ rz hrz) (show shp 107 = (10, 88) from rfl) (Nat.lt_of_lt_of_le (Nat.le_of_ble_eq_true rfl : 107 < 152) hN) (by decide) rfl rfl ⟨Nat.le_of_ble_eq_true rfl, Nat.le_of_ble_eq_true rfl⟩ ⟨Nat.le_refl 0, Nat.le_refl 0⟩ (As := [.int x1]) (st := []) rfl (Nat.le_of_ble_eq_true rfl) (dOk_at dt_X10_isDefended 2 rfl) (fun v_1 h_2 _ => ?_)
  refine j_if_ne hC (tgt := 10) (by decide) (dOk_at dt_X10_isDefended 3 rfl) (fun q_3 => ?_) (fun q_3 => ?_)
  · refine j_iconst hC (v := (0 : Int32)) rfl (dOk_at dt_X10_isDefended 6 rfl) ?_
    refine j_istore_n hC rfl (lv' := [(2, .int (0 : Int32)), (0, .ref 107), (1, .int x1)]) (by decide) rfl (dOk_at dt_X10_isDefended 7 rfl) ?_
    refine j_sub [1, 2, 0] rfl ?_
    exact b12 FU h_2 x1 (0 : Int32) 
  · refine j_iconst hC (v := (0 : Int32)) rfl (dOk_at dt_X10_isDefended 4 rfl) ?_
    exact j_zretK hC hret rfl (dOk_at dt_X10_isDefended 5 rfl)
def tb_X10_set : List (Nat × Instr × Nat) := [(0, .aload_n 0, 1), (1, .iconst 0, 1), (2, .putfield 157, 3), (5, .iload_n 1, 1), (6, .ifCond .lt 21, 3), (9, .iload_n 1, 1), (10, .aload_n 0, 1), (11, .getfield 243, 3), (14, .ishr, 1), (15, .ifCond .ne 12, 3), (18, .iload_n 2, 1), (19, .iconst 0, 1), (20, .iconst 2, 1), (21, .invokestatic 202, 3), (24, .ifCond .ne 5, 3), (27, .iconst (-1), 1), (28, .ireturn, 1), (29, .iload_n 2, 1), (30, .ifCond .ne 11, 3), (33, .aload_n 0, 1), (34, .iload_n 1, 1), (35, .invokevirtual 501, 3), (38, .goto 21, 3), (41, .iload_n 2, 1), (42, .iconst 1, 1), (43, .if_icmp .ne 11, 3), (46, .aload_n 0, 1), (47, .iload_n 1, 1), (48, .invokevirtual 504, 3), (51, .goto 8, 3), (54, .aload_n 0, 1), (55, .iload_n 1, 1), (56, .invokevirtual 507, 3), (59, .istore_n 3, 1), (60, .iload_n 3, 1), (61, .ifCond .eq 7, 3), (64, .iconst 1, 1), (65, .goto 4, 3), (68, .iconst 0, 1), (69, .ireturn, 1)]
theorem dt_X10_set : dOk cX10_set tb_X10_set = true := by decide +kernel
def fX10_set_59 (h : Hp) (s0 : Int32) : Option (Int32 × Hp) := if s0 = 0 then (some ((0 : Int32), h)) else (some ((1 : Int32), h))
def fX10_set (h : Hp) (x1 : Int32) (x2 : Int32) : Option (Int32 × Hp) := if x1 < 0 then (some ((-1 : Int32), (uI h 107 2 (0 : Int32)))) else (if (x1 >>> ((hI (uI h 107 2 (0 : Int32)) 107 12) &&& 31)) = 0 then (bnd (fX10_isIn (uI h 107 2 (0 : Int32)) x2 (0 : Int32) (2 : Int32)) (fun v_3 h_4 => if v_3 = 0 then (some ((-1 : Int32), h_4)) else (if x2 = 0 then (bnd (fX10_isCalm h_4 x1) (fun v_12 h_13 => fX10_set_59 h_13 v_12)) else (if x2 = (1 : Int32) then (bnd (fX10_isStanding h_4 x1) (fun v_10 h_11 => fX10_set_59 h_11 v_10)) else (bnd (fX10_isDefended h_4 x1) (fun v_8 h_9 => fX10_set_59 h_9 v_8)))))) else (some ((-1 : Int32), (uI h 107 2 (0 : Int32)))))
set_option maxRecDepth 100000 in
set_option maxHeartbeats 4000000 in
theorem c_X10_set {l : Launch} {sb : State} {D : va_G} {ids : Nat → ClassId} {n : Nat} (hN : 152 ≤ n) (h : Hp) (x1 : Int32) (x2 : Int32) (r : Int32 × Hp) (hr : fX10_set h x1 x2 = some r) : jM l yX10_set cX10_set 4 (some .int) 3 sb D ids shp St n [.ref 107, .int x1, .int x2] h (jQi sb D ids shp St n r) := by
  refine jM_of hr rfl (Nat.le_of_ble_eq_true rfl) ?_
  intro p e s m args below meth c hC hret
  have b59 : ∀ (h : Hp) (s0 : Int32) , jJ p l e (rmD 3) s m args below meth c 4 sb D ids shp St (fun r => MQ below (jQi sb D ids shp St n r) args s 0 0 (jA sb)) n 0 0 h 59 [] [.int s0] (fX10_set_59 h s0) := by
    intro h s0 
    unfold fX10_set_59
    refine j_istore_n hC rfl (lv' := [(3, .int s0)]) (by decide) rfl (dOk_at dt_X10_set 33 rfl) ?_
    refine j_iload_n hC 0 rfl rfl (dOk_at dt_X10_set 34 rfl) ?_
    refine j_if_eq hC (tgt := 68) (by decide) (dOk_at dt_X10_set 35 rfl) (fun q_14 => ?_) (fun q_14 => ?_)
    · refine j_iconst hC (v := (0 : Int32)) rfl (dOk_at dt_X10_set 38 rfl) ?_
      exact j_iret hC hret (dOk_at dt_X10_set 39 rfl)
    · refine j_iconst hC (v := (1 : Int32)) rfl (dOk_at dt_X10_set 36 rfl) ?_
      refine j_goto hC (tgt := 69) (by decide) (dOk_at dt_X10_set 37 rfl) ?_
      exact j_iret hC hret (dOk_at dt_X10_set 39 rfl)
  unfold fX10_set
  refine j_aload_n hC 0 rfl rfl (dOk_at dt_X10_set 0 rfl) ?_
  refine j_iconst hC (v := (0 : Int32)) rfl (dOk_at dt_X10_set 1 rfl) ?_
  refine j_putI hC St_SP flX10_157 (show shp 107 = (10, 88) from rfl) (Nat.lt_of_lt_of_le (Nat.le_of_ble_eq_true rfl : 107 < 152) hN) (by decide) (by decide) rfl rfl (dOk_at dt_X10_set 2 rfl) ?_
  refine j_iload_n hC 1 rfl rfl (dOk_at dt_X10_set 3 rfl) ?_
  refine j_if_lt hC (tgt := 27) (by decide) (dOk_at dt_X10_set 4 rfl) (fun q_1 => ?_) (fun q_1 => ?_)
  · refine j_iconst hC (v := (-1 : Int32)) rfl (dOk_at dt_X10_set 15 rfl) ?_
    exact j_iret hC hret (dOk_at dt_X10_set 16 rfl)
  · refine j_iload_n hC 1 rfl rfl (dOk_at dt_X10_set 5 rfl) ?_
    refine j_aload_n hC 0 rfl rfl (dOk_at dt_X10_set 6 rfl) ?_
    refine j_getI hC flX10_243 (show shp 107 = (10, 88) from rfl) (Nat.lt_of_lt_of_le (Nat.le_of_ble_eq_true rfl : 107 < 152) hN) (by decide) (by decide) (fun _ _ _ => rfl) (dOk_at dt_X10_set 7 rfl) ?_
    refine j_ishr hC (dOk_at dt_X10_set 8 rfl) ?_
    refine j_if_ne hC (tgt := 27) (by decide) (dOk_at dt_X10_set 9 rfl) (fun q_2 => ?_) (fun q_2 => ?_)
    · refine j_iconst hC (v := (-1 : Int32)) rfl (dOk_at dt_X10_set 15 rfl) ?_
      exact j_iret hC hret (dOk_at dt_X10_set 16 rfl)
    · refine j_iload_n hC 2 rfl rfl (dOk_at dt_X10_set 10 rfl) ?_
      refine j_iconst hC (v := (0 : Int32)) rfl (dOk_at dt_X10_set 11 rfl) ?_
      refine j_iconst hC (v := (2 : Int32)) rfl (dOk_at dt_X10_set 12 rfl) ?_
      refine j_callSi hC clX10_202 (fun rz hrz => c_X10_isIn hN _ _ _ _ rz hrz) rfl ⟨Nat.le_of_ble_eq_true rfl, Nat.le_of_ble_eq_true rfl⟩ ⟨Nat.le_refl 0, Nat.le_refl 0⟩ (As := [.int x2, .int (0 : Int32), .int (2 : Int32)]) (st := []) rfl (Nat.le_of_ble_eq_true rfl) (dOk_at dt_X10_set 13 rfl) (fun v_3 h_4 _ => ?_)
      refine j_if_ne hC (tgt := 29) (by decide) (dOk_at dt_X10_set 14 rfl) (fun q_5 => ?_) (fun q_5 => ?_)
      · refine j_iload_n hC 2 rfl rfl (dOk_at dt_X10_set 17 rfl) ?_
        refine j_if_ne hC (tgt := 41) (by decide) (dOk_at dt_X10_set 18 rfl) (fun q_6 => ?_) (fun q_6 => ?_)
        · refine j_iload_n hC 2 rfl rfl (dOk_at dt_X10_set 23 rfl) ?_
          refine j_iconst hC (v := (1 : Int32)) rfl (dOk_at dt_X10_set 24 rfl) ?_
          refine j_icmp_ne hC (tgt := 54) (by decide) (dOk_at dt_X10_set 25 rfl) (fun q_7 => ?_) (fun q_7 => ?_)
          · refine j_aload_n hC 0 rfl rfl (dOk_at dt_X10_set 30 rfl) ?_
            refine j_iload_n hC 1 rfl rfl (dOk_at dt_X10_set 31 rfl) ?_
            refine j_callVi hC clX10_507 (fun rz hrz => c_X10_isDefended hN _ _ rz hrz) (show shp 107 = (10, 88) from rfl) (Nat.lt_of_lt_of_le (Nat.le_of_ble_eq_true rfl : 107 < 152) hN) (by decide) rfl rfl ⟨Nat.le_of_ble_eq_true rfl, Nat.le_of_ble_eq_true rfl⟩ ⟨Nat.le_refl 0, Nat.le_refl 0⟩ (As := [.int x1]) (st := []) rfl (Nat.le_of_ble_eq_true rfl) (dOk_at dt_X10_set 32 rfl) (fun v_8 h_9 _ => ?_)
            refine j_sub [] rfl ?_
            exact b59 h_9 v_8 
          · refine j_aload_n hC 0 rfl rfl (dOk_at dt_X10_set 26 rfl) ?_
            refine j_iload_n hC 1 rfl rfl (dOk_at dt_X10_set 27 rfl) ?_
            refine j_callVi hC clX10_504 (fun rz hrz => c_X10_isStanding hN _ _ rz hrz) (show shp 107 = (10, 88) from rfl) (Nat.lt_of_lt_of_le (Nat.le_of_ble_eq_true rfl : 107 < 152) hN) (by decide) rfl rfl ⟨Nat.le_of_ble_eq_true rfl, Nat.le_of_ble_eq_true rfl⟩ ⟨Nat.le_refl 0, Nat.le_refl 0⟩ (As := [.int x1]) (st := []) rfl (Nat.le_of_ble_eq_true rfl) (dOk_at dt_X10_set 28 rfl) (fun v_10 h_11 _ => ?_)
            refine j_goto hC (tgt := 59) (by decide) (dOk_at dt_X10_set 29 rfl) ?_
            refine j_sub [] rfl ?_
            exact b59 h_11 v_10 
        · refine j_aload_n hC 0 rfl rfl (dOk_at dt_X10_set 19 rfl) ?_
          refine j_iload_n hC 1 rfl rfl (dOk_at dt_X10_set 20 rfl) ?_
          refine j_callVi hC clX10_501 (fun rz hrz => c_X10_isCalm hN _ _ rz hrz) (show shp 107 = (10, 88) from rfl) (Nat.lt_of_lt_of_le (Nat.le_of_ble_eq_true rfl : 107 < 152) hN) (by decide) rfl rfl ⟨Nat.le_of_ble_eq_true rfl, Nat.le_of_ble_eq_true rfl⟩ ⟨Nat.le_refl 0, Nat.le_refl 0⟩ (As := [.int x1]) (st := []) rfl (Nat.le_of_ble_eq_true rfl) (dOk_at dt_X10_set 21 rfl) (fun v_12 h_13 _ => ?_)
          refine j_goto hC (tgt := 59) (by decide) (dOk_at dt_X10_set 22 rfl) ?_
          refine j_sub [] rfl ?_
          exact b59 h_13 v_12 
      · refine j_iconst hC (v := (-1 : Int32)) rfl (dOk_at dt_X10_set 15 rfl) ?_
        exact j_iret hC hret (dOk_at dt_X10_set 16 rfl)
