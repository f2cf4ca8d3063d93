def tb_X10_thereIn : List (Nat × Instr × Nat) := [(0, .aload_n 0, 1), (1, .getfield 175, 3), (4, .iconst 2, 1), (5, .if_icmp .eq 9, 3), (8, .aload_n 0, 1), (9, .iconst 1, 1), (10, .invokevirtual 199, 3), (13, .ireturn, 1), (14, .aload_n 1, 1), (15, .iload_n 2, 1), (16, .iload_n 3, 1), (17, .aload_n 0, 1), (18, .getfield 186, 3), (21, .invokestatic 271, 3), (24, .istore 4, 2), (26, .iload 4, 2), (28, .ifCond .ge 9, 3), (31, .aload_n 0, 1), (32, .iconst 4, 1), (33, .invokevirtual 199, 3), (36, .ireturn, 1), (37, .aload_n 0, 1), (38, .invokevirtual 209, 3), (41, .aload_n 0, 1), (42, .iload 4, 2), (44, .putfield 206, 3), (47, .iconst 1, 1), (48, .ireturn, 1)]
theorem dt_X10_thereIn : dOk cX10_thereIn tb_X10_thereIn = true := by decide +kernel
def fX10_thereIn (r1 : Nat) (n1 : Nat) (h : Hp) (x2 : Int32) (x3 : Int32) : Option (Int32 × Hp) := if (hI h 107 8) = (2 : Int32) then (bnd (fX10_find r1 n1 h x2 x3 (hI h 107 9)) (fun v_2 h_3 => if 0 ≤ v_2 then ((fX10_token h_3).bind (fun h_6 => some ((1 : Int32), (uI h_6 107 11 v_2)))) else (bnd (fX10_wrong h_3 (4 : Int32)) (fun v_7 h_8 => if isZ v_7 then some (v_7, h_8) else none)))) else (bnd (fX10_wrong h (1 : Int32)) (fun v_9 h_10 => if isZ v_9 then some (v_9, h_10) else none))
set_option maxRecDepth 100000 in
set_option maxHeartbeats 4000000 in
theorem c_X10_thereIn {l : Launch} {sb : State} {D : va_G} {ids : Nat → ClassId} {n : Nat} (hN : 152 ≤ n) {r1 : Nat} {n1 : Nat} (h1 : shp r1 = (21, n1)) (h : Hp) (x2 : Int32) (x3 : Int32) (r : Int32 × Hp) (hr : fX10_thereIn r1 n1 h x2 x3 = some r) : jM l yX10_thereIn cX10_thereIn 5 (some .boolean) 2 sb D ids shp St n [.ref 107, .ref r1, .int x2, .int x3] h (jQi sb D ids shp St n r) := by
  refine jM_of hr rfl (Nat.le_of_ble_eq_true rfl) ?_
  intro p e s m args below meth c hC hret
  unfold fX10_thereIn
  refine j_aload_n hC 0 rfl rfl (dOk_at dt_X10_thereIn 0 rfl) ?_
  refine j_getI hC flX10_175 (show shp 107 = (10, 88) from rfl) (Nat.lt_of_lt_of_le (Nat.le_of_ble_eq_true rfl : 107 < 152) hN) (by decide) (by decide) (fun _ _ _ => rfl) (dOk_at dt_X10_thereIn 1 rfl) ?_
  refine j_iconst hC (v := (2 : Int32)) rfl (dOk_at dt_X10_thereIn 2 rfl) ?_
  refine j_icmp_eq hC (tgt := 14) (by decide) (dOk_at dt_X10_thereIn 3 rfl) (fun q_1 => ?_) (fun q_1 => ?_)
  · refine j_aload_n hC 1 rfl rfl (dOk_at dt_X10_thereIn 8 rfl) ?_
    refine j_iload_n hC 2 rfl rfl (dOk_at dt_X10_thereIn 9 rfl) ?_
    refine j_iload_n hC 3 rfl rfl (dOk_at dt_X10_thereIn 10 rfl) ?_
    refine j_aload_n hC 0 rfl rfl (dOk_at dt_X10_thereIn 11 rfl) ?_
    refine j_getI hC flX10_186 (show shp 107 = (10, 88) from rfl) (Nat.lt_of_lt_of_le (Nat.le_of_ble_eq_true rfl : 107 < 152) hN) (by decide) (by decide) (fun _ _ _ => rfl) (dOk_at dt_X10_thereIn 12 rfl) ?_
    refine j_callSi hC clX10_271 (fun rz hrz => c_X10_find hN (h1) _ _ _ _ rz hrz) rfl ⟨Nat.le_of_ble_eq_true rfl, Nat.le_of_ble_eq_true rfl⟩ ⟨Nat.le_refl 0, Nat.le_refl 0⟩ (As := [.ref r1, .int x2, .int x3, .int (hI h 107 9)]) (st := []) rfl (Nat.le_of_ble_eq_true rfl) (dOk_at dt_X10_thereIn 13 rfl) (fun v_2 h_3 _ => ?_)
    refine j_istore hC (lv' := [(4, .int v_2), (0, .ref 107), (1, .ref r1), (2, .int x2), (3, .int x3)]) (by decide) rfl (dOk_at dt_X10_thereIn 14 rfl) ?_
    refine j_iload hC 0 rfl (dOk_at dt_X10_thereIn 15 rfl) ?_
    refine j_if_ge hC (tgt := 37) (by decide) (dOk_at dt_X10_thereIn 16 rfl) (fun q_4 => ?_) (fun q_4 => ?_)
    · refine j_aload_n hC 1 rfl rfl (dOk_at dt_X10_thereIn 21 rfl) ?_
      refine j_callVv hC clX10_209 (fun rz hrz => c_X10_token hN _ rz hrz) (show shp 107 = (10, 88) from rfl) (Nat.lt_of_lt_of_le (Nat.le_of_ble_eq_true rfl : 107 < 152) hN) (by decide) rfl rfl ⟨Nat.le_of_ble_eq_true rfl, Nat.le_of_ble_eq_true rfl⟩ ⟨Nat.le_refl 0, Nat.le_refl 0⟩ (As := []) (st := []) rfl (Nat.le_of_ble_eq_true rfl) (dOk_at dt_X10_thereIn 22 rfl) (fun h_6 _ => ?_)
      refine j_aload_n hC 1 rfl rfl (dOk_at dt_X10_thereIn 23 rfl) ?_
      refine j_iload hC 0 rfl (dOk_at dt_X10_thereIn 24 rfl) ?_
      refine j_putI hC St_SP flX10_206 (show shp 107 = (10, 88) from rfl) (Nat.lt_of_lt_of_le (Nat.le_of_ble_eq_true rfl : 107 < 152) hN) (by decide) (by decide) rfl rfl (dOk_at dt_X10_thereIn 25 rfl) ?_
      refine j_iconst hC (v := (1 : Int32)) rfl (dOk_at dt_X10_thereIn 26 rfl) ?_
      exact j_zretK hC hret rfl (dOk_at dt_X10_thereIn 27 rfl)
    · refine j_aload_n hC 1 rfl rfl (dOk_at dt_X10_thereIn 17 rfl) ?_
      refine j_iconst hC (v := (4 : Int32)) rfl (dOk_at dt_X10_thereIn 18 rfl) ?_
      refine j_callVi hC clX10_199 (fun rz hrz => c_X10_wrong hN _ _ rz hrz) (show shp 107 = (10, 88) from rfl) (Nat.lt_of_lt_of_le (Nat.le_of_ble_eq_true rfl : 107 < 152) hN) (by decide) rfl rfl ⟨Nat.le_of_ble_eq_true rfl, Nat.le_of_ble_eq_true rfl⟩ ⟨Nat.le_refl 0, Nat.le_refl 0⟩ (As := [.int (4 : Int32)]) (st := []) rfl (Nat.le_of_ble_eq_true rfl) (dOk_at dt_X10_thereIn 19 rfl) (fun v_7 h_8 _ => ?_)
      exact j_zret hC hret (dOk_at dt_X10_thereIn 20 rfl)
  · refine j_aload_n hC 0 rfl rfl (dOk_at dt_X10_thereIn 4 rfl) ?_
    refine j_iconst hC (v := (1 : Int32)) rfl (dOk_at dt_X10_thereIn 5 rfl) ?_
    refine j_callVi hC clX10_199 (fun rz hrz => c_X10_wrong hN _ _ rz hrz) (show shp 107 = (10, 88) from rfl) (Nat.lt_of_lt_of_le (Nat.le_of_ble_eq_true rfl : 107 < 152) hN) (by decide) rfl rfl ⟨Nat.le_of_ble_eq_true rfl, Nat.le_of_ble_eq_true rfl⟩ ⟨Nat.le_refl 0, Nat.le_refl 0⟩ (As := [.int (1 : Int32)]) (st := []) rfl (Nat.le_of_ble_eq_true rfl) (dOk_at dt_X10_thereIn 6 rfl) (fun v_9 h_10 _ => ?_)
    exact j_zret hC hret (dOk_at dt_X10_thereIn 7 rfl)
def tb_X10_claimLine : List (Nat × Instr × Nat) := [(0, .aload_n 0, 1), (1, .getfield 219, 3), (4, .bipush 8, 2), (6, .if_icmp .ne 9, 3), (9, .aload_n 0, 1), (10, .iconst 2, 1), (11, .invokevirtual 199, 3), (14, .ireturn, 1), (15, .aload_n 0, 1), (16, .invokevirtual 209, 3), (19, .aload_n 0, 1), (20, .aload_n 0, 1), (21, .getfield 27, 3), (24, .bipush 8, 2), (26, .aload_n 0, 1), (27, .getfield 219, 3), (30, .invokevirtual 275, 3), (33, .ifCond .ne 5, 3), (36, .iconst 0, 1), (37, .ireturn, 1), (38, .bipush 8, 2), (40, .aload_n 0, 1), (41, .getfield 219, 3), (44, .iadd, 1), (45, .istore_n 1, 1), (46, .aload_n 0, 1), (47, .iconst 0, 1), (48, .bipush 99, 2), (50, .invokevirtual 215, 3), (53, .ifCond .ne 5, 3), (56, .iconst 0, 1), (57, .ireturn, 1), (58, .aload_n 0, 1), (59, .getfield 30, 3), (62, .iload_n 1, 1), (63, .aload_n 0, 1), (64, .getfield 206, 3), (67, .iastore, 1), (68, .aload_n 0, 1), (69, .iconst 0, 1), (70, .bipush 9, 2), (72, .invokevirtual 215, 3), (75, .ifCond .ne 5, 3), (78, .iconst 0, 1), (79, .ireturn, 1), (80, .aload_n 0, 1), (81, .getfield 33, 3), (84, .iload_n 1, 1), (85, .aload_n 0, 1), (86, .getfield 206, 3), (89, .iastore, 1), (90, .aload_n 0, 1), (91, .dup, 1), (92, .getfield 219, 3), (95, .iconst 1, 1), (96, .iadd, 1), (97, .putfield 219, 3), (100, .iconst 1, 1), (101, .ireturn, 1)]
theorem dt_X10_claimLine : dOk cX10_claimLine tb_X10_claimLine = true := by decide +kernel
def fX10_claimLine (h : Hp) : Option (Int32 × Hp) := if (hI h 107 19) = (8 : Int32) then (bnd (fX10_wrong h (2 : Int32)) (fun v_13 h_14 => if isZ v_13 then some (v_13, h_14) else none)) else ((fX10_token h).bind (fun h_3 => bnd (fX10_newName 112 16 h_3 (8 : Int32) (hI h_3 107 19)) (fun v_4 h_5 => if v_4 = 0 then (some ((0 : Int32), h_5)) else (bnd (fX10_number h_5 (0 : Int32) (99 : Int32)) (fun v_7 h_8 => if v_7 = 0 then (some ((0 : Int32), h_8)) else (if inb ((8 : Int32) + (hI h_5 107 19)) 16 then (bnd (fX10_number (uI h_8 113 (Int32.toNatClampNeg ((8 : Int32) + (hI h_5 107 19))) (hI h_8 107 11)) (0 : Int32) (9 : Int32)) (fun v_10 h_11 => if v_10 = 0 then (some ((0 : Int32), h_11)) else (if inb ((8 : Int32) + (hI h_5 107 19)) 16 then (some ((1 : Int32), (uI (uI h_11 114 (Int32.toNatClampNeg ((8 : Int32) + (hI h_5 107 19))) (hI h_11 107 11)) 107 19 ((hI (uI h_11 114 (Int32.toNatClampNeg ((8 : Int32) + (hI h_5 107 19))) (hI h_11 107 11)) 107 19) + (1 : Int32))))) else none))) else none))))))
set_option maxRecDepth 100000 in
set_option maxHeartbeats 4000000 in
theorem c_X10_claimLine {l : Launch} {sb : State} {D : va_G} {ids : Nat → ClassId} {n : Nat} (hN : 152 ≤ n) (h : Hp) (r : Int32 × Hp) (hr : fX10_claimLine h = some r) : jM l yX10_claimLine cX10_claimLine 2 (some .boolean) 3 sb D ids shp St n [.ref 107] h (jQi sb D ids shp St n r) := by
  refine jM_of hr rfl (Nat.le_of_ble_eq_true rfl) ?_
  intro p e s m args below meth c hC hret
  unfold fX10_claimLine
  refine j_aload_n hC 0 rfl rfl (dOk_at dt_X10_claimLine 0 rfl) ?_
  refine j_getI hC flX10_219 (show shp 107 = (10, 88) from rfl) (Nat.lt_of_lt_of_le (Nat.le_of_ble_eq_true rfl : 107 < 152) hN) (by decide) (by decide) (fun _ _ _ => rfl) (dOk_at dt_X10_claimLine 1 rfl) ?_
  refine j_bipush hC (v := (8 : Int32)) rfl (dOk_at dt_X10_claimLine 2 rfl) ?_
  refine j_icmp_ne hC (tgt := 15) (by decide) (dOk_at dt_X10_claimLine 3 rfl) (fun q_1 => ?_) (fun q_1 => ?_)
  · refine j_aload_n hC 0 rfl rfl (dOk_at dt_X10_claimLine 8 rfl) ?_
    refine j_callVv hC clX10_209 (fun rz hrz => c_X10_token hN _ rz hrz) (show shp 107 = (10, 88) from rfl) (Nat.lt_of_lt_of_le (Nat.le_of_ble_eq_true rfl : 107 < 152) hN) (by decide) rfl rfl ⟨Nat.le_of_ble_eq_true rfl, Nat.le_of_ble_eq_true rfl⟩ ⟨Nat.le_refl 0, Nat.le_refl 0⟩ (As := []) (st := []) rfl (Nat.le_of_ble_eq_true rfl) (dOk_at dt_X10_claimLine 9 rfl) (fun h_3 _ => ?_)
    refine j_aload_n hC 0 rfl rfl (dOk_at dt_X10_claimLine 10 rfl) ?_
    refine j_aload_n hC 0 rfl rfl (dOk_at dt_X10_claimLine 11 rfl) ?_
    refine j_getR hC flX10_27 (show shp 107 = (10, 88) from rfl) (Nat.lt_of_lt_of_le (Nat.le_of_ble_eq_true rfl : 107 < 152) hN) (by decide) (by decide) (fun _ _ _ => rfl) (fun hs => hs 107 28 112 rfl) (dOk_at dt_X10_claimLine 12 rfl) ?_
    refine j_bipush hC (v := (8 : Int32)) rfl (dOk_at dt_X10_claimLine 13 rfl) ?_
    refine j_aload_n hC 0 rfl rfl (dOk_at dt_X10_claimLine 14 rfl) ?_
    refine j_getI hC flX10_219 (show shp 107 = (10, 88) from rfl) (Nat.lt_of_lt_of_le (Nat.le_of_ble_eq_true rfl : 107 < 152) hN) (by decide) (by decide) (fun _ _ _ => rfl) (dOk_at dt_X10_claimLine 15 rfl) ?_
    refine j_callVi hC clX10_275 (fun rz hrz => c_X10_newName hN ((show shp 112 = (21, 16) from rfl)) _ _ _ rz hrz) (show shp 107 = (10, 88) from rfl) (Nat.lt_of_lt_of_le (Nat.le_of_ble_eq_true rfl : 107 < 152) hN) (by decide) rfl rfl ⟨Nat.le_of_ble_eq_true rfl, Nat.le_of_ble_eq_true rfl⟩ ⟨Nat.le_refl 0, Nat.le_refl 0⟩ (As := [.ref 112, .int (8 : Int32), .int (hI h_3 107 19)]) (st := []) rfl (Nat.le_of_ble_eq_true rfl) (dOk_at dt_X10_claimLine 16 rfl) (fun v_4 h_5 _ => ?_)
    refine j_if_ne hC (tgt := 38) (by decide) (dOk_at dt_X10_claimLine 17 rfl) (fun q_6 => ?_) (fun q_6 => ?_)
    · refine j_bipush hC (v := (8 : Int32)) rfl (dOk_at dt_X10_claimLine 20 rfl) ?_
      refine j_aload_n hC 0 rfl rfl (dOk_at dt_X10_claimLine 21 rfl) ?_
      refine j_getI hC flX10_219 (show shp 107 = (10, 88) from rfl) (Nat.lt_of_lt_of_le (Nat.le_of_ble_eq_true rfl : 107 < 152) hN) (by decide) (by decide) (fun _ _ _ => rfl) (dOk_at dt_X10_claimLine 22 rfl) ?_
      refine j_iadd hC (dOk_at dt_X10_claimLine 23 rfl) ?_
      refine j_istore_n hC rfl (lv' := [(1, .int ((8 : Int32) + (hI h_5 107 19))), (0, .ref 107)]) (by decide) rfl (dOk_at dt_X10_claimLine 24 rfl) ?_
      refine j_aload_n hC 1 rfl rfl (dOk_at dt_X10_claimLine 25 rfl) ?_
      refine j_iconst hC (v := (0 : Int32)) rfl (dOk_at dt_X10_claimLine 26 rfl) ?_
      refine j_bipush hC (v := (99 : Int32)) rfl (dOk_at dt_X10_claimLine 27 rfl) ?_
      refine j_callVi hC clX10_215 (fun rz hrz => c_X10_number hN _ _ _ rz hrz) (show shp 107 = (10, 88) from rfl) (Nat.lt_of_lt_of_le (Nat.le_of_ble_eq_true rfl : 107 < 152) hN) (by decide) rfl rfl ⟨Nat.le_of_ble_eq_true rfl, Nat.le_of_ble_eq_true rfl⟩ ⟨Nat.le_refl 0, Nat.le_refl 0⟩ (As := [.int (0 : Int32), .int (99 : Int32)]) (st := []) rfl (Nat.le_of_ble_eq_true rfl) (dOk_at dt_X10_claimLine 28 rfl) (fun v_7 h_8 _ => ?_)
      refine j_if_ne hC (tgt := 58) (by decide) (dOk_at dt_X10_claimLine 29 rfl) (fun q_9 => ?_) (fun q_9 => ?_)
      · refine j_aload_n hC 1 rfl rfl (dOk_at dt_X10_claimLine 32 rfl) ?_
        refine j_getR hC flX10_30 (show shp 107 = (10, 88) from rfl) (Nat.lt_of_lt_of_le (Nat.le_of_ble_eq_true rfl : 107 < 152) hN) (by decide) (by decide) (fun _ _ _ => rfl) (fun hs => hs 107 29 113 rfl) (dOk_at dt_X10_claimLine 33 rfl) ?_
        refine j_iload_n hC 0 rfl rfl (dOk_at dt_X10_claimLine 34 rfl) ?_
        refine j_aload_n hC 1 rfl rfl (dOk_at dt_X10_claimLine 35 rfl) ?_
        refine j_getI hC flX10_206 (show shp 107 = (10, 88) from rfl) (Nat.lt_of_lt_of_le (Nat.le_of_ble_eq_true rfl : 107 < 152) hN) (by decide) (by decide) (fun _ _ _ => rfl) (dOk_at dt_X10_claimLine 36 rfl) ?_
        refine j_iast hC St_SP (show shp 113 = (21, 16) from rfl) (Nat.lt_of_lt_of_le (Nat.le_of_ble_eq_true rfl : 113 < 152) hN) (dOk_at dt_X10_claimLine 37 rfl) ?_
        refine j_aload_n hC 1 rfl rfl (dOk_at dt_X10_claimLine 38 rfl) ?_
        refine j_iconst hC (v := (0 : Int32)) rfl (dOk_at dt_X10_claimLine 39 rfl) ?_
        refine j_bipush hC (v := (9 : Int32)) rfl (dOk_at dt_X10_claimLine 40 rfl) ?_
        refine j_callVi hC clX10_215 (fun rz hrz => c_X10_number hN _ _ _ rz hrz) (show shp 107 = (10, 88) from rfl) (Nat.lt_of_lt_of_le (Nat.le_of_ble_eq_true rfl : 107 < 152) hN) (by decide) rfl rfl ⟨Nat.le_of_ble_eq_true rfl, Nat.le_of_ble_eq_true rfl⟩ ⟨Nat.le_refl 0, Nat.le_refl 0⟩ (As := [.int (0 : Int32), .int (9 : Int32)]) (st := []) rfl (Nat.le_of_ble_eq_true rfl) (dOk_at dt_X10_claimLine 41 rfl) (fun v_10 h_11 _ => ?_)
        refine j_if_ne hC (tgt := 80) (by decide) (dOk_at dt_X10_claimLine 42 rfl) (fun q_12 => ?_) (fun q_12 => ?_)
        · refine j_aload_n hC 1 rfl rfl (dOk_at dt_X10_claimLine 45 rfl) ?_
          refine j_getR hC flX10_33 (show shp 107 = (10, 88) from rfl) (Nat.lt_of_lt_of_le (Nat.le_of_ble_eq_true rfl : 107 < 152) hN) (by decide) (by decide) (fun _ _ _ => rfl) (fun hs => hs 107 30 114 rfl) (dOk_at dt_X10_claimLine 46 rfl) ?_
          refine j_iload_n hC 0 rfl rfl (dOk_at dt_X10_claimLine 47 rfl) ?_
          refine j_aload_n hC 1 rfl rfl (dOk_at dt_X10_claimLine 48 rfl) ?_
          refine j_getI hC flX10_206 (show shp 107 = (10, 88) from rfl) (Nat.lt_of_lt_of_le (Nat.le_of_ble_eq_true rfl : 107 < 152) hN) (by decide) (by decide) (fun _ _ _ => rfl) (dOk_at dt_X10_claimLine 49 rfl) ?_
          refine j_iast hC St_SP (show shp 114 = (21, 16) from rfl) (Nat.lt_of_lt_of_le (Nat.le_of_ble_eq_true rfl : 114 < 152) hN) (dOk_at dt_X10_claimLine 50 rfl) ?_
          refine j_aload_n hC 1 rfl rfl (dOk_at dt_X10_claimLine 51 rfl) ?_
          refine j_dupr hC (dOk_at dt_X10_claimLine 52 rfl) ?_
          refine j_getI hC flX10_219 (show shp 107 = (10, 88) from rfl) (Nat.lt_of_lt_of_le (Nat.le_of_ble_eq_true rfl : 107 < 152) hN) (by decide) (by decide) (fun _ _ _ => rfl) (dOk_at dt_X10_claimLine 53 rfl) ?_
          refine j_iconst hC (v := (1 : Int32)) rfl (dOk_at dt_X10_claimLine 54 rfl) ?_
          refine j_iadd hC (dOk_at dt_X10_claimLine 55 rfl) ?_
          refine j_putI hC St_SP flX10_219 (show shp 107 = (10, 88) from rfl) (Nat.lt_of_lt_of_le (Nat.le_of_ble_eq_true rfl : 107 < 152) hN) (by decide) (by decide) rfl rfl (dOk_at dt_X10_claimLine 56 rfl) ?_
          refine j_iconst hC (v := (1 : Int32)) rfl (dOk_at dt_X10_claimLine 57 rfl) ?_
          exact j_zretK hC hret rfl (dOk_at dt_X10_claimLine 58 rfl)
        · refine j_iconst hC (v := (0 : Int32)) rfl (dOk_at dt_X10_claimLine 43 rfl) ?_
          exact j_zretK hC hret rfl (dOk_at dt_X10_claimLine 44 rfl)
      · refine j_iconst hC (v := (0 : Int32)) rfl (dOk_at dt_X10_claimLine 30 rfl) ?_
        exact j_zretK hC hret rfl (dOk_at dt_X10_claimLine 31 rfl)
    · refine j_iconst hC (v := (0 : Int32)) rfl (dOk_at dt_X10_claimLine 18 rfl) ?_
      exact j_zretK hC hret rfl (dOk_at dt_X10_claimLine 19 rfl)
  · refine j_aload_n hC 0 rfl rfl (dOk_at dt_X10_claimLine 4 rfl) ?_
    refine j_iconst hC (v := (2 : Int32)) rfl (dOk_at dt_X10_claimLine 5 rfl) ?_
    refine j_callVi hC clX10_199 (fun rz hrz => c_X10_wrong hN _ _ rz hrz) (show shp 107 = (10, 88) from rfl) (Nat.lt_of_lt_of_le (Nat.le_of_ble_eq_true rfl : 107 < 152) hN) (by decide) rfl rfl ⟨Nat.le_of_ble_eq_true rfl, Nat.le_of_ble_eq_true rfl⟩ ⟨Nat.le_refl 0, Nat.le_refl 0⟩ (As := [.int (2 : Int32)]) (st := []) rfl (Nat.le_of_ble_eq_true rfl) (dOk_at dt_X10_claimLine 6 rfl) (fun v_13 h_14 _ => ?_)
    exact j_zret hC hret (dOk_at dt_X10_claimLine 7 rfl)
def tb_X10_contraLine : List (Nat × Instr × Nat) := [(0, .aload_n 0, 1), (1, .getfield 222, 3), (4, .bipush 16, 2), (6, .if_icmp .ne 9, 3), (9, .aload_n 0, 1), (10, .iconst 2, 1), (11, .invokevirtual 199, 3), (14, .ireturn, 1), (15, .aload_n 0, 1), (16, .invokevirtual 209, 3), (19, .aload_n 0, 1), (20, .aload_n 0, 1), (21, .getfield 27, 3), (24, .bipush 8, 2), (26, .aload_n 0, 1), (27, .getfield 219, 3), (30, .invokevirtual 279, 3), (33, .ifCond .ne 5, 3), (36, .iconst 0, 1), (37, .ireturn, 1), (38, .aload_n 0, 1), (39, .getfield 206, 3), (42, .istore_n 1, 1), (43, .aload_n 0, 1), (44, .getfield 166, 3), (47, .istore_n 2, 1), (48, .aload_n 0, 1), (49, .aload_n 0, 1), (50, .getfield 27, 3), (53, .bipush 8, 2), (55, .aload_n 0, 1), (56, .getfield 219, 3), (59, .invokevirtual 279, 3), (62, .ifCond .ne 5, 3), (65, .iconst 0, 1), (66, .ireturn, 1), (67, .aload_n 0, 1), (68, .getfield 206, 3), (71, .istore_n 3, 1), (72, .iload_n 3, 1), (73, .iload_n 1, 1), (74, .if_icmp .ne 7, 3), (77, .iconst 5, 1), (78, .goto 4, 3), (81, .iconst 0, 1), (82, .istore 4, 2), (84, .bipush 16, 2), (86, .istore 5, 2), (88, .iload 5, 2), (90, .bipush 16, 2), (92, .aload_n 0, 1), (93, .getfield 222, 3), (96, .iadd, 1), (97, .if_icmp .ge 34, 3), (100, .aload_n 0, 1), (101, .getfield 36, 3), (104, .iload 5, 2), (106, .iaload, 1), (107, .iload_n 1, 1), (108, .if_icmp .ne 17, 3), (111, .aload_n 0, 1), (112, .getfield 39, 3), (115, .iload 5, 2), (117, .iaload, 1), (118, .iload_n 3, 1), (119, .if_icmp .ne 6, 3), (122, .iconst 3, 1), (123, .istore 4, 2), (125, .iinc 5 1, 3), (128, .goto (-40), 3), (131, .iload 4, 2), (133, .ifCond .le 15, 3), (136, .aload_n 0, 1), (137, .iload_n 2, 1), (138, .putfield 166, 3), (141, .aload_n 0, 1), (142, .iload 4, 2), (144, .invokevirtual 199, 3), (147, .ireturn, 1), (148, .aload_n 0, 1), (149, .getfield 36, 3), (152, .bipush 16, 2), (154, .aload_n 0, 1), (155, .getfield 222, 3), (158, .iadd, 1), (159, .iload_n 1, 1), (160, .iastore, 1), (161, .aload_n 0, 1), (162, .getfield 39, 3), (165, .bipush 16, 2), (167, .aload_n 0, 1), (168, .getfield 222, 3), (171, .iadd, 1), (172, .iload_n 3, 1), (173, .iastore, 1), (174, .aload_n 0, 1), (175, .dup, 1), (176, .getfield 222, 3), (179, .iconst 1, 1), (180, .iadd, 1), (181, .putfield 222, 3), (184, .iconst 1, 1), (185, .ireturn, 1)]
theorem dt_X10_contraLine : dOk cX10_contraLine tb_X10_contraLine = true := by decide +kernel
def fX10_contraLine_125 (rec88 : Hp → Int32 → Int32 → Int32 → Int32 → Int32 → Option (Int32 × Hp)) (h : Hp) (x1 : Int32) (x2 : Int32) (x3 : Int32) (x4 : Int32) (x5 : Int32) : Option (Int32 × Hp) := rec88 h x1 x2 x3 x4 (x5 + (1 : Int32))
def fX10_contraLine_88 : Nat → Hp → Int32 → Int32 → Int32 → Int32 → Int32 → Option (Int32 × Hp)
  | 0, _, _, _, _, _, _ => none
  | fu + 1, h, x1, x2, x3, x4, x5 => if ((16 : Int32) + (hI h 107 20)) ≤ x5 then (if x4 ≤ 0 then (if inb ((16 : Int32) + (hI h 107 20)) 32 then (if inb ((16 : Int32) + (hI (uI h 115 (Int32.toNatClampNeg ((16 : Int32) + (hI h 107 20))) x1) 107 20)) 32 then (some ((1 : Int32), (uI (uI (uI h 115 (Int32.toNatClampNeg ((16 : Int32) + (hI h 107 20))) x1) 116 (Int32.toNatClampNeg ((16 : Int32) + (hI (uI h 115 (Int32.toNatClampNeg ((16 : Int32) + (hI h 107 20))) x1) 107 20))) x3) 107 20 ((hI (uI (uI h 115 (Int32.toNatClampNeg ((16 : Int32) + (hI h 107 20))) x1) 116 (Int32.toNatClampNeg ((16 : Int32) + (hI (uI h 115 (Int32.toNatClampNeg ((16 : Int32) + (hI h 107 20))) x1) 107 20))) x3) 107 20) + (1 : Int32))))) else none) else none) else (bnd (fX10_wrong (uI h 107 10 x2) x4) (fun v_15 h_16 => if isZ v_15 then some (v_15, h_16) else none))) else (if inb x5 32 then (if (hI h 115 (Int32.toNatClampNeg x5)) = x1 then (if inb x5 32 then (if (hI h 116 (Int32.toNatClampNeg x5)) = x3 then (fX10_contraLine_125 (fX10_contraLine_88 fu) h x1 x2 x3 (3 : Int32) x5) else (fX10_contraLine_125 (fX10_contraLine_88 fu) h x1 x2 x3 x4 x5)) else none) else (fX10_contraLine_125 (fX10_contraLine_88 fu) h x1 x2 x3 x4 x5)) else none)
def fX10_contraLine_82 (h : Hp) (x1 : Int32) (x2 : Int32) (x3 : Int32) (s0 : Int32) : Option (Int32 × Hp) := fX10_contraLine_88 FU h x1 x2 x3 s0 (16 : Int32)
def fX10_contraLine (h : Hp) : Option (Int32 × Hp) := if (hI h 107 20) = (16 : Int32) then (bnd (fX10_wrong h (2 : Int32)) (fun v_11 h_12 => if isZ v_11 then some (v_11, h_12) else none)) else ((fX10_token h).bind (fun h_3 => bnd (fX10_thereIn 112 16 h_3 (8 : Int32) (hI h_3 107 19)) (fun v_4 h_5 => if v_4 = 0 then (some ((0 : Int32), h_5)) else (bnd (fX10_thereIn 112 16 h_5 (8 : Int32) (hI h_5 107 19)) (fun v_7 h_8 => if v_7 = 0 then (some ((0 : Int32), h_8)) else (if (hI h_8 107 11) = (hI h_5 107 11) then (fX10_contraLine_82 h_8 (hI h_5 107 11) (hI h_5 107 10) (hI h_8 107 11) (5 : Int32)) else (fX10_contraLine_82 h_8 (hI h_5 107 11) (hI h_5 107 10) (hI h_8 107 11) (0 : Int32))))))))
set_option maxRecDepth 100000 in
set_option maxHeartbeats 4000000 in
theorem c_X10_contraLine {l : Launch} {sb : State} {D : va_G} {ids : Nat → ClassId} {n : Nat} (hN : 152 ≤ n) (h : Hp) (r : Int32 × Hp) (hr : fX10_contraLine h = some r) : jM l yX10_contraLine cX10_contraLine 6 (some .boolean) 3 sb D ids shp St n [.ref 107] h (jQi sb D ids shp St n r) := by
  refine jM_of hr rfl (Nat.le_of_ble_eq_true rfl) ?_
  intro p e s m args below meth c hC hret
  have b125 : ∀ (rec88 : Hp → Int32 → Int32 → Int32 → Int32 → Int32 → Option (Int32 × Hp)) (hrec88 : ∀ (h : Hp) (x1 : Int32) (x2 : Int32) (x3 : Int32) (x4 : Int32) (x5 : Int32) , jJ p l e (rmD 3) s m args below meth c 6 sb D ids shp St (fun r => MQ below (jQi sb D ids shp St n r) args s 0 0 (jA sb)) n 0 0 h 88 [(0, .ref 107), (1, .int x1), (2, .int x2), (3, .int x3), (4, .int x4), (5, .int x5)] [] (rec88 h x1 x2 x3 x4 x5)) (h : Hp) (x1 : Int32) (x2 : Int32) (x3 : Int32) (x4 : Int32) (x5 : Int32) , jJ p l e (rmD 3) s m args below meth c 6 sb D ids shp St (fun r => MQ below (jQi sb D ids shp St n r) args s 0 0 (jA sb)) n 0 0 h 125 [(0, .ref 107), (1, .int x1), (2, .int x2), (3, .int x3), (4, .int x4), (5, .int x5)] [] (fX10_contraLine_125 rec88 h x1 x2 x3 x4 x5) := by
    intro rec88 hrec88 h x1 x2 x3 x4 x5 
    unfold fX10_contraLine_125
    refine j_iinc hC (v := (x5 + (1 : Int32))) (lv' := [(5, .int (x5 + (1 : Int32))), (0, .ref 107), (1, .int x1), (2, .int x2), (3, .int x3), (4, .int x4)]) 5 rfl (congrArg (fun z => x5 + z) (show Int32.ofInt (1) = (1 : Int32) from by decide)) (by decide) rfl (dOk_at dt_X10_contraLine 68 rfl) ?_
    refine j_goto hC (tgt := 88) (by decide) (dOk_at dt_X10_contraLine 69 rfl) ?_
    refine j_sub [1, 2, 3, 4, 5, 0] rfl ?_
    exact hrec88 h x1 x2 x3 x4 (x5 + (1 : Int32)) 
  have b88 : ∀ (fu : Nat) (h : Hp) (x1 : Int32) (x2 : Int32) (x3 : Int32) (x4 : Int32) (x5 : Int32) , jJ p l e (rmD 3) s m args below meth c 6 sb D ids shp St (fun r => MQ below (jQi sb D ids shp St n r) args s 0 0 (jA sb)) n 0 0 h 88 [(0, .ref 107), (1, .int x1), (2, .int x2), (3, .int x3), (4, .int x4), (5, .int x5)] [] (fX10_contraLine_88 fu h x1 x2 x3 x4 x5) := by
    intro fu 
    induction fu with
    | zero => intro h x1 x2 x3 x4 x5 ; exact j_none
    | succ fu ih =>
    intro h x1 x2 x3 x4 x5 
    rw [fX10_contraLine_88]
    refine j_iload hC 5 rfl (dOk_at dt_X10_contraLine 48 rfl) ?_
    refine j_bipush hC (v := (16 : Int32)) rfl (dOk_at dt_X10_contraLine 49 rfl) ?_
    refine j_aload_n hC 0 rfl rfl (dOk_at dt_X10_contraLine 50 rfl) ?_
    refine j_getI hC flX10_222 (show shp 107 = (10, 88) from rfl) (Nat.lt_of_lt_of_le (Nat.le_of_ble_eq_true rfl : 107 < 152) hN) (by decide) (by decide) (fun _ _ _ => rfl) (dOk_at dt_X10_contraLine 51 rfl) ?_
    refine j_iadd hC (dOk_at dt_X10_contraLine 52 rfl) ?_
    refine j_icmp_ge hC (tgt := 131) (by decide) (dOk_at dt_X10_contraLine 53 rfl) (fun q_13 => ?_) (fun q_13 => ?_)
    · refine j_iload hC 4 rfl (dOk_at dt_X10_contraLine 70 rfl) ?_
      refine j_if_le hC (tgt := 148) (by decide) (dOk_at dt_X10_contraLine 71 rfl) (fun q_14 => ?_) (fun q_14 => ?_)
      · refine j_aload_n hC 0 rfl rfl (dOk_at dt_X10_contraLine 79 rfl) ?_
        refine j_getR hC flX10_36 (show shp 107 = (10, 88) from rfl) (Nat.lt_of_lt_of_le (Nat.le_of_ble_eq_true rfl : 107 < 152) hN) (by decide) (by decide) (fun _ _ _ => rfl) (fun hs => hs 107 31 115 rfl) (dOk_at dt_X10_contraLine 80 rfl) ?_
        refine j_bipush hC (v := (16 : Int32)) rfl (dOk_at dt_X10_contraLine 81 rfl) ?_
        refine j_aload_n hC 0 rfl rfl (dOk_at dt_X10_contraLine 82 rfl) ?_
        refine j_getI hC flX10_222 (show shp 107 = (10, 88) from rfl) (Nat.lt_of_lt_of_le (Nat.le_of_ble_eq_true rfl : 107 < 152) hN) (by decide) (by decide) (fun _ _ _ => rfl) (dOk_at dt_X10_contraLine 83 rfl) ?_
        refine j_iadd hC (dOk_at dt_X10_contraLine 84 rfl) ?_
        refine j_iload_n hC 1 rfl rfl (dOk_at dt_X10_contraLine 85 rfl) ?_
        refine j_iast hC St_SP (show shp 115 = (21, 32) from rfl) (Nat.lt_of_lt_of_le (Nat.le_of_ble_eq_true rfl : 115 < 152) hN) (dOk_at dt_X10_contraLine 86 rfl) ?_
        refine j_aload_n hC 0 rfl rfl (dOk_at dt_X10_contraLine 87 rfl) ?_
        refine j_getR hC flX10_39 (show shp 107 = (10, 88) from rfl) (Nat.lt_of_lt_of_le (Nat.le_of_ble_eq_true rfl : 107 < 152) hN) (by decide) (by decide) (fun _ _ _ => rfl) (fun hs => hs 107 32 116 rfl) (dOk_at dt_X10_contraLine 88 rfl) ?_
        refine j_bipush hC (v := (16 : Int32)) rfl (dOk_at dt_X10_contraLine 89 rfl) ?_
        refine j_aload_n hC 0 rfl rfl (dOk_at dt_X10_contraLine 90 rfl) ?_
        refine j_getI hC flX10_222 (show shp 107 = (10, 88) from rfl) (Nat.lt_of_lt_of_le (Nat.le_of_ble_eq_true rfl : 107 < 152) hN) (by decide) (by decide) (fun _ _ _ => rfl) (dOk_at dt_X10_contraLine 91 rfl) ?_
        refine j_iadd hC (dOk_at dt_X10_contraLine 92 rfl) ?_
        refine j_iload_n hC 3 rfl rfl (dOk_at dt_X10_contraLine 93 rfl) ?_
        refine j_iast hC St_SP (show shp 116 = (21, 32) from rfl) (Nat.lt_of_lt_of_le (Nat.le_of_ble_eq_true rfl : 116 < 152) hN) (dOk_at dt_X10_contraLine 94 rfl) ?_
        refine j_aload_n hC 0 rfl rfl (dOk_at dt_X10_contraLine 95 rfl) ?_
        refine j_dupr hC (dOk_at dt_X10_contraLine 96 rfl) ?_
        refine j_getI hC flX10_222 (show shp 107 = (10, 88) from rfl) (Nat.lt_of_lt_of_le (Nat.le_of_ble_eq_true rfl : 107 < 152) hN) (by decide) (by decide) (fun _ _ _ => rfl) (dOk_at dt_X10_contraLine 97 rfl) ?_
        refine j_iconst hC (v := (1 : Int32)) rfl (dOk_at dt_X10_contraLine 98 rfl) ?_
        refine j_iadd hC (dOk_at dt_X10_contraLine 99 rfl) ?_
        refine j_putI hC St_SP flX10_222 (show shp 107 = (10, 88) from rfl) (Nat.lt_of_lt_of_le (Nat.le_of_ble_eq_true rfl : 107 < 152) hN) (by decide) (by decide) rfl rfl (dOk_at dt_X10_contraLine 100 rfl) ?_
        refine j_iconst hC (v := (1 : Int32)) rfl (dOk_at dt_X10_contraLine 101 rfl) ?_
        exact j_zretK hC hret rfl (dOk_at dt_X10_contraLine 102 rfl)
      · refine j_aload_n hC 0 rfl rfl (dOk_at dt_X10_contraLine 72 rfl) ?_
        refine j_iload_n hC 2 rfl rfl (dOk_at dt_X10_contraLine 73 rfl) ?_
        refine j_putI hC St_SP flX10_166 (show shp 107 = (10, 88) from rfl) (Nat.lt_of_lt_of_le (Nat.le_of_ble_eq_true rfl : 107 < 152) hN) (by decide) (by decide) rfl rfl (dOk_at dt_X10_contraLine 74 rfl) ?_
        refine j_aload_n hC 0 rfl rfl (dOk_at dt_X10_contraLine 75 rfl) ?_
        refine j_iload hC 4 rfl (dOk_at dt_X10_contraLine 76 rfl) ?_
        refine j_callVi hC clX10_199 (fun rz hrz => c_X10_wrong hN _ _ rz hrz) (show shp 107 = (10, 88) from rfl) (Nat.lt_of_lt_of_le (Nat.le_of_ble_eq_true rfl : 107 < 152) hN) (by decide) rfl rfl ⟨Nat.le_of_ble_eq_true rfl, Nat.le_of_ble_eq_true rfl⟩ ⟨Nat.le_refl 0, Nat.le_refl 0⟩ (As := [.int x4]) (st := []) rfl (Nat.le_of_ble_eq_true rfl) (dOk_at dt_X10_contraLine 77 rfl) (fun v_15 h_16 _ => ?_)
        exact j_zret hC hret (dOk_at dt_X10_contraLine 78 rfl)
    · refine j_aload_n hC 0 rfl rfl (dOk_at dt_X10_contraLine 54 rfl) ?_
      refine j_getR hC flX10_36 (show shp 107 = (10, 88) from rfl) (Nat.lt_of_lt_of_le (Nat.le_of_ble_eq_true rfl : 107 < 152) hN) (by decide) (by decide) (fun _ _ _ => rfl) (fun hs => hs 107 31 115 rfl) (dOk_at dt_X10_contraLine 55 rfl) ?_
      refine j_iload hC 5 rfl (dOk_at dt_X10_contraLine 56 rfl) ?_
      refine j_iald hC (show shp 115 = (21, 32) from rfl) (Nat.lt_of_lt_of_le (Nat.le_of_ble_eq_true rfl : 115 < 152) hN) (dOk_at dt_X10_contraLine 57 rfl) ?_
      refine j_iload_n hC 1 rfl rfl (dOk_at dt_X10_contraLine 58 rfl) ?_
      refine j_icmp_ne hC (tgt := 125) (by decide) (dOk_at dt_X10_contraLine 59 rfl) (fun q_17 => ?_) (fun q_17 => ?_)
      · exact b125 (fX10_contraLine_88 fu) ih h x1 x2 x3 x4 x5 
      · refine j_aload_n hC 0 rfl rfl (dOk_at dt_X10_contraLine 60 rfl) ?_
        refine j_getR hC flX10_39 (show shp 107 = (10, 88) from rfl) (Nat.lt_of_lt_of_le (Nat.le_of_ble_eq_true rfl : 107 < 152) hN) (by decide) (by decide) (fun _ _ _ => rfl) (fun hs => hs 107 32 116 rfl) (dOk_at dt_X10_contraLine 61 rfl) ?_
        refine j_iload hC 5 rfl (dOk_at dt_X10_contraLine 62 rfl) ?_
        refine j_iald hC (show shp 116 = (21, 32) from rfl) (Nat.lt_of_lt_of_le (Nat.le_of_ble_eq_true rfl : 116 < 152) hN) (dOk_at dt_X10_contraLine 63 rfl) ?_
        refine j_iload_n hC 3 rfl rfl (dOk_at dt_X10_contraLine 64 rfl) ?_
        refine j_icmp_ne hC (tgt := 125) (by decide) (dOk_at dt_X10_contraLine 65 rfl) (fun q_18 => ?_) (fun q_18 => ?_)
        · exact b125 (fX10_contraLine_88 fu) ih h x1 x2 x3 x4 x5 
        · refine j_iconst hC (v := (3 : Int32)) rfl (dOk_at dt_X10_contraLine 66 rfl) ?_
          refine j_istore hC (lv' := [(4, .int (3 : Int32)), (0, .ref 107), (1, .int x1), (2, .int x2), (3, .int x3), (5, .int x5)]) (by decide) rfl (dOk_at dt_X10_contraLine 67 rfl) ?_
          refine j_sub [1, 2, 3, 4, 0, 5] rfl ?_
          exact b125 (fX10_contraLine_88 fu) ih h x1 x2 x3 (3 : Int32) x5 
  have b82 : ∀ (h : Hp) (x1 : Int32) (x2 : Int32) (x3 : Int32) (s0 : Int32) , jJ p l e (rmD 3) s m args below meth c 6 sb D ids shp St (fun r => MQ below (jQi sb D ids shp St n r) args s 0 0 (jA sb)) n 0 0 h 82 [(0, .ref 107), (1, .int x1), (2, .int x2), (3, .int x3)] [.int s0] (fX10_contraLine_82 h x1 x2 x3 s0) := by
    intro h x1 x2 x3 s0 
    unfold fX10_contraLine_82
    refine j_istore hC (lv' := [(4, .int s0), (0, .ref 107), (1, .int x1), (2, .int x2), (3, .int x3)]) (by decide) rfl (dOk_at dt_X10_contraLine 45 rfl) ?_
    refine j_bipush hC (v := (16 : Int32)) rfl (dOk_at dt_X10_contraLine 46 rfl) ?_
    refine j_istore hC (lv' := [(5, .int (16 : Int32)), (4, .int s0), (0, .ref 107), (1, .int x1), (2, .int x2), (3, .int x3)]) (by decide) rfl (dOk_at dt_X10_contraLine 47 rfl) ?_
    refine j_sub [2, 3, 4, 5, 1, 0] rfl ?_
    exact b88 FU h x1 x2 x3 s0 (16 : Int32) 
  unfold fX10_contraLine
  refine j_aload_n hC 0 rfl rfl (dOk_at dt_X10_contraLine 0 rfl) ?_
  refine j_getI hC flX10_222 (show shp 107 = (10, 88) from rfl) (Nat.lt_of_lt_of_le (Nat.le_of_ble_eq_true rfl : 107 < 152) hN) (by decide) (by decide) (fun _ _ _ => rfl) (dOk_at dt_X10_contraLine 1 rfl) ?_
  refine j_bipush hC (v := (16 : Int32)) rfl (dOk_at dt_X10_contraLine 2 rfl) ?_
  refine j_icmp_ne hC (tgt := 15) (by decide) (dOk_at dt_X10_contraLine 3 rfl) (fun q_1 => ?_) (fun q_1 => ?_)
  · refine j_aload_n hC 0 rfl rfl (dOk_at dt_X10_contraLine 8 rfl) ?_
    refine j_callVv hC clX10_209 (fun rz hrz => c_X10_token hN _ rz hrz) (show shp 107 = (10, 88) from rfl) (Nat.lt_of_lt_of_le (Nat.le_of_ble_eq_true rfl : 107 < 152) hN) (by decide) rfl rfl ⟨Nat.le_of_ble_eq_true rfl, Nat.le_of_ble_eq_true rfl⟩ ⟨Nat.le_refl 0, Nat.le_refl 0⟩ (As := []) (st := []) rfl (Nat.le_of_ble_eq_true rfl) (dOk_at dt_X10_contraLine 9 rfl) (fun h_3 _ => ?_)
    refine j_aload_n hC 0 rfl rfl (dOk_at dt_X10_contraLine 10 rfl) ?_
    refine j_aload_n hC 0 rfl rfl (dOk_at dt_X10_contraLine 11 rfl) ?_
    refine j_getR hC flX10_27 (show shp 107 = (10, 88) from rfl) (Nat.lt_of_lt_of_le (Nat.le_of_ble_eq_true rfl : 107 < 152) hN) (by decide) (by decide) (fun _ _ _ => rfl) (fun hs => hs 107 28 112 rfl) (dOk_at dt_X10_contraLine 12 rfl) ?_
    refine j_bipush hC (v := (8 : Int32)) rfl (dOk_at dt_X10_contraLine 13 rfl) ?_
    refine j_aload_n hC 0 rfl rfl (dOk_at dt_X10_contraLine 14 rfl) ?_
    refine j_getI hC flX10_219 (show shp 107 = (10, 88) from rfl) (Nat.lt_of_lt_of_le (Nat.le_of_ble_eq_true rfl : 107 < 152) hN) (by decide) (by decide) (fun _ _ _ => rfl) (dOk_at dt_X10_contraLine 15 rfl) ?_
    refine j_callVi hC clX10_279 (fun rz hrz => c_X10_thereIn hN ((show shp 112 = (21, 16) from rfl)) _ _ _ rz hrz) (show shp 107 = (10, 88) from rfl) (Nat.lt_of_lt_of_le (Nat.le_of_ble_eq_true rfl : 107 < 152) hN) (by decide) rfl rfl ⟨Nat.le_of_ble_eq_true rfl, Nat.le_of_ble_eq_true rfl⟩ ⟨Nat.le_refl 0, Nat.le_refl 0⟩ (As := [.ref 112, .int (8 : Int32), .int (hI h_3 107 19)]) (st := []) rfl (Nat.le_of_ble_eq_true rfl) (dOk_at dt_X10_contraLine 16 rfl) (fun v_4 h_5 _ => ?_)
    refine j_if_ne hC (tgt := 38) (by decide) (dOk_at dt_X10_contraLine 17 rfl) (fun q_6 => ?_) (fun q_6 => ?_)
    · refine j_aload_n hC 0 rfl rfl (dOk_at dt_X10_contraLine 20 rfl) ?_
      refine j_getI hC flX10_206 (show shp 107 = (10, 88) from rfl) (Nat.lt_of_lt_of_le (Nat.le_of_ble_eq_true rfl : 107 < 152) hN) (by decide) (by decide) (fun _ _ _ => rfl) (dOk_at dt_X10_contraLine 21 rfl) ?_
      refine j_istore_n hC rfl (lv' := [(1, .int (hI h_5 107 11)), (0, .ref 107)]) (by decide) rfl (dOk_at dt_X10_contraLine 22 rfl) ?_
      refine j_aload_n hC 1 rfl rfl (dOk_at dt_X10_contraLine 23 rfl) ?_
      refine j_getI hC flX10_166 (show shp 107 = (10, 88) from rfl) (Nat.lt_of_lt_of_le (Nat.le_of_ble_eq_true rfl : 107 < 152) hN) (by decide) (by decide) (fun _ _ _ => rfl) (dOk_at dt_X10_contraLine 24 rfl) ?_
      refine j_istore_n hC rfl (lv' := [(2, .int (hI h_5 107 10)), (1, .int (hI h_5 107 11)), (0, .ref 107)]) (by decide) rfl (dOk_at dt_X10_contraLine 25 rfl) ?_
      refine j_aload_n hC 2 rfl rfl (dOk_at dt_X10_contraLine 26 rfl) ?_
      refine j_aload_n hC 2 rfl rfl (dOk_at dt_X10_contraLine 27 rfl) ?_
      refine j_getR hC flX10_27 (show shp 107 = (10, 88) from rfl) (Nat.lt_of_lt_of_le (Nat.le_of_ble_eq_true rfl : 107 < 152) hN) (by decide) (by decide) (fun _ _ _ => rfl) (fun hs => hs 107 28 112 rfl) (dOk_at dt_X10_contraLine 28 rfl) ?_
      refine j_bipush hC (v := (8 : Int32)) rfl (dOk_at dt_X10_contraLine 29 rfl) ?_
      refine j_aload_n hC 2 rfl rfl (dOk_at dt_X10_contraLine 30 rfl) ?_
      refine j_getI hC flX10_219 (show shp 107 = (10, 88) from rfl) (Nat.lt_of_lt_of_le (Nat.le_of_ble_eq_true rfl : 107 < 152) hN) (by decide) (by decide) (fun _ _ _ => rfl) (dOk_at dt_X10_contraLine 31 rfl) ?_
      refine j_callVi hC clX10_279 (fun rz hrz => c_X10_thereIn hN ((show shp 112 = (21, 16) from rfl)) _ _ _ rz hrz) (show shp 107 = (10, 88) from rfl) (Nat.lt_of_lt_of_le (Nat.le_of_ble_eq_true rfl : 107 < 152) hN) (by decide) rfl rfl ⟨Nat.le_of_ble_eq_true rfl, Nat.le_of_ble_eq_true rfl⟩ ⟨Nat.le_refl 0, Nat.le_refl 0⟩ (As := [.ref 112, .int (8 : Int32), .int (hI h_5 107 19)]) (st := []) rfl (Nat.le_of_ble_eq_true rfl) (dOk_at dt_X10_contraLine 32 rfl) (fun v_7 h_8 _ => ?_)
      refine j_if_ne hC (tgt := 67) (by decide) (dOk_at dt_X10_contraLine 33 rfl) (fun q_9 => ?_) (fun q_9 => ?_)
      · refine j_aload_n hC 2 rfl rfl (dOk_at dt_X10_contraLine 36 rfl) ?_
        refine j_getI hC flX10_206 (show shp 107 = (10, 88) from rfl) (Nat.lt_of_lt_of_le (Nat.le_of_ble_eq_true rfl : 107 < 152) hN) (by decide) (by decide) (fun _ _ _ => rfl) (dOk_at dt_X10_contraLine 37 rfl) ?_
        refine j_istore_n hC rfl (lv' := [(3, .int (hI h_8 107 11)), (2, .int (hI h_5 107 10)), (1, .int (hI h_5 107 11)), (0, .ref 107)]) (by decide) rfl (dOk_at dt_X10_contraLine 38 rfl) ?_
        refine j_iload_n hC 0 rfl rfl (dOk_at dt_X10_contraLine 39 rfl) ?_
        refine j_iload_n hC 2 rfl rfl (dOk_at dt_X10_contraLine 40 rfl) ?_
        refine j_icmp_ne hC (tgt := 81) (by decide) (dOk_at dt_X10_contraLine 41 rfl) (fun q_10 => ?_) (fun q_10 => ?_)
        · refine j_iconst hC (v := (0 : Int32)) rfl (dOk_at dt_X10_contraLine 44 rfl) ?_
          refine j_sub [3, 2, 1, 0] rfl ?_
          exact b82 h_8 (hI h_5 107 11) (hI h_5 107 10) (hI h_8 107 11) (0 : Int32) 
        · refine j_iconst hC (v := (5 : Int32)) rfl (dOk_at dt_X10_contraLine 42 rfl) ?_
          refine j_goto hC (tgt := 82) (by decide) (dOk_at dt_X10_contraLine 43 rfl) ?_
          refine j_sub [3, 2, 1, 0] rfl ?_
          exact b82 h_8 (hI h_5 107 11) (hI h_5 107 10) (hI h_8 107 11) (5 : Int32) 
      · refine j_iconst hC (v := (0 : Int32)) rfl (dOk_at dt_X10_contraLine 34 rfl) ?_
        exact j_zretK hC hret rfl (dOk_at dt_X10_contraLine 35 rfl)
    · refine j_iconst hC (v := (0 : Int32)) rfl (dOk_at dt_X10_contraLine 18 rfl) ?_
      exact j_zretK hC hret rfl (dOk_at dt_X10_contraLine 19 rfl)
  · refine j_aload_n hC 0 rfl rfl (dOk_at dt_X10_contraLine 4 rfl) ?_
    refine j_iconst hC (v := (2 : Int32)) rfl (dOk_at dt_X10_contraLine 5 rfl) ?_
    refine j_callVi hC clX10_199 (fun rz hrz => c_X10_wrong hN _ _ rz hrz) (show shp 107 = (10, 88) from rfl) (Nat.lt_of_lt_of_le (Nat.le_of_ble_eq_true rfl : 107 < 152) hN) (by decide) rfl rfl ⟨Nat.le_of_ble_eq_true rfl, Nat.le_of_ble_eq_true rfl⟩ ⟨Nat.le_refl 0, Nat.le_refl 0⟩ (As := [.int (2 : Int32)]) (st := []) rfl (Nat.le_of_ble_eq_true rfl) (dOk_at dt_X10_contraLine 6 rfl) (fun v_11 h_12 _ => ?_)
    exact j_zret hC hret (dOk_at dt_X10_contraLine 7 rfl)
def tb_X10_strawLine : List (Nat × Instr × Nat) := [(0, .aload_n 0, 1), (1, .getfield 225, 3), (4, .iconst 5, 1), (5, .if_icmp .ne 9, 3), (8, .aload_n 0, 1), (9, .iconst 2, 1), (10, .invokevirtual 199, 3), (13, .ireturn, 1), (14, .aload_n 0, 1), (15, .invokevirtual 209, 3), (18, .aload_n 0, 1), (19, .aload_n 0, 1), (20, .getfield 42, 3), (23, .iconst 5, 1), (24, .aload_n 0, 1), (25, .getfield 225, 3), (28, .invokevirtual 275, 3), (31, .ifCond .ne 5, 3), (34, .iconst 0, 1), (35, .ireturn, 1), (36, .iconst 5, 1), (37, .aload_n 0, 1), (38, .getfield 225, 3), (41, .iadd, 1), (42, .istore_n 1, 1), (43, .aload_n 0, 1), (44, .aload_n 0, 1), (45, .getfield 27, 3), (48, .bipush 8, 2), (50, .aload_n 0, 1), (51, .getfield 219, 3), (54, .invokevirtual 279, 3), (57, .ifCond .ne 5, 3), (60, .iconst 0, 1), (61, .ireturn, 1), (62, .aload_n 0, 1), (63, .getfield 45, 3), (66, .iload_n 1, 1), (67, .aload_n 0, 1), (68, .getfield 206, 3), (71, .iastore, 1), (72, .aload_n 0, 1), (73, .iconst 1, 1), (74, .bipush 99, 2), (76, .invokevirtual 215, 3), (79, .ifCond .ne 5, 3), (82, .iconst 0, 1), (83, .ireturn, 1), (84, .aload_n 0, 1), (85, .getfield 48, 3), (88, .iload_n 1, 1), (89, .aload_n 0, 1), (90, .getfield 206, 3), (93, .iastore, 1), (94, .aload_n 0, 1), (95, .dup, 1), (96, .getfield 225, 3), (99, .iconst 1, 1), (100, .iadd, 1), (101, .putfield 225, 3), (104, .iconst 1, 1), (105, .ireturn, 1)]
theorem dt_X10_strawLine : dOk cX10_strawLine tb_X10_strawLine = true := by decide +kernel
def fX10_strawLine (h : Hp) : Option (Int32 × Hp) := if (hI h 107 21) = (5 : Int32) then (bnd (fX10_wrong h (2 : Int32)) (fun v_13 h_14 => if isZ v_13 then some (v_13, h_14) else none)) else ((fX10_token h).bind (fun h_3 => bnd (fX10_newName 117 10 h_3 (5 : Int32) (hI h_3 107 21)) (fun v_4 h_5 => if v_4 = 0 then (some ((0 : Int32), h_5)) else (bnd (fX10_thereIn 112 16 h_5 (8 : Int32) (hI h_5 107 19)) (fun v_7 h_8 => if v_7 = 0 then (some ((0 : Int32), h_8)) else (if inb ((5 : Int32) + (hI h_5 107 21)) 10 then (bnd (fX10_number (uI h_8 118 (Int32.toNatClampNeg ((5 : Int32) + (hI h_5 107 21))) (hI h_8 107 11)) (1 : Int32) (99 : Int32)) (fun v_10 h_11 => if v_10 = 0 then (some ((0 : Int32), h_11)) else (if inb ((5 : Int32) + (hI h_5 107 21)) 10 then (some ((1 : Int32), (uI (uI h_11 119 (Int32.toNatClampNeg ((5 : Int32) + (hI h_5 107 21))) (hI h_11 107 11)) 107 21 ((hI (uI h_11 119 (Int32.toNatClampNeg ((5 : Int32) + (hI h_5 107 21))) (hI h_11 107 11)) 107 21) + (1 : Int32))))) else none))) else none))))))
set_option maxRecDepth 100000 in
set_option maxHeartbeats 4000000 in
theorem c_X10_strawLine {l : Launch} {sb : State} {D : va_G} {ids : Nat → ClassId} {n : Nat} (hN : 152 ≤ n) (h : Hp) (r : Int32 × Hp) (hr : fX10_strawLine h = some r) : jM l yX10_strawLine cX10_strawLine 2 (some .boolean) 3 sb D ids shp St n [.ref 107] h (jQi sb D ids shp St n r) := by
  refine jM_of hr rfl (Nat.le_of_ble_eq_true rfl) ?_
  intro p e s m args below meth c hC hret
  unfold fX10_strawLine
  refine j_aload_n hC 0 rfl rfl (dOk_at dt_X10_strawLine 0 rfl) ?_
  refine j_getI hC flX10_225 (show shp 107 = (10, 88) from rfl) (Nat.lt_of_lt_of_le (Nat.le_of_ble_eq_true rfl : 107 < 152) hN) (by decide) (by decide) (fun _ _ _ => rfl) (dOk_at dt_X10_strawLine 1 rfl) ?_
  refine j_iconst hC (v := (5 : Int32)) rfl (dOk_at dt_X10_strawLine 2 rfl) ?_
  refine j_icmp_ne hC (tgt := 14) (by decide) (dOk_at dt_X10_strawLine 3 rfl) (fun q_1 => ?_) (fun q_1 => ?_)
  · refine j_aload_n hC 0 rfl rfl (dOk_at dt_X10_strawLine 8 rfl) ?_
    refine j_callVv hC clX10_209 (fun rz hrz => c_X10_token hN _ rz hrz) (show shp 107 = (10, 88) from rfl) (Nat.lt_of_lt_of_le (Nat.le_of_ble_eq_true rfl : 107 < 152) hN) (by decide) rfl rfl ⟨Nat.le_of_ble_eq_true rfl, Nat.le_of_ble_eq_true rfl⟩ ⟨Nat.le_refl 0, Nat.le_refl 0⟩ (As := []) (st := []) rfl (Nat.le_of_ble_eq_true rfl) (dOk_at dt_X10_strawLine 9 rfl) (fun h_3 _ => ?_)
    refine j_aload_n hC 0 rfl rfl (dOk_at dt_X10_strawLine 10 rfl) ?_
    refine j_aload_n hC 0 rfl rfl (dOk_at dt_X10_strawLine 11 rfl) ?_
    refine j_getR hC flX10_42 (show shp 107 = (10, 88) from rfl) (Nat.lt_of_lt_of_le (Nat.le_of_ble_eq_true rfl : 107 < 152) hN) (by decide) (by decide) (fun _ _ _ => rfl) (fun hs => hs 107 33 117 rfl) (dOk_at dt_X10_strawLine 12 rfl) ?_
    refine j_iconst hC (v := (5 : Int32)) rfl (dOk_at dt_X10_strawLine 13 rfl) ?_
    refine j_aload_n hC 0 rfl rfl (dOk_at dt_X10_strawLine 14 rfl) ?_
    refine j_getI hC flX10_225 (show shp 107 = (10, 88) from rfl) (Nat.lt_of_lt_of_le (Nat.le_of_ble_eq_true rfl : 107 < 152) hN) (by decide) (by decide) (fun _ _ _ => rfl) (dOk_at dt_X10_strawLine 15 rfl) ?_
    refine j_callVi hC clX10_275 (fun rz hrz => c_X10_newName hN ((show shp 117 = (21, 10) from rfl)) _ _ _ rz hrz) (show shp 107 = (10, 88) from rfl) (Nat.lt_of_lt_of_le (Nat.le_of_ble_eq_true rfl : 107 < 152) hN) (by decide) rfl rfl ⟨Nat.le_of_ble_eq_true rfl, Nat.le_of_ble_eq_true rfl⟩ ⟨Nat.le_refl 0, Nat.le_refl 0⟩ (As := [.ref 117, .int (5 : Int32), .int (hI h_3 107 21)]) (st := []) rfl (Nat.le_of_ble_eq_true rfl) (dOk_at dt_X10_strawLine 16 rfl) (fun v_4 h_5 _ => ?_)
    refine j_if_ne hC (tgt := 36) (by decide) (dOk_at dt_X10_strawLine 17 rfl) (fun q_6 => ?_) (fun q_6 => ?_)
    · refine j_iconst hC (v := (5 : Int32)) rfl (dOk_at dt_X10_strawLine 20 rfl) ?_
      refine j_aload_n hC 0 rfl rfl (dOk_at dt_X10_strawLine 21 rfl) ?_
      refine j_getI hC flX10_225 (show shp 107 = (10, 88) from rfl) (Nat.lt_of_lt_of_le (Nat.le_of_ble_eq_true rfl : 107 < 152) hN) (by decide) (by decide) (fun _ _ _ => rfl) (dOk_at dt_X10_strawLine 22 rfl) ?_
      refine j_iadd hC (dOk_at dt_X10_strawLine 23 rfl) ?_
      refine j_istore_n hC rfl (lv' := [(1, .int ((5 : Int32) + (hI h_5 107 21))), (0, .ref 107)]) (by decide) rfl (dOk_at dt_X10_strawLine 24 rfl) ?_
      refine j_aload_n hC 1 rfl rfl (dOk_at dt_X10_strawLine 25 rfl) ?_
      refine j_aload_n hC 1 rfl rfl (dOk_at dt_X10_strawLine 26 rfl) ?_
      refine j_getR hC flX10_27 (show shp 107 = (10, 88) from rfl) (Nat.lt_of_lt_of_le (Nat.le_of_ble_eq_true rfl : 107 < 152) hN) (by decide) (by decide) (fun _ _ _ => rfl) (fun hs => hs 107 28 112 rfl) (dOk_at dt_X10_strawLine 27 rfl) ?_
      refine j_bipush hC (v := (8 : Int32)) rfl (dOk_at dt_X10_strawLine 28 rfl) ?_
      refine j_aload_n hC 1 rfl rfl (dOk_at dt_X10_strawLine 29 rfl) ?_
      refine j_getI hC flX10_219 (show shp 107 = (10, 88) from rfl) (Nat.lt_of_lt_of_le (Nat.le_of_ble_eq_true rfl : 107 < 152) hN) (by decide) (by decide) (fun _ _ _ => rfl) (dOk_at dt_X10_strawLine 30 rfl) ?_
      refine j_callVi hC clX10_279 (fun rz hrz => c_X10_thereIn hN ((show shp 112 = (21, 16) from rfl)) _ _ _ rz hrz) (show shp 107 = (10, 88) from rfl) (Nat.lt_of_lt_of_le (Nat.le_of_ble_eq_true rfl : 107 < 152) hN) (by decide) rfl rfl ⟨Nat.le_of_ble_eq_true rfl, Nat.le_of_ble_eq_true rfl⟩ ⟨Nat.le_refl 0, Nat.le_refl 0⟩ (As := [.ref 112, .int (8 : Int32), .int (hI h_5 107 19)]) (st := []) rfl (Nat.le_of_ble_eq_true rfl) (dOk_at dt_X10_strawLine 31 rfl) (fun v_7 h_8 _ => ?_)
      refine j_if_ne hC (tgt := 62) (by decide) (dOk_at dt_X10_strawLine 32 rfl) (fun q_9 => ?_) (fun q_9 => ?_)
      · refine j_aload_n hC 1 rfl rfl (dOk_at dt_X10_strawLine 35 rfl) ?_
        refine j_getR hC flX10_45 (show shp 107 = (10, 88) from rfl) (Nat.lt_of_lt_of_le (Nat.le_of_ble_eq_true rfl : 107 < 152) hN) (by decide) (by decide) (fun _ _ _ => rfl) (fun hs => hs 107 34 118 rfl) (dOk_at dt_X10_strawLine 36 rfl) ?_
        refine j_iload_n hC 0 rfl rfl (dOk_at dt_X10_strawLine 37 rfl) ?_
        refine j_aload_n hC 1 rfl rfl (dOk_at dt_X10_strawLine 38 rfl) ?_
        refine j_getI hC flX10_206 (show shp 107 = (10, 88) from rfl) (Nat.lt_of_lt_of_le (Nat.le_of_ble_eq_true rfl : 107 < 152) hN) (by decide) (by decide) (fun _ _ _ => rfl) (dOk_at dt_X10_strawLine 39 rfl) ?_
        refine j_iast hC St_SP (show shp 118 = (21, 10) from rfl) (Nat.lt_of_lt_of_le (Nat.le_of_ble_eq_true rfl : 118 < 152) hN) (dOk_at dt_X10_strawLine 40 rfl) ?_
        refine j_aload_n hC 1 rfl rfl (dOk_at dt_X10_strawLine 41 rfl) ?_
        refine j_iconst hC (v := (1 : Int32)) rfl (dOk_at dt_X10_strawLine 42 rfl) ?_
        refine j_bipush hC (v := (99 : Int32)) rfl (dOk_at dt_X10_strawLine 43 rfl) ?_
        refine j_callVi hC clX10_215 (fun rz hrz => c_X10_number hN _ _ _ rz hrz) (show shp 107 = (10, 88) from rfl) (Nat.lt_of_lt_of_le (Nat.le_of_ble_eq_true rfl : 107 < 152) hN) (by decide) rfl rfl ⟨Nat.le_of_ble_eq_true rfl, Nat.le_of_ble_eq_true rfl⟩ ⟨Nat.le_refl 0, Nat.le_refl 0⟩ (As := [.int (1 : Int32), .int (99 : Int32)]) (st := []) rfl (Nat.le_of_ble_eq_true rfl) (dOk_at dt_X10_strawLine 44 rfl) (fun v_10 h_11 _ => ?_)
        refine j_if_ne hC (tgt := 84) (by decide) (dOk_at dt_X10_strawLine 45 rfl) (fun q_12 => ?_) (fun q_12 => ?_)
        · refine j_aload_n hC 1 rfl rfl (dOk_at dt_X10_strawLine 48 rfl) ?_
          refine j_getR hC flX10_48 (show shp 107 = (10, 88) from rfl) (Nat.lt_of_lt_of_le (Nat.le_of_ble_eq_true rfl : 107 < 152) hN) (by decide) (by decide) (fun _ _ _ => rfl) (fun hs => hs 107 35 119 rfl) (dOk_at dt_X10_strawLine 49 rfl) ?_
          refine j_iload_n hC 0 rfl rfl (dOk_at dt_X10_strawLine 50 rfl) ?_
          refine j_aload_n hC 1 rfl rfl (dOk_at dt_X10_strawLine 51 rfl) ?_
          refine j_getI hC flX10_206 (show shp 107 = (10, 88) from rfl) (Nat.lt_of_lt_of_le (Nat.le_of_ble_eq_true rfl : 107 < 152) hN) (by decide) (by decide) (fun _ _ _ => rfl) (dOk_at dt_X10_strawLine 52 rfl) ?_
          refine j_iast hC St_SP (show shp 119 = (21, 10) from rfl) (Nat.lt_of_lt_of_le (Nat.le_of_ble_eq_true rfl : 119 < 152) hN) (dOk_at dt_X10_strawLine 53 rfl) ?_
          refine j_aload_n hC 1 rfl rfl (dOk_at dt_X10_strawLine 54 rfl) ?_
          refine j_dupr hC (dOk_at dt_X10_strawLine 55 rfl) ?_
          refine j_getI hC flX10_225 (show shp 107 = (10, 88) from rfl) (Nat.lt_of_lt_of_le (Nat.le_of_ble_eq_true rfl : 107 < 152) hN) (by decide) (by decide) (fun _ _ _ => rfl) (dOk_at dt_X10_strawLine 56 rfl) ?_
          refine j_iconst hC (v := (1 : Int32)) rfl (dOk_at dt_X10_strawLine 57 rfl) ?_
          refine j_iadd hC (dOk_at dt_X10_strawLine 58 rfl) ?_
          refine j_putI hC St_SP flX10_225 (show shp 107 = (10, 88) from rfl) (Nat.lt_of_lt_of_le (Nat.le_of_ble_eq_true rfl : 107 < 152) hN) (by decide) (by decide) rfl rfl (dOk_at dt_X10_strawLine 59 rfl) ?_
          refine j_iconst hC (v := (1 : Int32)) rfl (dOk_at dt_X10_strawLine 60 rfl) ?_
          exact j_zretK hC hret rfl (dOk_at dt_X10_strawLine 61 rfl)
        · refine j_iconst hC (v := (0 : Int32)) rfl (dOk_at dt_X10_strawLine 46 rfl) ?_
          exact j_zretK hC hret rfl (dOk_at dt_X10_strawLine 47 rfl)
      · refine j_iconst hC (v := (0 : Int32)) rfl (dOk_at dt_X10_strawLine 33 rfl) ?_
        exact j_zretK hC hret rfl (dOk_at dt_X10_strawLine 34 rfl)
    · refine j_iconst hC (v := (0 : Int32)) rfl (dOk_at dt_X10_strawLine 18 rfl) ?_
      exact j_zretK hC hret rfl (dOk_at dt_X10_strawLine 19 rfl)
  · refine j_aload_n hC 0 rfl rfl (dOk_at dt_X10_strawLine 4 rfl) ?_
    refine j_iconst hC (v := (2 : Int32)) rfl (dOk_at dt_X10_strawLine 5 rfl) ?_
    refine j_callVi hC clX10_199 (fun rz hrz => c_X10_wrong hN _ _ rz hrz) (show shp 107 = (10, 88) from rfl) (Nat.lt_of_lt_of_le (Nat.le_of_ble_eq_true rfl : 107 < 152) hN) (by decide) rfl rfl ⟨Nat.le_of_ble_eq_true rfl, Nat.le_of_ble_eq_true rfl⟩ ⟨Nat.le_refl 0, Nat.le_refl 0⟩ (As := [.int (2 : Int32)]) (st := []) rfl (Nat.le_of_ble_eq_true rfl) (dOk_at dt_X10_strawLine 6 rfl) (fun v_13 h_14 _ => ?_)
    exact j_zret hC hret (dOk_at dt_X10_strawLine 7 rfl)
def tb_X10_memberLine : List (Nat × Instr × Nat) := [(0, .aload_n 0, 1), (1, .getfield 228, 3), (4, .iconst 5, 1), (5, .if_icmp .ne 9, 3), (8, .aload_n 0, 1), (9, .iconst 2, 1), (10, .invokevirtual 199, 3), (13, .ireturn, 1), (14, .aload_n 0, 1), (15, .invokevirtual 209, 3), (18, .aload_n 0, 1), (19, .aload_n 0, 1), (20, .getfield 51, 3), (23, .iconst 5, 1), (24, .aload_n 0, 1), (25, .getfield 228, 3), (28, .invokevirtual 275, 3), (31, .ifCond .ne 5, 3), (34, .iconst 0, 1), (35, .ireturn, 1), (36, .aload_n 0, 1), (37, .dup, 1), (38, .getfield 228, 3), (41, .iconst 1, 1), (42, .iadd, 1), (43, .putfield 228, 3), (46, .iconst 1, 1), (47, .ireturn, 1)]
theorem dt_X10_memberLine : dOk cX10_memberLine tb_X10_memberLine = true := by decide +kernel
def fX10_memberLine (h : Hp) : Option (Int32 × Hp) := if (hI h 107 22) = (5 : Int32) then (bnd (fX10_wrong h (2 : Int32)) (fun v_7 h_8 => if isZ v_7 then some (v_7, h_8) else none)) else ((fX10_token h).bind (fun h_3 => bnd (fX10_newName 120 10 h_3 (5 : Int32) (hI h_3 107 22)) (fun v_4 h_5 => if v_4 = 0 then (some ((0 : Int32), h_5)) else (some ((1 : Int32), (uI h_5 107 22 ((hI h_5 107 22) + (1 : Int32))))))))
set_option maxRecDepth 100000 in
set_option maxHeartbeats 4000000 in
theorem c_X10_memberLine {l : Launch} {sb : State} {D : va_G} {ids : Nat → ClassId} {n : Nat} (hN : 152 ≤ n) (h : Hp) (r : Int32 × Hp) (hr : fX10_memberLine h = some r) : jM l yX10_memberLine cX10_memberLine 1 (some .boolean) 3 sb D ids shp St n [.ref 107] h (jQi sb D ids shp St n r) := by
  refine jM_of hr rfl (Nat.le_of_ble_eq_true rfl) ?_
  intro p e s m args below meth c hC hret
  unfold fX10_memberLine
  refine j_aload_n hC 0 rfl rfl (dOk_at dt_X10_memberLine 0 rfl) ?_
  refine j_getI hC flX10_228 (show shp 107 = (10, 88) from rfl) (Nat.lt_of_lt_of_le (Nat.le_of_ble_eq_true rfl : 107 < 152) hN) (by decide) (by decide) (fun _ _ _ => rfl) (dOk_at dt_X10_memberLine 1 rfl) ?_
  refine j_iconst hC (v := (5 : Int32)) rfl (dOk_at dt_X10_memberLine 2 rfl) ?_
  refine j_icmp_ne hC (tgt := 14) (by decide) (dOk_at dt_X10_memberLine 3 rfl) (fun q_1 => ?_) (fun q_1 => ?_)
  · refine j_aload_n hC 0 rfl rfl (dOk_at dt_X10_memberLine 8 rfl) ?_
    refine j_callVv hC clX10_209 (fun rz hrz => c_X10_token hN _ rz hrz) (show shp 107 = (10, 88) from rfl) (Nat.lt_of_lt_of_le (Nat.le_of_ble_eq_true rfl : 107 < 152) hN) (by decide) rfl rfl ⟨Nat.le_of_ble_eq_true rfl, Nat.le_of_ble_eq_true rfl⟩ ⟨Nat.le_refl 0, Nat.le_refl 0⟩ (As := []) (st := []) rfl (Nat.le_of_ble_eq_true rfl) (dOk_at dt_X10_memberLine 9 rfl) (fun h_3 _ => ?_)
    refine j_aload_n hC 0 rfl rfl (dOk_at dt_X10_memberLine 10 rfl) ?_
    refine j_aload_n hC 0 rfl rfl (dOk_at dt_X10_memberLine 11 rfl) ?_
    refine j_getR hC flX10_51 (show shp 107 = (10, 88) from rfl) (Nat.lt_of_lt_of_le (Nat.le_of_ble_eq_true rfl : 107 < 152) hN) (by decide) (by decide) (fun _ _ _ => rfl) (fun hs => hs 107 36 120 rfl) (dOk_at dt_X10_memberLine 12 rfl) ?_
    refine j_iconst hC (v := (5 : Int32)) rfl (dOk_at dt_X10_memberLine 13 rfl) ?_
    refine j_aload_n hC 0 rfl rfl (dOk_at dt_X10_memberLine 14 rfl) ?_
    refine j_getI hC flX10_228 (show shp 107 = (10, 88) from rfl) (Nat.lt_of_lt_of_le (Nat.le_of_ble_eq_true rfl : 107 < 152) hN) (by decide) (by decide) (fun _ _ _ => rfl) (dOk_at dt_X10_memberLine 15 rfl) ?_
    refine j_callVi hC clX10_275 (fun rz hrz => c_X10_newName hN ((show shp 120 = (21, 10) from rfl)) _ _ _ rz hrz) (show shp 107 = (10, 88) from rfl) (Nat.lt_of_lt_of_le (Nat.le_of_ble_eq_true rfl : 107 < 152) hN) (by decide) rfl rfl ⟨Nat.le_of_ble_eq_true rfl, Nat.le_of_ble_eq_true rfl⟩ ⟨Nat.le_refl 0, Nat.le_refl 0⟩ (As := [.ref 120, .int (5 : Int32), .int (hI h_3 107 22)]) (st := []) rfl (Nat.le_of_ble_eq_true rfl) (dOk_at dt_X10_memberLine 16 rfl) (fun v_4 h_5 _ => ?_)
    refine j_if_ne hC (tgt := 36) (by decide) (dOk_at dt_X10_memberLine 17 rfl) (fun q_6 => ?_) (fun q_6 => ?_)
    · refine j_aload_n hC 0 rfl rfl (dOk_at dt_X10_memberLine 20 rfl) ?_
      refine j_dupr hC (dOk_at dt_X10_memberLine 21 rfl) ?_
      refine j_getI hC flX10_228 (show shp 107 = (10, 88) from rfl) (Nat.lt_of_lt_of_le (Nat.le_of_ble_eq_true rfl : 107 < 152) hN) (by decide) (by decide) (fun _ _ _ => rfl) (dOk_at dt_X10_memberLine 22 rfl) ?_
      refine j_iconst hC (v := (1 : Int32)) rfl (dOk_at dt_X10_memberLine 23 rfl) ?_
      refine j_iadd hC (dOk_at dt_X10_memberLine 24 rfl) ?_
      refine j_putI hC St_SP flX10_228 (show shp 107 = (10, 88) from rfl) (Nat.lt_of_lt_of_le (Nat.le_of_ble_eq_true rfl : 107 < 152) hN) (by decide) (by decide) rfl rfl (dOk_at dt_X10_memberLine 25 rfl) ?_
      refine j_iconst hC (v := (1 : Int32)) rfl (dOk_at dt_X10_memberLine 26 rfl) ?_
      exact j_zretK hC hret rfl (dOk_at dt_X10_memberLine 27 rfl)
    · refine j_iconst hC (v := (0 : Int32)) rfl (dOk_at dt_X10_memberLine 18 rfl) ?_
      exact j_zretK hC hret rfl (dOk_at dt_X10_memberLine 19 rfl)
  · refine j_aload_n hC 0 rfl rfl (dOk_at dt_X10_memberLine 4 rfl) ?_
    refine j_iconst hC (v := (2 : Int32)) rfl (dOk_at dt_X10_memberLine 5 rfl) ?_
    refine j_callVi hC clX10_199 (fun rz hrz => c_X10_wrong hN _ _ rz hrz) (show shp 107 = (10, 88) from rfl) (Nat.lt_of_lt_of_le (Nat.le_of_ble_eq_true rfl : 107 < 152) hN) (by decide) rfl rfl ⟨Nat.le_of_ble_eq_true rfl, Nat.le_of_ble_eq_true rfl⟩ ⟨Nat.le_refl 0, Nat.le_refl 0⟩ (As := [.int (2 : Int32)]) (st := []) rfl (Nat.le_of_ble_eq_true rfl) (dOk_at dt_X10_memberLine 6 rfl) (fun v_7 h_8 _ => ?_)
    exact j_zret hC hret (dOk_at dt_X10_memberLine 7 rfl)
def tb_X10_holdsLine : List (Nat × Instr × Nat) := [(0, .aload_n 0, 1), (1, .invokevirtual 209, 3), (4, .aload_n 0, 1), (5, .aload_n 0, 1), (6, .getfield 51, 3), (9, .iconst 5, 1), (10, .aload_n 0, 1), (11, .getfield 228, 3), (14, .invokevirtual 279, 3), (17, .ifCond .ne 5, 3), (20, .iconst 0, 1), (21, .ireturn, 1), (22, .iconst 5, 1), (23, .aload_n 0, 1), (24, .getfield 206, 3), (27, .iadd, 1), (28, .istore_n 1, 1), (29, .aload_n 0, 1), (30, .getfield 166, 3), (33, .istore_n 2, 1), (34, .aload_n 0, 1), (35, .aload_n 0, 1), (36, .getfield 27, 3), (39, .bipush 8, 2), (41, .aload_n 0, 1), (42, .getfield 219, 3), (45, .invokevirtual 279, 3), (48, .ifCond .ne 5, 3), (51, .iconst 0, 1), (52, .ireturn, 1), (53, .aload_n 0, 1), (54, .getfield 54, 3), (57, .iload_n 1, 1), (58, .iaload, 1), (59, .aload_n 0, 1), (60, .getfield 206, 3), (63, .invokestatic 282, 3), (66, .ifCond .eq 14, 3), (69, .aload_n 0, 1), (70, .iload_n 2, 1), (71, .putfield 166, 3), (74, .aload_n 0, 1), (75, .iconst 3, 1), (76, .invokevirtual 199, 3), (79, .ireturn, 1), (80, .aload_n 0, 1), (81, .getfield 54, 3), (84, .iload_n 1, 1), (85, .dup2, 1), (86, .iaload, 1), (87, .iconst 1, 1), (88, .aload_n 0, 1), (89, .getfield 206, 3), (92, .ishl, 1), (93, .ior, 1), (94, .iastore, 1), (95, .iconst 1, 1), (96, .ireturn, 1)]
theorem dt_X10_holdsLine : dOk cX10_holdsLine tb_X10_holdsLine = true := by decide +kernel
def fX10_holdsLine (h : Hp) : Option (Int32 × Hp) := (fX10_token h).bind (fun h_2 => bnd (fX10_thereIn 120 10 h_2 (5 : Int32) (hI h_2 107 22)) (fun v_3 h_4 => if v_3 = 0 then (some ((0 : Int32), h_4)) else (bnd (fX10_thereIn 112 16 h_4 (8 : Int32) (hI h_4 107 19)) (fun v_6 h_7 => if v_6 = 0 then (some ((0 : Int32), h_7)) else (if inb ((5 : Int32) + (hI h_4 107 11)) 10 then (bnd (fX10_isOf h_7 (hI h_7 121 (Int32.toNatClampNeg ((5 : Int32) + (hI h_4 107 11)))) (hI h_7 107 11)) (fun v_9 h_10 => if v_9 = 0 then (if inb ((5 : Int32) + (hI h_4 107 11)) 10 then (if inb ((5 : Int32) + (hI h_4 107 11)) 10 then (some ((1 : Int32), (uI h_10 121 (Int32.toNatClampNeg ((5 : Int32) + (hI h_4 107 11))) ((hI h_10 121 (Int32.toNatClampNeg ((5 : Int32) + (hI h_4 107 11)))) ||| ((1 : Int32) <<< ((hI h_10 107 11) &&& 31)))))) else none) else none) else (bnd (fX10_wrong (uI h_10 107 10 (hI h_4 107 10)) (3 : Int32)) (fun v_12 h_13 => if isZ v_12 then some (v_12, h_13) else none)))) else none)))))
set_option maxRecDepth 100000 in
set_option maxHeartbeats 4000000 in
theorem c_X10_holdsLine {l : Launch} {sb : State} {D : va_G} {ids : Nat → ClassId} {n : Nat} (hN : 152 ≤ n) (h : Hp) (r : Int32 × Hp) (hr : fX10_holdsLine h = some r) : jM l yX10_holdsLine cX10_holdsLine 3 (some .boolean) 3 sb D ids shp St n [.ref 107] h (jQi sb D ids shp St n r) := by
  refine jM_of hr rfl (Nat.le_of_ble_eq_true rfl) ?_
  intro p e s m args below meth c hC hret
  unfold fX10_holdsLine
  refine j_aload_n hC 0 rfl rfl (dOk_at dt_X10_holdsLine 0 rfl) ?_
  refine j_callVv hC clX10_209 (fun rz hrz => c_X10_token hN _ rz hrz) (show shp 107 = (10, 88) from rfl) (Nat.lt_of_lt_of_le (Nat.le_of_ble_eq_true rfl : 107 < 152) hN) (by decide) rfl rfl ⟨Nat.le_of_ble_eq_true rfl, Nat.le_of_ble_eq_true rfl⟩ ⟨Nat.le_refl 0, Nat.le_refl 0⟩ (As := []) (st := []) rfl (Nat.le_of_ble_eq_true rfl) (dOk_at dt_X10_holdsLine 1 rfl) (fun h_2 _ => ?_)
  refine j_aload_n hC 0 rfl rfl (dOk_at dt_X10_holdsLine 2 rfl) ?_
  refine j_aload_n hC 0 rfl rfl (dOk_at dt_X10_holdsLine 3 rfl) ?_
  refine j_getR hC flX10_51 (show shp 107 = (10, 88) from rfl) (Nat.lt_of_lt_of_le (Nat.le_of_ble_eq_true rfl : 107 < 152) hN) (by decide) (by decide) (fun _ _ _ => rfl) (fun hs => hs 107 36 120 rfl) (dOk_at dt_X10_holdsLine 4 rfl) ?_
  refine j_iconst hC (v := (5 : Int32)) rfl (dOk_at dt_X10_holdsLine 5 rfl) ?_
  refine j_aload_n hC 0 rfl rfl (dOk_at dt_X10_holdsLine 6 rfl) ?_
  refine j_getI hC flX10_228 (show shp 107 = (10, 88) from rfl) (Nat.lt_of_lt_of_le (Nat.le_of_ble_eq_true rfl : 107 < 152) hN) (by decide) (by decide) (fun _ _ _ => rfl) (dOk_at dt_X10_holdsLine 7 rfl) ?_
  refine j_callVi hC clX10_279 (fun rz hrz => c_X10_thereIn hN ((show shp 120 = (21, 10) from rfl)) _ _ _ rz hrz) (show shp 107 = (10, 88) from rfl) (Nat.lt_of_lt_of_le (Nat.le_of_ble_eq_true rfl : 107 < 152) hN) (by decide) rfl rfl ⟨Nat.le_of_ble_eq_true rfl, Nat.le_of_ble_eq_true rfl⟩ ⟨Nat.le_refl 0, Nat.le_refl 0⟩ (As := [.ref 120, .int (5 : Int32), .int (hI h_2 107 22)]) (st := []) rfl (Nat.le_of_ble_eq_true rfl) (dOk_at dt_X10_holdsLine 8 rfl) (fun v_3 h_4 _ => ?_)
  refine j_if_ne hC (tgt := 22) (by decide) (dOk_at dt_X10_holdsLine 9 rfl) (fun q_5 => ?_) (fun q_5 => ?_)
  · refine j_iconst hC (v := (5 : Int32)) rfl (dOk_at dt_X10_holdsLine 12 rfl) ?_
    refine j_aload_n hC 0 rfl rfl (dOk_at dt_X10_holdsLine 13 rfl) ?_
    refine j_getI hC flX10_206 (show shp 107 = (10, 88) from rfl) (Nat.lt_of_lt_of_le (Nat.le_of_ble_eq_true rfl : 107 < 152) hN) (by decide) (by decide) (fun _ _ _ => rfl) (dOk_at dt_X10_holdsLine 14 rfl) ?_
    refine j_iadd hC (dOk_at dt_X10_holdsLine 15 rfl) ?_
    refine j_istore_n hC rfl (lv' := [(1, .int ((5 : Int32) + (hI h_4 107 11))), (0, .ref 107)]) (by decide) rfl (dOk_at dt_X10_holdsLine 16 rfl) ?_
    refine j_aload_n hC 1 rfl rfl (dOk_at dt_X10_holdsLine 17 rfl) ?_
    refine j_getI hC flX10_166 (show shp 107 = (10, 88) from rfl) (Nat.lt_of_lt_of_le (Nat.le_of_ble_eq_true rfl : 107 < 152) hN) (by decide) (by decide) (fun _ _ _ => rfl) (dOk_at dt_X10_holdsLine 18 rfl) ?_
    refine j_istore_n hC rfl (lv' := [(2, .int (hI h_4 107 10)), (1, .int ((5 : Int32) + (hI h_4 107 11))), (0, .ref 107)]) (by decide) rfl (dOk_at dt_X10_holdsLine 19 rfl) ?_
    refine j_aload_n hC 2 rfl rfl (dOk_at dt_X10_holdsLine 20 rfl) ?_
    refine j_aload_n hC 2 rfl rfl (dOk_at dt_X10_holdsLine 21 rfl) ?_
    refine j_getR hC flX10_27 (show shp 107 = (10, 88) from rfl) (Nat.lt_of_lt_of_le (Nat.le_of_ble_eq_true rfl : 107 < 152) hN) (by decide) (by decide) (fun _ _ _ => rfl) (fun hs => hs 107 28 112 rfl) (dOk_at dt_X10_holdsLine 22 rfl) ?_
    refine j_bipush hC (v := (8 : Int32)) rfl (dOk_at dt_X10_holdsLine 23 rfl) ?_
    refine j_aload_n hC 2 rfl rfl (dOk_at dt_X10_holdsLine 24 rfl) ?_
    refine j_getI hC flX10_219 (show shp 107 = (10, 88) from rfl) (Nat.lt_of_lt_of_le (Nat.le_of_ble_eq_true rfl : 107 < 152) hN) (by decide) (by decide) (fun _ _ _ => rfl) (dOk_at dt_X10_holdsLine 25 rfl) ?_
    refine j_callVi hC clX10_279 (fun rz hrz => c_X10_thereIn hN ((show shp 112 = (21, 16) from rfl)) _ _ _ rz hrz) (show shp 107 = (10, 88) from rfl) (Nat.lt_of_lt_of_le (Nat.le_of_ble_eq_true rfl : 107 < 152) hN) (by decide) rfl rfl ⟨Nat.le_of_ble_eq_true rfl, Nat.le_of_ble_eq_true rfl⟩ ⟨Nat.le_refl 0, Nat.le_refl 0⟩ (As := [.ref 112, .int (8 : Int32), .int (hI h_4 107 19)]) (st := []) rfl (Nat.le_of_ble_eq_true rfl) (dOk_at dt_X10_holdsLine 26 rfl) (fun v_6 h_7 _ => ?_)
    refine j_if_ne hC (tgt := 53) (by decide) (dOk_at dt_X10_holdsLine 27 rfl) (fun q_8 => ?_) (fun q_8 => ?_)
    · refine j_aload_n hC 2 rfl rfl (dOk_at dt_X10_holdsLine 30 rfl) ?_
      refine j_getR hC flX10_54 (show shp 107 = (10, 88) from rfl) (Nat.lt_of_lt_of_le (Nat.le_of_ble_eq_true rfl : 107 < 152) hN) (by decide) (by decide) (fun _ _ _ => rfl) (fun hs => hs 107 37 121 rfl) (dOk_at dt_X10_holdsLine 31 rfl) ?_
      refine j_iload_n hC 1 rfl rfl (dOk_at dt_X10_holdsLine 32 rfl) ?_
      refine j_iald hC (show shp 121 = (21, 10) from rfl) (Nat.lt_of_lt_of_le (Nat.le_of_ble_eq_true rfl : 121 < 152) hN) (dOk_at dt_X10_holdsLine 33 rfl) ?_
      refine j_aload_n hC 2 rfl rfl (dOk_at dt_X10_holdsLine 34 rfl) ?_
      refine j_getI hC flX10_206 (show shp 107 = (10, 88) from rfl) (Nat.lt_of_lt_of_le (Nat.le_of_ble_eq_true rfl : 107 < 152) hN) (by decide) (by decide) (fun _ _ _ => rfl) (dOk_at dt_X10_holdsLine 35 rfl) ?_
      refine j_callSi hC clX10_282 (fun rz hrz => c_X10_isOf hN _ _ _ rz hrz) rfl ⟨Nat.le_of_ble_eq_true rfl, Nat.le_of_ble_eq_true rfl⟩ ⟨Nat.le_refl 0, Nat.le_refl 0⟩ (As := [.int (hI h_7 121 (Int32.toNatClampNeg ((5 : Int32) + (hI h_4 107 11)))), .int (hI h_7 107 11)]) (st := []) rfl (Nat.le_of_ble_eq_true rfl) (dOk_at dt_X10_holdsLine 36 rfl) (fun v_9 h_10 _ => ?_)
      refine j_if_eq hC (tgt := 80) (by decide) (dOk_at dt_X10_holdsLine 37 rfl) (fun q_11 => ?_) (fun q_11 => ?_)
      · refine j_aload_n hC 2 rfl rfl (dOk_at dt_X10_holdsLine 45 rfl) ?_
        refine j_getR hC flX10_54 (show shp 107 = (10, 88) from rfl) (Nat.lt_of_lt_of_le (Nat.le_of_ble_eq_true rfl : 107 < 152) hN) (by decide) (by decide) (fun _ _ _ => rfl) (fun hs => hs 107 37 121 rfl) (dOk_at dt_X10_holdsLine 46 rfl) ?_
        refine j_iload_n hC 1 rfl rfl (dOk_at dt_X10_holdsLine 47 rfl) ?_
        refine j_dup2 hC (dOk_at dt_X10_holdsLine 48 rfl) ?_
        refine j_iald hC (show shp 121 = (21, 10) from rfl) (Nat.lt_of_lt_of_le (Nat.le_of_ble_eq_true rfl : 121 < 152) hN) (dOk_at dt_X10_holdsLine 49 rfl) ?_
        refine j_iconst hC (v := (1 : Int32)) rfl (dOk_at dt_X10_holdsLine 50 rfl) ?_
        refine j_aload_n hC 2 rfl rfl (dOk_at dt_X10_holdsLine 51 rfl) ?_
        refine j_getI hC flX10_206 (show shp 107 = (10, 88) from rfl) (Nat.lt_of_lt_of_le (Nat.le_of_ble_eq_true rfl : 107 < 152) hN) (by decide) (by decide) (fun _ _ _ => rfl) (dOk_at dt_X10_holdsLine 52 rfl) ?_
        refine j_ishl hC (dOk_at dt_X10_holdsLine 53 rfl) ?_
        refine j_ior hC (dOk_at dt_X10_holdsLine 54 rfl) ?_
        refine j_iast hC St_SP (show shp 121 = (21, 10) from rfl) (Nat.lt_of_lt_of_le (Nat.le_of_ble_eq_true rfl : 121 < 152) hN) (dOk_at dt_X10_holdsLine 55 rfl) ?_
        refine j_iconst hC (v := (1 : Int32)) rfl (dOk_at dt_X10_holdsLine 56 rfl) ?_
        exact j_zretK hC hret rfl (dOk_at dt_X10_holdsLine 57 rfl)
      · refine j_aload_n hC 2 rfl rfl (dOk_at dt_X10_holdsLine 38 rfl) ?_
        refine j_iload_n hC 0 rfl rfl (dOk_at dt_X10_holdsLine 39 rfl) ?_
        refine j_putI hC St_SP flX10_166 (show shp 107 = (10, 88) from rfl) (Nat.lt_of_lt_of_le (Nat.le_of_ble_eq_true rfl : 107 < 152) hN) (by decide) (by decide) rfl rfl (dOk_at dt_X10_holdsLine 40 rfl) ?_
        refine j_aload_n hC 2 rfl rfl (dOk_at dt_X10_holdsLine 41 rfl) ?_
        refine j_iconst hC (v := (3 : Int32)) rfl (dOk_at dt_X10_holdsLine 42 rfl) ?_
        refine j_callVi hC clX10_199 (fun rz hrz => c_X10_wrong hN _ _ rz hrz) (show shp 107 = (10, 88) from rfl) (Nat.lt_of_lt_of_le (Nat.le_of_ble_eq_true rfl : 107 < 152) hN) (by decide) rfl rfl ⟨Nat.le_of_ble_eq_true rfl, Nat.le_of_ble_eq_true rfl⟩ ⟨Nat.le_refl 0, Nat.le_refl 0⟩ (As := [.int (3 : Int32)]) (st := []) rfl (Nat.le_of_ble_eq_true rfl) (dOk_at dt_X10_holdsLine 43 rfl) (fun v_12 h_13 _ => ?_)
        exact j_zret hC hret (dOk_at dt_X10_holdsLine 44 rfl)
    · refine j_iconst hC (v := (0 : Int32)) rfl (dOk_at dt_X10_holdsLine 28 rfl) ?_
      exact j_zretK hC hret rfl (dOk_at dt_X10_holdsLine 29 rfl)
  · refine j_iconst hC (v := (0 : Int32)) rfl (dOk_at dt_X10_holdsLine 10 rfl) ?_
    exact j_zretK hC hret rfl (dOk_at dt_X10_holdsLine 11 rfl)
def tb_X10_debateLine : List (Nat × Instr × Nat) := [(0, .aload_n 0, 1), (1, .getfield 231, 3), (4, .bipush 12, 2), (6, .if_icmp .ne 9, 3), (9, .aload_n 0, 1), (10, .iconst 2, 1), (11, .invokevirtual 199, 3), (14, .ireturn, 1), (15, .aload_n 0, 1), (16, .invokevirtual 209, 3), (19, .bipush 12, 2), (21, .aload_n 0, 1), (22, .getfield 231, 3), (25, .iadd, 1), (26, .istore_n 1, 1), (27, .aload_n 0, 1), (28, .aload_n 0, 1), (29, .getfield 51, 3), (32, .iconst 5, 1), (33, .aload_n 0, 1), (34, .getfield 228, 3), (37, .invokevirtual 279, 3), (40, .ifCond .ne 5, 3), (43, .iconst 0, 1), (44, .ireturn, 1), (45, .aload_n 0, 1), (46, .getfield 57, 3), (49, .iload_n 1, 1), (50, .aload_n 0, 1), (51, .getfield 206, 3), (54, .iastore, 1), (55, .aload_n 0, 1), (56, .aload_n 0, 1), (57, .getfield 42, 3), (60, .iconst 5, 1), (61, .aload_n 0, 1), (62, .getfield 225, 3), (65, .invokevirtual 279, 3), (68, .ifCond .ne 5, 3), (71, .iconst 0, 1), (72, .ireturn, 1), (73, .aload_n 0, 1), (74, .getfield 60, 3), (77, .iload_n 1, 1), (78, .aload_n 0, 1), (79, .getfield 206, 3), (82, .iastore, 1), (83, .aload_n 0, 1), (84, .iconst 0, 1), (85, .bipush 99, 2), (87, .invokevirtual 215, 3), (90, .ifCond .ne 5, 3), (93, .iconst 0, 1), (94, .ireturn, 1), (95, .aload_n 0, 1), (96, .getfield 63, 3), (99, .iload_n 1, 1), (100, .aload_n 0, 1), (101, .getfield 206, 3), (104, .iastore, 1), (105, .aload_n 0, 1), (106, .dup, 1), (107, .getfield 231, 3), (110, .iconst 1, 1), (111, .iadd, 1), (112, .putfield 231, 3), (115, .iconst 1, 1), (116, .ireturn, 1)]
theorem dt_X10_debateLine : dOk cX10_debateLine tb_X10_debateLine = true := by decide +kernel
def fX10_debateLine (h : Hp) : Option (Int32 × Hp) := if (hI h 107 23) = (12 : Int32) then (bnd (fX10_wrong h (2 : Int32)) (fun v_13 h_14 => if isZ v_13 then some (v_13, h_14) else none)) else ((fX10_token h).bind (fun h_3 => bnd (fX10_thereIn 120 10 h_3 (5 : Int32) (hI h_3 107 22)) (fun v_4 h_5 => if v_4 = 0 then (some ((0 : Int32), h_5)) else (if inb ((12 : Int32) + (hI h_3 107 23)) 24 then (bnd (fX10_thereIn 117 10 (uI h_5 122 (Int32.toNatClampNeg ((12 : Int32) + (hI h_3 107 23))) (hI h_5 107 11)) (5 : Int32) (hI (uI h_5 122 (Int32.toNatClampNeg ((12 : Int32) + (hI h_3 107 23))) (hI h_5 107 11)) 107 21)) (fun v_7 h_8 => if v_7 = 0 then (some ((0 : Int32), h_8)) else (if inb ((12 : Int32) + (hI h_3 107 23)) 24 then (bnd (fX10_number (uI h_8 123 (Int32.toNatClampNeg ((12 : Int32) + (hI h_3 107 23))) (hI h_8 107 11)) (0 : Int32) (99 : Int32)) (fun v_10 h_11 => if v_10 = 0 then (some ((0 : Int32), h_11)) else (if inb ((12 : Int32) + (hI h_3 107 23)) 24 then (some ((1 : Int32), (uI (uI h_11 124 (Int32.toNatClampNeg ((12 : Int32) + (hI h_3 107 23))) (hI h_11 107 11)) 107 23 ((hI (uI h_11 124 (Int32.toNatClampNeg ((12 : Int32) + (hI h_3 107 23))) (hI h_11 107 11)) 107 23) + (1 : Int32))))) else none))) else none))) else none))))
set_option maxRecDepth 100000 in
set_option maxHeartbeats 4000000 in
theorem c_X10_debateLine {l : Launch} {sb : State} {D : va_G} {ids : Nat → ClassId} {n : Nat} (hN : 152 ≤ n) (h : Hp) (r : Int32 × Hp) (hr : fX10_debateLine h = some r) : jM l yX10_debateLine cX10_debateLine 2 (some .boolean) 3 sb D ids shp St n [.ref 107] h (jQi sb D ids shp St n r) := by
  refine jM_of hr rfl (Nat.le_of_ble_eq_true rfl) ?_
  intro p e s m args below meth c hC hret
  unfold fX10_debateLine
  refine j_aload_n hC 0 rfl rfl (dOk_at dt_X10_debateLine 0 rfl) ?_
  refine j_getI hC flX10_231 (show shp 107 = (10, 88) from rfl) (Nat.lt_of_lt_of_le (Nat.le_of_ble_eq_true rfl : 107 < 152) hN) (by decide) (by decide) (fun _ _ _ => rfl) (dOk_at dt_X10_debateLine 1 rfl) ?_
  refine j_bipush hC (v := (12 : Int32)) rfl (dOk_at dt_X10_debateLine 2 rfl) ?_
  refine j_icmp_ne hC (tgt := 15) (by decide) (dOk_at dt_X10_debateLine 3 rfl) (fun q_1 => ?_) (fun q_1 => ?_)
  · refine j_aload_n hC 0 rfl rfl (dOk_at dt_X10_debateLine 8 rfl) ?_
    refine j_callVv hC clX10_209 (fun rz hrz => c_X10_token hN _ rz hrz) (show shp 107 = (10, 88) from rfl) (Nat.lt_of_lt_of_le (Nat.le_of_ble_eq_true rfl : 107 < 152) hN) (by decide) rfl rfl ⟨Nat.le_of_ble_eq_true rfl, Nat.le_of_ble_eq_true rfl⟩ ⟨Nat.le_refl 0, Nat.le_refl 0⟩ (As := []) (st := []) rfl (Nat.le_of_ble_eq_true rfl) (dOk_at dt_X10_debateLine 9 rfl) (fun h_3 _ => ?_)
    refine j_bipush hC (v := (12 : Int32)) rfl (dOk_at dt_X10_debateLine 10 rfl) ?_
    refine j_aload_n hC 0 rfl rfl (dOk_at dt_X10_debateLine 11 rfl) ?_
    refine j_getI hC flX10_231 (show shp 107 = (10, 88) from rfl) (Nat.lt_of_lt_of_le (Nat.le_of_ble_eq_true rfl : 107 < 152) hN) (by decide) (by decide) (fun _ _ _ => rfl) (dOk_at dt_X10_debateLine 12 rfl) ?_
    refine j_iadd hC (dOk_at dt_X10_debateLine 13 rfl) ?_
    refine j_istore_n hC rfl (lv' := [(1, .int ((12 : Int32) + (hI h_3 107 23))), (0, .ref 107)]) (by decide) rfl (dOk_at dt_X10_debateLine 14 rfl) ?_
    refine j_aload_n hC 1 rfl rfl (dOk_at dt_X10_debateLine 15 rfl) ?_
    refine j_aload_n hC 1 rfl rfl (dOk_at dt_X10_debateLine 16 rfl) ?_
    refine j_getR hC flX10_51 (show shp 107 = (10, 88) from rfl) (Nat.lt_of_lt_of_le (Nat.le_of_ble_eq_true rfl : 107 < 152) hN) (by decide) (by decide) (fun _ _ _ => rfl) (fun hs => hs 107 36 120 rfl) (dOk_at dt_X10_debateLine 17 rfl) ?_
    refine j_iconst hC (v := (5 : Int32)) rfl (dOk_at dt_X10_debateLine 18 rfl) ?_
    refine j_aload_n hC 1 rfl rfl (dOk_at dt_X10_debateLine 19 rfl) ?_
    refine j_getI hC flX10_228 (show shp 107 = (10, 88) from rfl) (Nat.lt_of_lt_of_le (Nat.le_of_ble_eq_true rfl : 107 < 152) hN) (by decide) (by decide) (fun _ _ _ => rfl) (dOk_at dt_X10_debateLine 20 rfl) ?_
    refine j_callVi hC clX10_279 (fun rz hrz => c_X10_thereIn hN ((show shp 120 = (21, 10) from rfl)) _ _ _ rz hrz) (show shp 107 = (10, 88) from rfl) (Nat.lt_of_lt_of_le (Nat.le_of_ble_eq_true rfl : 107 < 152) hN) (by decide) rfl rfl ⟨Nat.le_of_ble_eq_true rfl, Nat.le_of_ble_eq_true rfl⟩ ⟨Nat.le_refl 0, Nat.le_refl 0⟩ (As := [.ref 120, .int (5 : Int32), .int (hI h_3 107 22)]) (st := []) rfl (Nat.le_of_ble_eq_true rfl) (dOk_at dt_X10_debateLine 21 rfl) (fun v_4 h_5 _ => ?_)
    refine j_if_ne hC (tgt := 45) (by decide) (dOk_at dt_X10_debateLine 22 rfl) (fun q_6 => ?_) (fun q_6 => ?_)
    · refine j_aload_n hC 1 rfl rfl (dOk_at dt_X10_debateLine 25 rfl) ?_
      refine j_getR hC flX10_57 (show shp 107 = (10, 88) from rfl) (Nat.lt_of_lt_of_le (Nat.le_of_ble_eq_true rfl : 107 < 152) hN) (by decide) (by decide) (fun _ _ _ => rfl) (fun hs => hs 107 38 122 rfl) (dOk_at dt_X10_debateLine 26 rfl) ?_
      refine j_iload_n hC 0 rfl rfl (dOk_at dt_X10_debateLine 27 rfl) ?_
      refine j_aload_n hC 1 rfl rfl (dOk_at dt_X10_debateLine 28 rfl) ?_
      refine j_getI hC flX10_206 (show shp 107 = (10, 88) from rfl) (Nat.lt_of_lt_of_le (Nat.le_of_ble_eq_true rfl : 107 < 152) hN) (by decide) (by decide) (fun _ _ _ => rfl) (dOk_at dt_X10_debateLine 29 rfl) ?_
      refine j_iast hC St_SP (show shp 122 = (21, 24) from rfl) (Nat.lt_of_lt_of_le (Nat.le_of_ble_eq_true rfl : 122 < 152) hN) (dOk_at dt_X10_debateLine 30 rfl) ?_
      refine j_aload_n hC 1 rfl rfl (dOk_at dt_X10_debateLine 31 rfl) ?_
      refine j_aload_n hC 1 rfl rfl (dOk_at dt_X10_debateLine 32 rfl) ?_
      refine j_getR hC flX10_42 (show shp 107 = (10, 88) from rfl) (Nat.lt_of_lt_of_le (Nat.le_of_ble_eq_true rfl : 107 < 152) hN) (by decide) (by decide) (fun _ _ _ => rfl) (fun hs => hs 107 33 117 rfl) (dOk_at dt_X10_debateLine 33 rfl) ?_
      refine j_iconst hC (v := (5 : Int32)) rfl (dOk_at dt_X10_debateLine 34 rfl) ?_
      refine j_aload_n hC 1 rfl rfl (dOk_at dt_X10_debateLine 35 rfl) ?_
      refine j_getI hC flX10_225 (show shp 107 = (10, 88) from rfl) (Nat.lt_of_lt_of_le (Nat.le_of_ble_eq_true rfl : 107 < 152) hN) (by decide) (by decide) (fun _ _ _ => rfl) (dOk_at dt_X10_debateLine 36 rfl) ?_
      refine j_callVi hC clX10_279 (fun rz hrz => c_X10_thereIn hN ((show shp 117 = (21, 10) from rfl)) _ _ _ rz hrz) (show shp 107 = (10, 88) from rfl) (Nat.lt_of_lt_of_le (Nat.le_of_ble_eq_true rfl : 107 < 152) hN) (by decide) rfl rfl ⟨Nat.le_of_ble_eq_true rfl, Nat.le_of_ble_eq_true rfl⟩ ⟨Nat.le_refl 0, Nat.le_refl 0⟩ (As := [.ref 117, .int (5 : Int32), .int (hI (uI h_5 122 (Int32.toNatClampNeg ((12 : Int32) + (hI h_3 107 23))) (hI h_5 107 11)) 107 21)]) (st := []) rfl (Nat.le_of_ble_eq_true rfl) (dOk_at dt_X10_debateLine 37 rfl) (fun v_7 h_8 _ => ?_)
      refine j_if_ne hC (tgt := 73) (by decide) (dOk_at dt_X10_debateLine 38 rfl) (fun q_9 => ?_) (fun q_9 => ?_)
      · refine j_aload_n hC 1 rfl rfl (dOk_at dt_X10_debateLine 41 rfl) ?_
        refine j_getR hC flX10_60 (show shp 107 = (10, 88) from rfl) (Nat.lt_of_lt_of_le (Nat.le_of_ble_eq_true rfl : 107 < 152) hN) (by decide) (by decide) (fun _ _ _ => rfl) (fun hs => hs 107 39 123 rfl) (dOk_at dt_X10_debateLine 42 rfl) ?_
        refine j_iload_n hC 0 rfl rfl (dOk_at dt_X10_debateLine 43 rfl) ?_
        refine j_aload_n hC 1 rfl rfl (dOk_at dt_X10_debateLine 44 rfl) ?_
        refine j_getI hC flX10_206 (show shp 107 = (10, 88) from rfl) (Nat.lt_of_lt_of_le (Nat.le_of_ble_eq_true rfl : 107 < 152) hN) (by decide) (by decide) (fun _ _ _ => rfl) (dOk_at dt_X10_debateLine 45 rfl) ?_
        refine j_iast hC St_SP (show shp 123 = (21, 24) from rfl) (Nat.lt_of_lt_of_le (Nat.le_of_ble_eq_true rfl : 123 < 152) hN) (dOk_at dt_X10_debateLine 46 rfl) ?_
        refine j_aload_n hC 1 rfl rfl (dOk_at dt_X10_debateLine 47 rfl) ?_
        refine j_iconst hC (v := (0 : Int32)) rfl (dOk_at dt_X10_debateLine 48 rfl) ?_
        refine j_bipush hC (v := (99 : Int32)) rfl (dOk_at dt_X10_debateLine 49 rfl) ?_
        refine j_callVi hC clX10_215 (fun rz hrz => c_X10_number hN _ _ _ rz hrz) (show shp 107 = (10, 88) from rfl) (Nat.lt_of_lt_of_le (Nat.le_of_ble_eq_true rfl : 107 < 152) hN) (by decide) rfl rfl ⟨Nat.le_of_ble_eq_true rfl, Nat.le_of_ble_eq_true rfl⟩ ⟨Nat.le_refl 0, Nat.le_refl 0⟩ (As := [.int (0 : Int32), .int (99 : Int32)]) (st := []) rfl (Nat.le_of_ble_eq_true rfl) (dOk_at dt_X10_debateLine 50 rfl) (fun v_10 h_11 _ => ?_)
        refine j_if_ne hC (tgt := 95) (by decide) (dOk_at dt_X10_debateLine 51 rfl) (fun q_12 => ?_) (fun q_12 => ?_)
        · refine j_aload_n hC 1 rfl rfl (dOk_at dt_X10_debateLine 54 rfl) ?_
          refine j_getR hC flX10_63 (show shp 107 = (10, 88) from rfl) (Nat.lt_of_lt_of_le (Nat.le_of_ble_eq_true rfl : 107 < 152) hN) (by decide) (by decide) (fun _ _ _ => rfl) (fun hs => hs 107 40 124 rfl) (dOk_at dt_X10_debateLine 55 rfl) ?_
          refine j_iload_n hC 0 rfl rfl (dOk_at dt_X10_debateLine 56 rfl) ?_
          refine j_aload_n hC 1 rfl rfl (dOk_at dt_X10_debateLine 57 rfl) ?_
          refine j_getI hC flX10_206 (show shp 107 = (10, 88) from rfl) (Nat.lt_of_lt_of_le (Nat.le_of_ble_eq_true rfl : 107 < 152) hN) (by decide) (by decide) (fun _ _ _ => rfl) (dOk_at dt_X10_debateLine 58 rfl) ?_
          refine j_iast hC St_SP (show shp 124 = (21, 24) from rfl) (Nat.lt_of_lt_of_le (Nat.le_of_ble_eq_true rfl : 124 < 152) hN) (dOk_at dt_X10_debateLine 59 rfl) ?_
          refine j_aload_n hC 1 rfl rfl (dOk_at dt_X10_debateLine 60 rfl) ?_
          refine j_dupr hC (dOk_at dt_X10_debateLine 61 rfl) ?_
          refine j_getI hC flX10_231 (show shp 107 = (10, 88) from rfl) (Nat.lt_of_lt_of_le (Nat.le_of_ble_eq_true rfl : 107 < 152) hN) (by decide) (by decide) (fun _ _ _ => rfl) (dOk_at dt_X10_debateLine 62 rfl) ?_
          refine j_iconst hC (v := (1 : Int32)) rfl (dOk_at dt_X10_debateLine 63 rfl) ?_
          refine j_iadd hC (dOk_at dt_X10_debateLine 64 rfl) ?_
          refine j_putI hC St_SP flX10_231 (show shp 107 = (10, 88) from rfl) (Nat.lt_of_lt_of_le (Nat.le_of_ble_eq_true rfl : 107 < 152) hN) (by decide) (by decide) rfl rfl (dOk_at dt_X10_debateLine 65 rfl) ?_
          refine j_iconst hC (v := (1 : Int32)) rfl (dOk_at dt_X10_debateLine 66 rfl) ?_
          exact j_zretK hC hret rfl (dOk_at dt_X10_debateLine 67 rfl)
        · refine j_iconst hC (v := (0 : Int32)) rfl (dOk_at dt_X10_debateLine 52 rfl) ?_
          exact j_zretK hC hret rfl (dOk_at dt_X10_debateLine 53 rfl)
      · refine j_iconst hC (v := (0 : Int32)) rfl (dOk_at dt_X10_debateLine 39 rfl) ?_
        exact j_zretK hC hret rfl (dOk_at dt_X10_debateLine 40 rfl)
    · refine j_iconst hC (v := (0 : Int32)) rfl (dOk_at dt_X10_debateLine 23 rfl) ?_
      exact j_zretK hC hret rfl (dOk_at dt_X10_debateLine 24 rfl)
  · refine j_aload_n hC 0 rfl rfl (dOk_at dt_X10_debateLine 4 rfl) ?_
    refine j_iconst hC (v := (2 : Int32)) rfl (dOk_at dt_X10_debateLine 5 rfl) ?_
    refine j_callVi hC clX10_199 (fun rz hrz => c_X10_wrong hN _ _ rz hrz) (show shp 107 = (10, 88) from rfl) (Nat.lt_of_lt_of_le (Nat.le_of_ble_eq_true rfl : 107 < 152) hN) (by decide) rfl rfl ⟨Nat.le_of_ble_eq_true rfl, Nat.le_of_ble_eq_true rfl⟩ ⟨Nat.le_refl 0, Nat.le_refl 0⟩ (As := [.int (2 : Int32)]) (st := []) rfl (Nat.le_of_ble_eq_true rfl) (dOk_at dt_X10_debateLine 6 rfl) (fun v_13 h_14 _ => ?_)
    exact j_zret hC hret (dOk_at dt_X10_debateLine 7 rfl)
def tb_X10_stuffLine : List (Nat × Instr × Nat) := [(0, .aload_n 0, 1), (1, .getfield 234, 3), (4, .bipush 6, 2), (6, .if_icmp .ne 9, 3), (9, .aload_n 0, 1), (10, .iconst 2, 1), (11, .invokevirtual 199, 3), (14, .ireturn, 1), (15, .aload_n 0, 1), (16, .invokevirtual 209, 3), (19, .bipush 6, 2), (21, .aload_n 0, 1), (22, .getfield 234, 3), (25, .iadd, 1), (26, .istore_n 1, 1), (27, .aload_n 0, 1), (28, .aload_n 0, 1), (29, .getfield 42, 3), (32, .iconst 5, 1), (33, .aload_n 0, 1), (34, .getfield 225, 3), (37, .invokevirtual 279, 3), (40, .ifCond .ne 5, 3), (43, .iconst 0, 1), (44, .ireturn, 1), (45, .aload_n 0, 1), (46, .getfield 66, 3), (49, .iload_n 1, 1), (50, .aload_n 0, 1), (51, .getfield 206, 3), (54, .iastore, 1), (55, .aload_n 0, 1), (56, .iconst 0, 1), (57, .bipush 99, 2), (59, .invokevirtual 215, 3), (62, .ifCond .ne 5, 3), (65, .iconst 0, 1), (66, .ireturn, 1), (67, .aload_n 0, 1), (68, .getfield 69, 3), (71, .iload_n 1, 1), (72, .aload_n 0, 1), (73, .getfield 206, 3), (76, .iastore, 1), (77, .aload_n 0, 1), (78, .dup, 1), (79, .getfield 234, 3), (82, .iconst 1, 1), (83, .iadd, 1), (84, .putfield 234, 3), (87, .iconst 1, 1), (88, .ireturn, 1)]
theorem dt_X10_stuffLine : dOk cX10_stuffLine tb_X10_stuffLine = true := by decide +kernel
def fX10_stuffLine (h : Hp) : Option (Int32 × Hp) := if (hI h 107 24) = (6 : Int32) then (bnd (fX10_wrong h (2 : Int32)) (fun v_10 h_11 => if isZ v_10 then some (v_10, h_11) else none)) else ((fX10_token h).bind (fun h_3 => bnd (fX10_thereIn 117 10 h_3 (5 : Int32) (hI h_3 107 21)) (fun v_4 h_5 => if v_4 = 0 then (some ((0 : Int32), h_5)) else (if inb ((6 : Int32) + (hI h_3 107 24)) 12 then (bnd (fX10_number (uI h_5 125 (Int32.toNatClampNeg ((6 : Int32) + (hI h_3 107 24))) (hI h_5 107 11)) (0 : Int32) (99 : Int32)) (fun v_7 h_8 => if v_7 = 0 then (some ((0 : Int32), h_8)) else (if inb ((6 : Int32) + (hI h_3 107 24)) 12 then (some ((1 : Int32), (uI (uI h_8 126 (Int32.toNatClampNeg ((6 : Int32) + (hI h_3 107 24))) (hI h_8 107 11)) 107 24 ((hI (uI h_8 126 (Int32.toNatClampNeg ((6 : Int32) + (hI h_3 107 24))) (hI h_8 107 11)) 107 24) + (1 : Int32))))) else none))) else none))))
set_option maxRecDepth 100000 in
set_option maxHeartbeats 4000000 in
theorem c_X10_stuffLine {l : Launch} {sb : State} {D : va_G} {ids : Nat → ClassId} {n : Nat} (hN : 152 ≤ n) (h : Hp) (r : Int32 × Hp) (hr : fX10_stuffLine h = some r) : jM l yX10_stuffLine cX10_stuffLine 2 (some .boolean) 3 sb D ids shp St n [.ref 107] h (jQi sb D ids shp St n r) := by
  refine jM_of hr rfl (Nat.le_of_ble_eq_true rfl) ?_
  intro p e s m args below meth c hC hret
  unfold fX10_stuffLine
  refine j_aload_n hC 0 rfl rfl (dOk_at dt_X10_stuffLine 0 rfl) ?_
  refine j_getI hC flX10_234 (show shp 107 = (10, 88) from rfl) (Nat.lt_of_lt_of_le (Nat.le_of_ble_eq_true rfl : 107 < 152) hN) (by decide) (by decide) (fun _ _ _ => rfl) (dOk_at dt_X10_stuffLine 1 rfl) ?_
  refine j_bipush hC (v := (6 : Int32)) rfl (dOk_at dt_X10_stuffLine 2 rfl) ?_
  refine j_icmp_ne hC (tgt := 15) (by decide) (dOk_at dt_X10_stuffLine 3 rfl) (fun q_1 => ?_) (fun q_1 => ?_)
  · refine j_aload_n hC 0 rfl rfl (dOk_at dt_X10_stuffLine 8 rfl) ?_
    refine j_callVv hC clX10_209 (fun rz hrz => c_X10_token hN _ rz hrz) (show shp 107 = (10, 88) from rfl) (Nat.lt_of_lt_of_le (Nat.le_of_ble_eq_true rfl : 107 < 152) hN) (by decide) rfl rfl ⟨Nat.le_of_ble_eq_true rfl, Nat.le_of_ble_eq_true rfl⟩ ⟨Nat.le_refl 0, Nat.le_refl 0⟩ (As := []) (st := []) rfl (Nat.le_of_ble_eq_true rfl) (dOk_at dt_X10_stuffLine 9 rfl) (fun h_3 _ => ?_)
    refine j_bipush hC (v := (6 : Int32)) rfl (dOk_at dt_X10_stuffLine 10 rfl) ?_
    refine j_aload_n hC 0 rfl rfl (dOk_at dt_X10_stuffLine 11 rfl) ?_
    refine j_getI hC flX10_234 (show shp 107 = (10, 88) from rfl) (Nat.lt_of_lt_of_le (Nat.le_of_ble_eq_true rfl : 107 < 152) hN) (by decide) (by decide) (fun _ _ _ => rfl) (dOk_at dt_X10_stuffLine 12 rfl) ?_
    refine j_iadd hC (dOk_at dt_X10_stuffLine 13 rfl) ?_
    refine j_istore_n hC rfl (lv' := [(1, .int ((6 : Int32) + (hI h_3 107 24))), (0, .ref 107)]) (by decide) rfl (dOk_at dt_X10_stuffLine 14 rfl) ?_
    refine j_aload_n hC 1 rfl rfl (dOk_at dt_X10_stuffLine 15 rfl) ?_
    refine j_aload_n hC 1 rfl rfl (dOk_at dt_X10_stuffLine 16 rfl) ?_
    refine j_getR hC flX10_42 (show shp 107 = (10, 88) from rfl) (Nat.lt_of_lt_of_le (Nat.le_of_ble_eq_true rfl : 107 < 152) hN) (by decide) (by decide) (fun _ _ _ => rfl) (fun hs => hs 107 33 117 rfl) (dOk_at dt_X10_stuffLine 17 rfl) ?_
    refine j_iconst hC (v := (5 : Int32)) rfl (dOk_at dt_X10_stuffLine 18 rfl) ?_
    refine j_aload_n hC 1 rfl rfl (dOk_at dt_X10_stuffLine 19 rfl) ?_
    refine j_getI hC flX10_225 (show shp 107 = (10, 88) from rfl) (Nat.lt_of_lt_of_le (Nat.le_of_ble_eq_true rfl : 107 < 152) hN) (by decide) (by decide) (fun _ _ _ => rfl) (dOk_at dt_X10_stuffLine 20 rfl) ?_
    refine j_callVi hC clX10_279 (fun rz hrz => c_X10_thereIn hN ((show shp 117 = (21, 10) from rfl)) _ _ _ rz hrz) (show shp 107 = (10, 88) from rfl) (Nat.lt_of_lt_of_le (Nat.le_of_ble_eq_true rfl : 107 < 152) hN) (by decide) rfl rfl ⟨Nat.le_of_ble_eq_true rfl, Nat.le_of_ble_eq_true rfl⟩ ⟨Nat.le_refl 0, Nat.le_refl 0⟩ (As := [.ref 117, .int (5 : Int32), .int (hI h_3 107 21)]) (st := []) rfl (Nat.le_of_ble_eq_true rfl) (dOk_at dt_X10_stuffLine 21 rfl) (fun v_4 h_5 _ => ?_)
    refine j_if_ne hC (tgt := 45) (by decide) (dOk_at dt_X10_stuffLine 22 rfl) (fun q_6 => ?_) (fun q_6 => ?_)
    · refine j_aload_n hC 1 rfl rfl (dOk_at dt_X10_stuffLine 25 rfl) ?_
      refine j_getR hC flX10_66 (show shp 107 = (10, 88) from rfl) (Nat.lt_of_lt_of_le (Nat.le_of_ble_eq_true rfl : 107 < 152) hN) (by decide) (by decide) (fun _ _ _ => rfl) (fun hs => hs 107 41 125 rfl) (dOk_at dt_X10_stuffLine 26 rfl) ?_
      refine j_iload_n hC 0 rfl rfl (dOk_at dt_X10_stuffLine 27 rfl) ?_
      refine j_aload_n hC 1 rfl rfl (dOk_at dt_X10_stuffLine 28 rfl) ?_
      refine j_getI hC flX10_206 (show shp 107 = (10, 88) from rfl) (Nat.lt_of_lt_of_le (Nat.le_of_ble_eq_true rfl : 107 < 152) hN) (by decide) (by decide) (fun _ _ _ => rfl) (dOk_at dt_X10_stuffLine 29 rfl) ?_
      refine j_iast hC St_SP (show shp 125 = (21, 12) from rfl) (Nat.lt_of_lt_of_le (Nat.le_of_ble_eq_true rfl : 125 < 152) hN) (dOk_at dt_X10_stuffLine 30 rfl) ?_
      refine j_aload_n hC 1 rfl rfl (dOk_at dt_X10_stuffLine 31 rfl) ?_
      refine j_iconst hC (v := (0 : Int32)) rfl (dOk_at dt_X10_stuffLine 32 rfl) ?_
      refine j_bipush hC (v := (99 : Int32)) rfl (dOk_at dt_X10_stuffLine 33 rfl) ?_
      refine j_callVi hC clX10_215 (fun rz hrz => c_X10_number hN _ _ _ rz hrz) (show shp 107 = (10, 88) from rfl) (Nat.lt_of_lt_of_le (Nat.le_of_ble_eq_true rfl : 107 < 152) hN) (by decide) rfl rfl ⟨Nat.le_of_ble_eq_true rfl, Nat.le_of_ble_eq_true rfl⟩ ⟨Nat.le_refl 0, Nat.le_refl 0⟩ (As := [.int (0 : Int32), .int (99 : Int32)]) (st := []) rfl (Nat.le_of_ble_eq_true rfl) (dOk_at dt_X10_stuffLine 34 rfl) (fun v_7 h_8 _ => ?_)
      refine j_if_ne hC (tgt := 67) (by decide) (dOk_at dt_X10_stuffLine 35 rfl) (fun q_9 => ?_) (fun q_9 => ?_)
      · refine j_aload_n hC 1 rfl rfl (dOk_at dt_X10_stuffLine 38 rfl) ?_
        refine j_getR hC flX10_69 (show shp 107 = (10, 88) from rfl) (Nat.lt_of_lt_of_le (Nat.le_of_ble_eq_true rfl : 107 < 152) hN) (by decide) (by decide) (fun _ _ _ => rfl) (fun hs => hs 107 42 126 rfl) (dOk_at dt_X10_stuffLine 39 rfl) ?_
        refine j_iload_n hC 0 rfl rfl (dOk_at dt_X10_stuffLine 40 rfl) ?_
        refine j_aload_n hC 1 rfl rfl (dOk_at dt_X10_stuffLine 41 rfl) ?_
        refine j_getI hC flX10_206 (show shp 107 = (10, 88) from rfl) (Nat.lt_of_lt_of_le (Nat.le_of_ble_eq_true rfl : 107 < 152) hN) (by decide) (by decide) (fun _ _ _ => rfl) (dOk_at dt_X10_stuffLine 42 rfl) ?_
        refine j_iast hC St_SP (show shp 126 = (21, 12) from rfl) (Nat.lt_of_lt_of_le (Nat.le_of_ble_eq_true rfl : 126 < 152) hN) (dOk_at dt_X10_stuffLine 43 rfl) ?_
        refine j_aload_n hC 1 rfl rfl (dOk_at dt_X10_stuffLine 44 rfl) ?_
        refine j_dupr hC (dOk_at dt_X10_stuffLine 45 rfl) ?_
        refine j_getI hC flX10_234 (show shp 107 = (10, 88) from rfl) (Nat.lt_of_lt_of_le (Nat.le_of_ble_eq_true rfl : 107 < 152) hN) (by decide) (by decide) (fun _ _ _ => rfl) (dOk_at dt_X10_stuffLine 46 rfl) ?_
        refine j_iconst hC (v := (1 : Int32)) rfl (dOk_at dt_X10_stuffLine 47 rfl) ?_
        refine j_iadd hC (dOk_at dt_X10_stuffLine 48 rfl) ?_
        refine j_putI hC St_SP flX10_234 (show shp 107 = (10, 88) from rfl) (Nat.lt_of_lt_of_le (Nat.le_of_ble_eq_true rfl : 107 < 152) hN) (by decide) (by decide) rfl rfl (dOk_at dt_X10_stuffLine 49 rfl) ?_
        refine j_iconst hC (v := (1 : Int32)) rfl (dOk_at dt_X10_stuffLine 50 rfl) ?_
        exact j_zretK hC hret rfl (dOk_at dt_X10_stuffLine 51 rfl)
      · refine j_iconst hC (v := (0 : Int32)) rfl (dOk_at dt_X10_stuffLine 36 rfl) ?_
        exact j_zretK hC hret rfl (dOk_at dt_X10_stuffLine 37 rfl)
    · refine j_iconst hC (v := (0 : Int32)) rfl (dOk_at dt_X10_stuffLine 23 rfl) ?_
      exact j_zretK hC hret rfl (dOk_at dt_X10_stuffLine 24 rfl)
  · refine j_aload_n hC 0 rfl rfl (dOk_at dt_X10_stuffLine 4 rfl) ?_
    refine j_iconst hC (v := (2 : Int32)) rfl (dOk_at dt_X10_stuffLine 5 rfl) ?_
    refine j_callVi hC clX10_199 (fun rz hrz => c_X10_wrong hN _ _ rz hrz) (show shp 107 = (10, 88) from rfl) (Nat.lt_of_lt_of_le (Nat.le_of_ble_eq_true rfl : 107 < 152) hN) (by decide) rfl rfl ⟨Nat.le_of_ble_eq_true rfl, Nat.le_of_ble_eq_true rfl⟩ ⟨Nat.le_refl 0, Nat.le_refl 0⟩ (As := [.int (2 : Int32)]) (st := []) rfl (Nat.le_of_ble_eq_true rfl) (dOk_at dt_X10_stuffLine 6 rfl) (fun v_10 h_11 _ => ?_)
    exact j_zret hC hret (dOk_at dt_X10_stuffLine 7 rfl)
def tb_X10_onceLine : List (Nat × Instr × Nat) := [(0, .aload_n 0, 1), (1, .getfield 20, 3), (4, .iload_n 1, 1), (5, .baload, 1), (6, .ifCond .eq 9, 3), (9, .aload_n 0, 1), (10, .iconst 3, 1), (11, .invokevirtual 199, 3), (14, .ireturn, 1), (15, .aload_n 0, 1), (16, .getfield 20, 3), (19, .iload_n 1, 1), (20, .iconst 1, 1), (21, .bastore, 1), (22, .aload_n 0, 1), (23, .invokevirtual 209, 3), (26, .aload_n 0, 1), (27, .iconst 0, 1), (28, .iload_n 2, 1), (29, .invokevirtual 215, 3), (32, .ifCond .ne 5, 3), (35, .iconst 0, 1), (36, .ireturn, 1), (37, .aload_n 0, 1), (38, .getfield 24, 3), (41, .iconst 2, 1), (42, .iload_n 1, 1), (43, .iadd, 1), (44, .aload_n 0, 1), (45, .getfield 206, 3), (48, .iastore, 1), (49, .iconst 1, 1), (50, .ireturn, 1)]
theorem dt_X10_onceLine : dOk cX10_onceLine tb_X10_onceLine = true := by decide +kernel
def fX10_onceLine (h : Hp) (x1 : Int32) (x2 : Int32) : Option (Int32 × Hp) := if inb x1 2 then (if (hI h 110 (Int32.toNatClampNeg x1)) = 0 then (if inb x1 2 then ((fX10_token (uI h 110 (Int32.toNatClampNeg x1) (1 : Int32))).bind (fun h_3 => bnd (fX10_number h_3 (0 : Int32) x2) (fun v_4 h_5 => if v_4 = 0 then (some ((0 : Int32), h_5)) else (if inb ((2 : Int32) + x1) 4 then (some ((1 : Int32), (uI h_5 111 (Int32.toNatClampNeg ((2 : Int32) + x1)) (hI h_5 107 11)))) else none)))) else none) else (bnd (fX10_wrong h (3 : Int32)) (fun v_7 h_8 => if isZ v_7 then some (v_7, h_8) else none))) else none
set_option maxRecDepth 100000 in
set_option maxHeartbeats 4000000 in
theorem c_X10_onceLine {l : Launch} {sb : State} {D : va_G} {ids : Nat → ClassId} {n : Nat} (hN : 152 ≤ n) (h : Hp) (x1 : Int32) (x2 : Int32) (r : Int32 × Hp) (hr : fX10_onceLine h x1 x2 = some r) : jM l yX10_onceLine cX10_onceLine 3 (some .boolean) 3 sb D ids shp St n [.ref 107, .int x1, .int x2] h (jQi sb D ids shp St n r) := by
  refine jM_of hr rfl (Nat.le_of_ble_eq_true rfl) ?_
  intro p e s m args below meth c hC hret
  unfold fX10_onceLine
  refine j_aload_n hC 0 rfl rfl (dOk_at dt_X10_onceLine 0 rfl) ?_
  refine j_getR hC flX10_20 (show shp 107 = (10, 88) from rfl) (Nat.lt_of_lt_of_le (Nat.le_of_ble_eq_true rfl : 107 < 152) hN) (by decide) (by decide) (fun _ _ _ => rfl) (fun hs => hs 107 26 110 rfl) (dOk_at dt_X10_onceLine 1 rfl) ?_
  refine j_iload_n hC 1 rfl rfl (dOk_at dt_X10_onceLine 2 rfl) ?_
  refine j_zald hC (show shp 110 = (23, 2) from rfl) (Nat.lt_of_lt_of_le (Nat.le_of_ble_eq_true rfl : 110 < 152) hN) (dOk_at dt_X10_onceLine 3 rfl) ?_
  refine j_if_eq hC (tgt := 15) (by decide) (dOk_at dt_X10_onceLine 4 rfl) (fun q_1 => ?_) (fun q_1 => ?_)
  · refine j_aload_n hC 0 rfl rfl (dOk_at dt_X10_onceLine 9 rfl) ?_
    refine j_getR hC flX10_20 (show shp 107 = (10, 88) from rfl) (Nat.lt_of_lt_of_le (Nat.le_of_ble_eq_true rfl : 107 < 152) hN) (by decide) (by decide) (fun _ _ _ => rfl) (fun hs => hs 107 26 110 rfl) (dOk_at dt_X10_onceLine 10 rfl) ?_
    refine j_iload_n hC 1 rfl rfl (dOk_at dt_X10_onceLine 11 rfl) ?_
    refine j_iconst hC (v := (1 : Int32)) rfl (dOk_at dt_X10_onceLine 12 rfl) ?_
    refine j_zast hC St_SP (show shp 110 = (23, 2) from rfl) (Nat.lt_of_lt_of_le (Nat.le_of_ble_eq_true rfl : 110 < 152) hN) rfl (dOk_at dt_X10_onceLine 13 rfl) ?_
    refine j_aload_n hC 0 rfl rfl (dOk_at dt_X10_onceLine 14 rfl) ?_
    refine j_callVv hC clX10_209 (fun rz hrz => c_X10_token hN _ rz hrz) (show shp 107 = (10, 88) from rfl) (Nat.lt_of_lt_of_le (Nat.le_of_ble_eq_true rfl : 107 < 152) hN) (by decide) rfl rfl ⟨Nat.le_of_ble_eq_true rfl, Nat.le_of_ble_eq_true rfl⟩ ⟨Nat.le_refl 0, Nat.le_refl 0⟩ (As := []) (st := []) rfl (Nat.le_of_ble_eq_true rfl) (dOk_at dt_X10_onceLine 15 rfl) (fun h_3 _ => ?_)
    refine j_aload_n hC 0 rfl rfl (dOk_at dt_X10_onceLine 16 rfl) ?_
    refine j_iconst hC (v := (0 : Int32)) rfl (dOk_at dt_X10_onceLine 17 rfl) ?_
    refine j_iload_n hC 2 rfl rfl (dOk_at dt_X10_onceLine 18 rfl) ?_
    refine j_callVi hC clX10_215 (fun rz hrz => c_X10_number hN _ _ _ rz hrz) (show shp 107 = (10, 88) from rfl) (Nat.lt_of_lt_of_le (Nat.le_of_ble_eq_true rfl : 107 < 152) hN) (by decide) rfl rfl ⟨Nat.le_of_ble_eq_true rfl, Nat.le_of_ble_eq_true rfl⟩ ⟨Nat.le_refl 0, Nat.le_refl 0⟩ (As := [.int (0 : Int32), .int x2]) (st := []) rfl (Nat.le_of_ble_eq_true rfl) (dOk_at dt_X10_onceLine 19 rfl) (fun v_4 h_5 _ => ?_)
    refine j_if_ne hC (tgt := 37) (by decide) (dOk_at dt_X10_onceLine 20 rfl) (fun q_6 => ?_) (fun q_6 => ?_)
    · refine j_aload_n hC 0 rfl rfl (dOk_at dt_X10_onceLine 23 rfl) ?_
      refine j_getR hC flX10_24 (show shp 107 = (10, 88) from rfl) (Nat.lt_of_lt_of_le (Nat.le_of_ble_eq_true rfl : 107 < 152) hN) (by decide) (by decide) (fun _ _ _ => rfl) (fun hs => hs 107 27 111 rfl) (dOk_at dt_X10_onceLine 24 rfl) ?_
      refine j_iconst hC (v := (2 : Int32)) rfl (dOk_at dt_X10_onceLine 25 rfl) ?_
      refine j_iload_n hC 1 rfl rfl (dOk_at dt_X10_onceLine 26 rfl) ?_
      refine j_iadd hC (dOk_at dt_X10_onceLine 27 rfl) ?_
      refine j_aload_n hC 0 rfl rfl (dOk_at dt_X10_onceLine 28 rfl) ?_
      refine j_getI hC flX10_206 (show shp 107 = (10, 88) from rfl) (Nat.lt_of_lt_of_le (Nat.le_of_ble_eq_true rfl : 107 < 152) hN) (by decide) (by decide) (fun _ _ _ => rfl) (dOk_at dt_X10_onceLine 29 rfl) ?_
      refine j_iast hC St_SP (show shp 111 = (21, 4) from rfl) (Nat.lt_of_lt_of_le (Nat.le_of_ble_eq_true rfl : 111 < 152) hN) (dOk_at dt_X10_onceLine 30 rfl) ?_
      refine j_iconst hC (v := (1 : Int32)) rfl (dOk_at dt_X10_onceLine 31 rfl) ?_
      exact j_zretK hC hret rfl (dOk_at dt_X10_onceLine 32 rfl)
    · refine j_iconst hC (v := (0 : Int32)) rfl (dOk_at dt_X10_onceLine 21 rfl) ?_
      exact j_zretK hC hret rfl (dOk_at dt_X10_onceLine 22 rfl)
  · refine j_aload_n hC 0 rfl rfl (dOk_at dt_X10_onceLine 5 rfl) ?_
    refine j_iconst hC (v := (3 : Int32)) rfl (dOk_at dt_X10_onceLine 6 rfl) ?_
    refine j_callVi hC clX10_199 (fun rz hrz => c_X10_wrong hN _ _ rz hrz) (show shp 107 = (10, 88) from rfl) (Nat.lt_of_lt_of_le (Nat.le_of_ble_eq_true rfl : 107 < 152) hN) (by decide) rfl rfl ⟨Nat.le_of_ble_eq_true rfl, Nat.le_of_ble_eq_true rfl⟩ ⟨Nat.le_refl 0, Nat.le_refl 0⟩ (As := [.int (3 : Int32)]) (st := []) rfl (Nat.le_of_ble_eq_true rfl) (dOk_at dt_X10_onceLine 7 rfl) (fun v_7 h_8 _ => ?_)
    exact j_zret hC hret (dOk_at dt_X10_onceLine 8 rfl)
def tb_X10_waitsFor : List (Nat × Instr × Nat) := [(0, .aload_n 0, 1), (1, .getfield 90, 3), (4, .aload_n 0, 1), (5, .getfield 319, 3), (8, .iload_n 1, 1), (9, .iastore, 1), (10, .aload_n 0, 1), (11, .dup, 1), (12, .getfield 319, 3), (15, .iconst 1, 1), (16, .iadd, 1), (17, .putfield 319, 3), (20, .return_, 1)]
theorem dt_X10_waitsFor : dOk cX10_waitsFor tb_X10_waitsFor = true := by decide +kernel
def fX10_waitsFor (h : Hp) (x1 : Int32) : Option (Hp) := if inb (hI h 107 51) 96 then (some (uI (uI h 133 (Int32.toNatClampNeg (hI h 107 51)) x1) 107 51 ((hI (uI h 133 (Int32.toNatClampNeg (hI h 107 51)) x1) 107 51) + (1 : Int32)))) else none
set_option maxRecDepth 100000 in
set_option maxHeartbeats 4000000 in
theorem c_X10_waitsFor {l : Launch} {sb : State} {D : va_G} {ids : Nat → ClassId} {n : Nat} (hN : 152 ≤ n) (h : Hp) (x1 : Int32) (r : Hp) (hr : fX10_waitsFor h x1 = some r) : jM l yX10_waitsFor cX10_waitsFor 2 none 0 sb D ids shp St n [.ref 107, .int x1] h (jQv sb D ids shp St n r) := by
  refine jM_of hr rfl (Nat.le_of_ble_eq_true rfl) ?_
  intro p e s m args below meth c hC hret
  unfold fX10_waitsFor
  refine j_aload_n hC 0 rfl rfl (dOk_at dt_X10_waitsFor 0 rfl) ?_
  refine j_getR hC flX10_90 (show shp 107 = (10, 88) from rfl) (Nat.lt_of_lt_of_le (Nat.le_of_ble_eq_true rfl : 107 < 152) hN) (by decide) (by decide) (fun _ _ _ => rfl) (fun hs => hs 107 49 133 rfl) (dOk_at dt_X10_waitsFor 1 rfl) ?_
  refine j_aload_n hC 0 rfl rfl (dOk_at dt_X10_waitsFor 2 rfl) ?_
  refine j_getI hC flX10_319 (show shp 107 = (10, 88) from rfl) (Nat.lt_of_lt_of_le (Nat.le_of_ble_eq_true rfl : 107 < 152) hN) (by decide) (by decide) (fun _ _ _ => rfl) (dOk_at dt_X10_waitsFor 3 rfl) ?_
  refine j_iload_n hC 1 rfl rfl (dOk_at dt_X10_waitsFor 4 rfl) ?_
  refine j_iast hC St_SP (show shp 133 = (21, 96) from rfl) (Nat.lt_of_lt_of_le (Nat.le_of_ble_eq_true rfl : 133 < 152) hN) (dOk_at dt_X10_waitsFor 5 rfl) ?_
  refine j_aload_n hC 0 rfl rfl (dOk_at dt_X10_waitsFor 6 rfl) ?_
  refine j_dupr hC (dOk_at dt_X10_waitsFor 7 rfl) ?_
  refine j_getI hC flX10_319 (show shp 107 = (10, 88) from rfl) (Nat.lt_of_lt_of_le (Nat.le_of_ble_eq_true rfl : 107 < 152) hN) (by decide) (by decide) (fun _ _ _ => rfl) (dOk_at dt_X10_waitsFor 8 rfl) ?_
  refine j_iconst hC (v := (1 : Int32)) rfl (dOk_at dt_X10_waitsFor 9 rfl) ?_
  refine j_iadd hC (dOk_at dt_X10_waitsFor 10 rfl) ?_
  refine j_putI hC St_SP flX10_319 (show shp 107 = (10, 88) from rfl) (Nat.lt_of_lt_of_le (Nat.le_of_ble_eq_true rfl : 107 < 152) hN) (by decide) (by decide) rfl rfl (dOk_at dt_X10_waitsFor 11 rfl) ?_
  exact j_vret hC hret (dOk_at dt_X10_waitsFor 12 rfl)
def tb_X10_isCounted : List (Nat × Instr × Nat) := [(0, .aload_n 0, 1), (1, .getfield 240, 3), (4, .bipush 64, 2), (6, .if_icmp .ne 9, 3), (9, .aload_n 0, 1), (10, .iconst 2, 1), (11, .invokevirtual 199, 3), (14, .ireturn, 1), (15, .aload_n 0, 1), (16, .dup, 1), (17, .getfield 240, 3), (20, .iconst 1, 1), (21, .iadd, 1), (22, .putfield 240, 3), (25, .iconst 1, 1), (26, .ireturn, 1)]
theorem dt_X10_isCounted : dOk cX10_isCounted tb_X10_isCounted = true := by decide +kernel
def fX10_isCounted (h : Hp) : Option (Int32 × Hp) := if (hI h 107 54) = (64 : Int32) then (bnd (fX10_wrong h (2 : Int32)) (fun v_2 h_3 => if isZ v_2 then some (v_2, h_3) else none)) else (some ((1 : Int32), (uI h 107 54 ((hI h 107 54) + (1 : Int32)))))
set_option maxRecDepth 100000 in
set_option maxHeartbeats 4000000 in
theorem c_X10_isCounted {l : Launch} {sb : State} {D : va_G} {ids : Nat → ClassId} {n : Nat} (hN : 152 ≤ n) (h : Hp) (r : Int32 × Hp) (hr : fX10_isCounted h = some r) : jM l yX10_isCounted cX10_isCounted 1 (some .boolean) 1 sb D ids shp St n [.ref 107] h (jQi sb D ids shp St n r) := by
  refine jM_of hr rfl (Nat.le_of_ble_eq_true rfl) ?_
  intro p e s m args below meth c hC hret
  unfold fX10_isCounted
  refine j_aload_n hC 0 rfl rfl (dOk_at dt_X10_isCounted 0 rfl) ?_
  refine j_getI hC flX10_240 (show shp 107 = (10, 88) from rfl) (Nat.lt_of_lt_of_le (Nat.le_of_ble_eq_true rfl : 107 < 152) hN) (by decide) (by decide) (fun _ _ _ => rfl) (dOk_at dt_X10_isCounted 1 rfl) ?_
  refine j_bipush hC (v := (64 : Int32)) rfl (dOk_at dt_X10_isCounted 2 rfl) ?_
  refine j_icmp_ne hC (tgt := 15) (by decide) (dOk_at dt_X10_isCounted 3 rfl) (fun q_1 => ?_) (fun q_1 => ?_)
  · refine j_aload_n hC 0 rfl rfl (dOk_at dt_X10_isCounted 8 rfl) ?_
    refine j_dupr hC (dOk_at dt_X10_isCounted 9 rfl) ?_
    refine j_getI hC flX10_240 (show shp 107 = (10, 88) from rfl) (Nat.lt_of_lt_of_le (Nat.le_of_ble_eq_true rfl : 107 < 152) hN) (by decide) (by decide) (fun _ _ _ => rfl) (dOk_at dt_X10_isCounted 10 rfl) ?_
    refine j_iconst hC (v := (1 : Int32)) rfl (dOk_at dt_X10_isCounted 11 rfl) ?_
    refine j_iadd hC (dOk_at dt_X10_isCounted 12 rfl) ?_
    refine j_putI hC St_SP flX10_240 (show shp 107 = (10, 88) from rfl) (Nat.lt_of_lt_of_le (Nat.le_of_ble_eq_true rfl : 107 < 152) hN) (by decide) (by decide) rfl rfl (dOk_at dt_X10_isCounted 13 rfl) ?_
    refine j_iconst hC (v := (1 : Int32)) rfl (dOk_at dt_X10_isCounted 14 rfl) ?_
    exact j_zretK hC hret rfl (dOk_at dt_X10_isCounted 15 rfl)
  · refine j_aload_n hC 0 rfl rfl (dOk_at dt_X10_isCounted 4 rfl) ?_
    refine j_iconst hC (v := (2 : Int32)) rfl (dOk_at dt_X10_isCounted 5 rfl) ?_
    refine j_callVi hC clX10_199 (fun rz hrz => c_X10_wrong hN _ _ rz hrz) (show shp 107 = (10, 88) from rfl) (Nat.lt_of_lt_of_le (Nat.le_of_ble_eq_true rfl : 107 < 152) hN) (by decide) rfl rfl ⟨Nat.le_of_ble_eq_true rfl, Nat.le_of_ble_eq_true rfl⟩ ⟨Nat.le_refl 0, Nat.le_refl 0⟩ (As := [.int (2 : Int32)]) (st := []) rfl (Nat.le_of_ble_eq_true rfl) (dOk_at dt_X10_isCounted 6 rfl) (fun v_2 h_3 _ => ?_)
    exact j_zret hC hret (dOk_at dt_X10_isCounted 7 rfl)
def tb_X10_nameMet : List (Nat × Instr × Nat) := [(0, .aload_n 0, 1), (1, .getfield 175, 3), (4, .iconst 1, 1), (5, .if_icmp .ne 22, 3), (8, .aload_n 0, 1), (9, .getfield 186, 3), (12, .bipush 16, 2), (14, .if_icmp .lt 13, 3), (17, .aload_n 0, 1), (18, .getfield 186, 3), (21, .bipush 16, 2), (23, .isub, 1), (24, .goto 4, 3), (27, .iconst (-1), 1), (28, .ireturn, 1)]
theorem dt_X10_nameMet : dOk cX10_nameMet tb_X10_nameMet = true := by decide +kernel
def fX10_nameMet (h : Hp) : Option (Int32 × Hp) := if (hI h 107 8) = (1 : Int32) then (if (hI h 107 9) < (16 : Int32) then (some ((-1 : Int32), h)) else (some (((hI h 107 9) - (16 : Int32)), h))) else (some ((-1 : Int32), h))
set_option maxRecDepth 100000 in
set_option maxHeartbeats 4000000 in
theorem c_X10_nameMet {l : Launch} {sb : State} {D : va_G} {ids : Nat → ClassId} {n : Nat} (hN : 152 ≤ n) (h : Hp) (r : Int32 × Hp) (hr : fX10_nameMet h = some r) : jM l yX10_nameMet cX10_nameMet 1 (some .int) 0 sb D ids shp St n [.ref 107] h (jQi sb D ids shp St n r) := by
  refine jM_of hr rfl (Nat.le_of_ble_eq_true rfl) ?_
  intro p e s m args below meth c hC hret
  unfold fX10_nameMet
  refine j_aload_n hC 0 rfl rfl (dOk_at dt_X10_nameMet 0 rfl) ?_
  refine j_getI hC flX10_175 (show shp 107 = (10, 88) from rfl) (Nat.lt_of_lt_of_le (Nat.le_of_ble_eq_true rfl : 107 < 152) hN) (by decide) (by decide) (fun _ _ _ => rfl) (dOk_at dt_X10_nameMet 1 rfl) ?_
  refine j_iconst hC (v := (1 : Int32)) rfl (dOk_at dt_X10_nameMet 2 rfl) ?_
  refine j_icmp_ne hC (tgt := 27) (by decide) (dOk_at dt_X10_nameMet 3 rfl) (fun q_1 => ?_) (fun q_1 => ?_)
  · refine j_iconst hC (v := (-1 : Int32)) rfl (dOk_at dt_X10_nameMet 13 rfl) ?_
    exact j_iret hC hret (dOk_at dt_X10_nameMet 14 rfl)
  · refine j_aload_n hC 0 rfl rfl (dOk_at dt_X10_nameMet 4 rfl) ?_
    refine j_getI hC flX10_186 (show shp 107 = (10, 88) from rfl) (Nat.lt_of_lt_of_le (Nat.le_of_ble_eq_true rfl : 107 < 152) hN) (by decide) (by decide) (fun _ _ _ => rfl) (dOk_at dt_X10_nameMet 5 rfl) ?_
    refine j_bipush hC (v := (16 : Int32)) rfl (dOk_at dt_X10_nameMet 6 rfl) ?_
    refine j_icmp_lt hC (tgt := 27) (by decide) (dOk_at dt_X10_nameMet 7 rfl) (fun q_2 => ?_) (fun q_2 => ?_)
    · refine j_iconst hC (v := (-1 : Int32)) rfl (dOk_at dt_X10_nameMet 13 rfl) ?_
      exact j_iret hC hret (dOk_at dt_X10_nameMet 14 rfl)
    · refine j_aload_n hC 0 rfl rfl (dOk_at dt_X10_nameMet 8 rfl) ?_
      refine j_getI hC flX10_186 (show shp 107 = (10, 88) from rfl) (Nat.lt_of_lt_of_le (Nat.le_of_ble_eq_true rfl : 107 < 152) hN) (by decide) (by decide) (fun _ _ _ => rfl) (dOk_at dt_X10_nameMet 9 rfl) ?_
      refine j_bipush hC (v := (16 : Int32)) rfl (dOk_at dt_X10_nameMet 10 rfl) ?_
      refine j_isub hC (dOk_at dt_X10_nameMet 11 rfl) ?_
      refine j_goto hC (tgt := 28) (by decide) (dOk_at dt_X10_nameMet 12 rfl) ?_
      exact j_iret hC hret (dOk_at dt_X10_nameMet 14 rfl)
def tb_X10_grown : List (Nat × Instr × Nat) := [(0, .aload_n 0, 1), (1, .getfield 81, 3), (4, .bipush 64, 2), (6, .aload_n 0, 1), (7, .getfield 237, 3), (10, .iadd, 1), (11, .iload_n 1, 1), (12, .iastore, 1), (13, .aload_n 0, 1), (14, .getfield 84, 3), (17, .bipush 64, 2), (19, .aload_n 0, 1), (20, .getfield 237, 3), (23, .iadd, 1), (24, .iload_n 2, 1), (25, .iastore, 1), (26, .aload_n 0, 1), (27, .getfield 87, 3), (30, .bipush 64, 2), (32, .aload_n 0, 1), (33, .getfield 237, 3), (36, .iadd, 1), (37, .iload_n 3, 1), (38, .iastore, 1), (39, .aload_n 0, 1), (40, .getfield 93, 3), (43, .aload_n 0, 1), (44, .getfield 316, 3), (47, .aload_n 0, 1), (48, .getfield 237, 3), (51, .iastore, 1), (52, .aload_n 0, 1), (53, .dup, 1), (54, .getfield 316, 3), (57, .iconst 1, 1), (58, .iadd, 1), (59, .putfield 316, 3), (62, .aload_n 0, 1), (63, .dup, 1), (64, .getfield 237, 3), (67, .iconst 1, 1), (68, .iadd, 1), (69, .putfield 237, 3), (72, .return_, 1)]
theorem dt_X10_grown : dOk cX10_grown tb_X10_grown = true := by decide +kernel
def fX10_grown (h : Hp) (x1 : Int32) (x2 : Int32) (x3 : Int32) : Option (Hp) := if inb ((64 : Int32) + (hI h 107 25)) 128 then (if inb ((64 : Int32) + (hI (uI h 130 (Int32.toNatClampNeg ((64 : Int32) + (hI h 107 25))) x1) 107 25)) 128 then (if inb ((64 : Int32) + (hI (uI (uI h 130 (Int32.toNatClampNeg ((64 : Int32) + (hI h 107 25))) x1) 131 (Int32.toNatClampNeg ((64 : Int32) + (hI (uI h 130 (Int32.toNatClampNeg ((64 : Int32) + (hI h 107 25))) x1) 107 25))) x2) 107 25)) 128 then (if inb (hI (uI (uI (uI h 130 (Int32.toNatClampNeg ((64 : Int32) + (hI h 107 25))) x1) 131 (Int32.toNatClampNeg ((64 : Int32) + (hI (uI h 130 (Int32.toNatClampNeg ((64 : Int32) + (hI h 107 25))) x1) 107 25))) x2) 132 (Int32.toNatClampNeg ((64 : Int32) + (hI (uI (uI h 130 (Int32.toNatClampNeg ((64 : Int32) + (hI h 107 25))) x1) 131 (Int32.toNatClampNeg ((64 : Int32) + (hI (uI h 130 (Int32.toNatClampNeg ((64 : Int32) + (hI h 107 25))) x1) 107 25))) x2) 107 25))) x3) 107 52) 96 then (some (uI (uI (uI (uI (uI (uI h 130 (Int32.toNatClampNeg ((64 : Int32) + (hI h 107 25))) x1) 131 (Int32.toNatClampNeg ((64 : Int32) + (hI (uI h 130 (Int32.toNatClampNeg ((64 : Int32) + (hI h 107 25))) x1) 107 25))) x2) 132 (Int32.toNatClampNeg ((64 : Int32) + (hI (uI (uI h 130 (Int32.toNatClampNeg ((64 : Int32) + (hI h 107 25))) x1) 131 (Int32.toNatClampNeg ((64 : Int32) + (hI (uI h 130 (Int32.toNatClampNeg ((64 : Int32) + (hI h 107 25))) x1) 107 25))) x2) 107 25))) x3) 134 (Int32.toNatClampNeg (hI (uI (uI (uI h 130 (Int32.toNatClampNeg ((64 : Int32) + (hI h 107 25))) x1) 131 (Int32.toNatClampNeg ((64 : Int32) + (hI (uI h 130 (Int32.toNatClampNeg ((64 : Int32) + (hI h 107 25))) x1) 107 25))) x2) 132 (Int32.toNatClampNeg ((64 : Int32) + (hI (uI (uI h 130 (Int32.toNatClampNeg ((64 : Int32) + (hI h 107 25))) x1) 131 (Int32.toNatClampNeg ((64 : Int32) + (hI (uI h 130 (Int32.toNatClampNeg ((64 : Int32) + (hI h 107 25))) x1) 107 25))) x2) 107 25))) x3) 107 52)) (hI (uI (uI (uI h 130 (Int32.toNatClampNeg ((64 : Int32) + (hI h 107 25))) x1) 131 (Int32.toNatClampNeg ((64 : Int32) + (hI (uI h 130 (Int32.toNatClampNeg ((64 : Int32) + (hI h 107 25))) x1) 107 25))) x2) 132 (Int32.toNatClampNeg ((64 : Int32) + (hI (uI (uI h 130 (Int32.toNatClampNeg ((64 : Int32) + (hI h 107 25))) x1) 131 (Int32.toNatClampNeg ((64 : Int32) + (hI (uI h 130 (Int32.toNatClampNeg ((64 : Int32) + (hI h 107 25))) x1) 107 25))) x2) 107 25))) x3) 107 25)) 107 52 ((hI (uI (uI (uI (uI h 130 (Int32.toNatClampNeg ((64 : Int32) + (hI h 107 25))) x1) 131 (Int32.toNatClampNeg ((64 : Int32) + (hI (uI h 130 (Int32.toNatClampNeg ((64 : Int32) + (hI h 107 25))) x1) 107 25))) x2) 132 (Int32.toNatClampNeg ((64 : Int32) + (hI (uI (uI h 130 (Int32.toNatClampNeg ((64 : Int32) + (hI h 107 25))) x1) 131 (Int32.toNatClampNeg ((64 : Int32) + (hI (uI h 130 (Int32.toNatClampNeg ((64 : Int32) + (hI h 107 25))) x1) 107 25))) x2) 107 25))) x3) 134 (Int32.toNatClampNeg (hI (uI (uI (uI h 130 (Int32.toNatClampNeg ((64 : Int32) + (hI h 107 25))) x1) 131 (Int32.toNatClampNeg ((64 : Int32) + (hI (uI h 130 (Int32.toNatClampNeg ((64 : Int32) + (hI h 107 25))) x1) 107 25))) x2) 132 (Int32.toNatClampNeg ((64 : Int32) + (hI (uI (uI h 130 (Int32.toNatClampNeg ((64 : Int32) + (hI h 107 25))) x1) 131 (Int32.toNatClampNeg ((64 : Int32) + (hI (uI h 130 (Int32.toNatClampNeg ((64 : Int32) + (hI h 107 25))) x1) 107 25))) x2) 107 25))) x3) 107 52)) (hI (uI (uI (uI h 130 (Int32.toNatClampNeg ((64 : Int32) + (hI h 107 25))) x1) 131 (Int32.toNatClampNeg ((64 : Int32) + (hI (uI h 130 (Int32.toNatClampNeg ((64 : Int32) + (hI h 107 25))) x1) 107 25))) x2) 132 (Int32.toNatClampNeg ((64 : Int32) + (hI (uI (uI h 130 (Int32.toNatClampNeg ((64 : Int32) + (hI h 107 25))) x1) 131 (Int32.toNatClampNeg ((64 : Int32) + (hI (uI h 130 (Int32.toNatClampNeg ((64 : Int32) + (hI h 107 25))) x1) 107 25))) x2) 107 25))) x3) 107 25)) 107 52) + (1 : Int32))) 107 25 ((hI (uI (uI (uI (uI (uI h 130 (Int32.toNatClampNeg ((64 : Int32) + (hI h 107 25))) x1) 131 (Int32.toNatClampNeg ((64 : Int32) + (hI (uI h 130 (Int32.toNatClampNeg ((64 : Int32) + (hI h 107 25))) x1) 107 25))) x2) 132 (Int32.toNatClampNeg ((64 : Int32) + (hI (uI (uI h 130 (Int32.toNatClampNeg ((64 : Int32) + (hI h 107 25))) x1) 131 (Int32.toNatClampNeg ((64 : Int32) + (hI (uI h 130 (Int32.toNatClampNeg ((64 : Int32) + (hI h 107 25))) x1) 107 25))) x2) 107 25))) x3) 134 (Int32.toNatClampNeg (hI (uI (uI (uI h 130 (Int32.toNatClampNeg ((64 : Int32) + (hI h 107 25))) x1) 131 (Int32.toNatClampNeg ((64 : Int32) + (hI (uI h 130 (Int32.toNatClampNeg ((64 : Int32) + (hI h 107 25))) x1) 107 25))) x2) 132 (Int32.toNatClampNeg ((64 : Int32) + (hI (uI (uI h 130 (Int32.toNatClampNeg ((64 : Int32) + (hI h 107 25))) x1) 131 (Int32.toNatClampNeg ((64 : Int32) + (hI (uI h 130 (Int32.toNatClampNeg ((64 : Int32) + (hI h 107 25))) x1) 107 25))) x2) 107 25))) x3) 107 52)) (hI (uI (uI (uI h 130 (Int32.toNatClampNeg ((64 : Int32) + (hI h 107 25))) x1) 131 (Int32.toNatClampNeg ((64 : Int32) + (hI (uI h 130 (Int32.toNatClampNeg ((64 : Int32) + (hI h 107 25))) x1) 107 25))) x2) 132 (Int32.toNatClampNeg ((64 : Int32) + (hI (uI (uI h 130 (Int32.toNatClampNeg ((64 : Int32) + (hI h 107 25))) x1) 131 (Int32.toNatClampNeg ((64 : Int32) + (hI (uI h 130 (Int32.toNatClampNeg ((64 : Int32) + (hI h 107 25))) x1) 107 25))) x2) 107 25))) x3) 107 25)) 107 52 ((hI (uI (uI (uI (uI h 130 (Int32.toNatClampNeg ((64 : Int32) + (hI h 107 25))) x1) 131 (Int32.toNatClampNeg ((64 : Int32) + (hI (uI h 130 (Int32.toNatClampNeg ((64 : Int32) + (hI h 107 25))) x1) 107 25))) x2) 132 (Int32.toNatClampNeg ((64 : Int32) + (hI (uI (uI h 130 (Int32.toNatClampNeg ((64 : Int32) + (hI h 107 25))) x1) 131 (Int32.toNatClampNeg ((64 : Int32) + (hI (uI h 130 (Int32.toNatClampNeg ((64 : Int32) + (hI h 107 25))) x1) 107 25))) x2) 107 25))) x3) 134 (Int32.toNatClampNeg (hI (uI (uI (uI h 130 (Int32.toNatClampNeg ((64 : Int32) + (hI h 107 25))) x1) 131 (Int32.toNatClampNeg ((64 : Int32) + (hI (uI h 130 (Int32.toNatClampNeg ((64 : Int32) + (hI h 107 25))) x1) 107 25))) x2) 132 (Int32.toNatClampNeg ((64 : Int32) + (hI (uI (uI h 130 (Int32.toNatClampNeg ((64 : Int32) + (hI h 107 25))) x1) 131 (Int32.toNatClampNeg ((64 : Int32) + (hI (uI h 130 (Int32.toNatClampNeg ((64 : Int32) + (hI h 107 25))) x1) 107 25))) x2) 107 25))) x3) 107 52)) (hI (uI (uI (uI h 130 (Int32.toNatClampNeg ((64 : Int32) + (hI h 107 25))) x1) 131 (Int32.toNatClampNeg ((64 : Int32) + (hI (uI h 130 (Int32.toNatClampNeg ((64 : Int32) + (hI h 107 25))) x1) 107 25))) x2) 132 (Int32.toNatClampNeg ((64 : Int32) + (hI (uI (uI h 130 (Int32.toNatClampNeg ((64 : Int32) + (hI h 107 25))) x1) 131 (Int32.toNatClampNeg ((64 : Int32) + (hI (uI h 130 (Int32.toNatClampNeg ((64 : Int32) + (hI h 107 25))) x1) 107 25))) x2) 107 25))) x3) 107 25)) 107 52) + (1 : Int32))) 107 25) + (1 : Int32)))) else none) else none) else none) else none
set_option maxRecDepth 100000 in
set_option maxHeartbeats 4000000 in
theorem c_X10_grown {l : Launch} {sb : State} {D : va_G} {ids : Nat → ClassId} {n : Nat} (hN : 152 ≤ n) (h : Hp) (x1 : Int32) (x2 : Int32) (x3 : Int32) (r : Hp) (hr : fX10_grown h x1 x2 x3 = some r) : jM l yX10_grown cX10_grown 4 none 0 sb D ids shp St n [.ref 107, .int x1, .int x2, .int x3] h (jQv sb D ids shp St n r) := by
  refine jM_of hr rfl (Nat.le_of_ble_eq_true rfl) ?_
  intro p e s m args below meth c hC hret
  unfold fX10_grown
  refine j_aload_n hC 0 rfl rfl (dOk_at dt_X10_grown 0 rfl) ?_
  refine j_getR hC flX10_81 (show shp 107 = (10, 88) from rfl) (Nat.lt_of_lt_of_le (Nat.le_of_ble_eq_true rfl : 107 < 152) hN) (by decide) (by decide) (fun _ _ _ => rfl) (fun hs => hs 107 46 130 rfl) (dOk_at dt_X10_grown 1 rfl) ?_
  refine j_bipush hC (v := (64 : Int32)) rfl (dOk_at dt_X10_grown 2 rfl) ?_
  refine j_aload_n hC 0 rfl rfl (dOk_at dt_X10_grown 3 rfl) ?_
  refine j_getI hC flX10_237 (show shp 107 = (10, 88) from rfl) (Nat.lt_of_lt_of_le (Nat.le_of_ble_eq_true rfl : 107 < 152) hN) (by decide) (by decide) (fun _ _ _ => rfl) (dOk_at dt_X10_grown 4 rfl) ?_
  refine j_iadd hC (dOk_at dt_X10_grown 5 rfl) ?_
  refine j_iload_n hC 1 rfl rfl (dOk_at dt_X10_grown 6 rfl) ?_
  refine j_iast hC St_SP (show shp 130 = (21, 128) from rfl) (Nat.lt_of_lt_of_le (Nat.le_of_ble_eq_true rfl : 130 < 152) hN) (dOk_at dt_X10_grown 7 rfl) ?_
  refine j_aload_n hC 0 rfl rfl (dOk_at dt_X10_grown 8 rfl) ?_
  refine j_getR hC flX10_84 (show shp 107 = (10, 88) from rfl) (Nat.lt_of_lt_of_le (Nat.le_of_ble_eq_true rfl : 107 < 152) hN) (by decide) (by decide) (fun _ _ _ => rfl) (fun hs => hs 107 47 131 rfl) (dOk_at dt_X10_grown 9 rfl) ?_
  refine j_bipush hC (v := (64 : Int32)) rfl (dOk_at dt_X10_grown 10 rfl) ?_
  refine j_aload_n hC 0 rfl rfl (dOk_at dt_X10_grown 11 rfl) ?_
  refine j_getI hC flX10_237 (show shp 107 = (10, 88) from rfl) (Nat.lt_of_lt_of_le (Nat.le_of_ble_eq_true rfl : 107 < 152) hN) (by decide) (by decide) (fun _ _ _ => rfl) (dOk_at dt_X10_grown 12 rfl) ?_
  refine j_iadd hC (dOk_at dt_X10_grown 13 rfl) ?_
  refine j_iload_n hC 2 rfl rfl (dOk_at dt_X10_grown 14 rfl) ?_
  refine j_iast hC St_SP (show shp 131 = (21, 128) from rfl) (Nat.lt_of_lt_of_le (Nat.le_of_ble_eq_true rfl : 131 < 152) hN) (dOk_at dt_X10_grown 15 rfl) ?_
  refine j_aload_n hC 0 rfl rfl (dOk_at dt_X10_grown 16 rfl) ?_
  refine j_getR hC flX10_87 (show shp 107 = (10, 88) from rfl) (Nat.lt_of_lt_of_le (Nat.le_of_ble_eq_true rfl : 107 < 152) hN) (by decide) (by decide) (fun _ _ _ => rfl) (fun hs => hs 107 48 132 rfl) (dOk_at dt_X10_grown 17 rfl) ?_
  refine j_bipush hC (v := (64 : Int32)) rfl (dOk_at dt_X10_grown 18 rfl) ?_
  refine j_aload_n hC 0 rfl rfl (dOk_at dt_X10_grown 19 rfl) ?_
  refine j_getI hC flX10_237 (show shp 107 = (10, 88) from rfl) (Nat.lt_of_lt_of_le (Nat.le_of_ble_eq_true rfl : 107 < 152) hN) (by decide) (by decide) (fun _ _ _ => rfl) (dOk_at dt_X10_grown 20 rfl) ?_
  refine j_iadd hC (dOk_at dt_X10_grown 21 rfl) ?_
  refine j_iload_n hC 3 rfl rfl (dOk_at dt_X10_grown 22 rfl) ?_
  refine j_iast hC St_SP (show shp 132 = (21, 128) from rfl) (Nat.lt_of_lt_of_le (Nat.le_of_ble_eq_true rfl : 132 < 152) hN) (dOk_at dt_X10_grown 23 rfl) ?_
  refine j_aload_n hC 0 rfl rfl (dOk_at dt_X10_grown 24 rfl) ?_
  refine j_getR hC flX10_93 (show shp 107 = (10, 88) from rfl) (Nat.lt_of_lt_of_le (Nat.le_of_ble_eq_true rfl : 107 < 152) hN) (by decide) (by decide) (fun _ _ _ => rfl) (fun hs => hs 107 50 134 rfl) (dOk_at dt_X10_grown 25 rfl) ?_
  refine j_aload_n hC 0 rfl rfl (dOk_at dt_X10_grown 26 rfl) ?_
  refine j_getI hC flX10_316 (show shp 107 = (10, 88) from rfl) (Nat.lt_of_lt_of_le (Nat.le_of_ble_eq_true rfl : 107 < 152) hN) (by decide) (by decide) (fun _ _ _ => rfl) (dOk_at dt_X10_grown 27 rfl) ?_
  refine j_aload_n hC 0 rfl rfl (dOk_at dt_X10_grown 28 rfl) ?_
  refine j_getI hC flX10_237 (show shp 107 = (10, 88) from rfl) (Nat.lt_of_lt_of_le (Nat.le_of_ble_eq_true rfl : 107 < 152) hN) (by decide) (by decide) (fun _ _ _ => rfl) (dOk_at dt_X10_grown 29 rfl) ?_
  refine j_iast hC St_SP (show shp 134 = (21, 96) from rfl) (Nat.lt_of_lt_of_le (Nat.le_of_ble_eq_true rfl : 134 < 152) hN) (dOk_at dt_X10_grown 30 rfl) ?_
  refine j_aload_n hC 0 rfl rfl (dOk_at dt_X10_grown 31 rfl) ?_
  refine j_dupr hC (dOk_at dt_X10_grown 32 rfl) ?_
  refine j_getI hC flX10_316 (show shp 107 = (10, 88) from rfl) (Nat.lt_of_lt_of_le (Nat.le_of_ble_eq_true rfl : 107 < 152) hN) (by decide) (by decide) (fun _ _ _ => rfl) (dOk_at dt_X10_grown 33 rfl) ?_
  refine j_iconst hC (v := (1 : Int32)) rfl (dOk_at dt_X10_grown 34 rfl) ?_
  refine j_iadd hC (dOk_at dt_X10_grown 35 rfl) ?_
  refine j_putI hC St_SP flX10_316 (show shp 107 = (10, 88) from rfl) (Nat.lt_of_lt_of_le (Nat.le_of_ble_eq_true rfl : 107 < 152) hN) (by decide) (by decide) rfl rfl (dOk_at dt_X10_grown 36 rfl) ?_
  refine j_aload_n hC 0 rfl rfl (dOk_at dt_X10_grown 37 rfl) ?_
  refine j_dupr hC (dOk_at dt_X10_grown 38 rfl) ?_
  refine j_getI hC flX10_237 (show shp 107 = (10, 88) from rfl) (Nat.lt_of_lt_of_le (Nat.le_of_ble_eq_true rfl : 107 < 152) hN) (by decide) (by decide) (fun _ _ _ => rfl) (dOk_at dt_X10_grown 39 rfl) ?_
  refine j_iconst hC (v := (1 : Int32)) rfl (dOk_at dt_X10_grown 40 rfl) ?_
  refine j_iadd hC (dOk_at dt_X10_grown 41 rfl) ?_
  refine j_putI hC St_SP flX10_237 (show shp 107 = (10, 88) from rfl) (Nat.lt_of_lt_of_le (Nat.le_of_ble_eq_true rfl : 107 < 152) hN) (by decide) (by decide) rfl rfl (dOk_at dt_X10_grown 42 rfl) ?_
  exact j_vret hC hret (dOk_at dt_X10_grown 43 rfl)
def tb_X10_leafRead : List (Nat × Instr × Nat) := [(0, .aload_n 0, 1), (1, .bipush 40, 2), (3, .invokevirtual 212, 3), (6, .ifCond .eq 44, 3), (9, .aload_n 0, 1), (10, .getfield 334, 3), (13, .bipush 8, 2), (15, .if_icmp .ne 9, 3), (18, .aload_n 0, 1), (19, .iconst 2, 1), (20, .invokevirtual 199, 3), (23, .ireturn, 1), (24, .aload_n 0, 1), (25, .dup, 1), (26, .getfield 334, 3), (29, .iconst 1, 1), (30, .iadd, 1), (31, .putfield 334, 3), (34, .aload_n 0, 1), (35, .iconst 0, 1), (36, .invokevirtual 337, 3), (39, .aload_n 0, 1), (40, .iconst 1, 1), (41, .putfield 341, 3), (44, .aload_n 0, 1), (45, .invokevirtual 209, 3), (48, .iconst 1, 1), (49, .ireturn, 1), (50, .aload_n 0, 1), (51, .bipush 15, 2), (53, .invokevirtual 345, 3), (56, .ifCond .eq 30, 3), (59, .aload_n 0, 1), (60, .getfield 341, 3), (63, .ifCond .eq 23, 3), (66, .aload_n 0, 1), (67, .invokevirtual 348, 3), (70, .ifCond .ne 5, 3), (73, .iconst 0, 1), (74, .ireturn, 1), (75, .aload_n 0, 1), (76, .iconst 2, 1), (77, .invokevirtual 337, 3), (80, .aload_n 0, 1), (81, .invokevirtual 209, 3), (84, .iconst 1, 1), (85, .ireturn, 1), (86, .aload_n 0, 1), (87, .invokevirtual 351, 3), (90, .istore_n 1, 1), (91, .iload_n 1, 1), (92, .ifCond .ge 17, 3), (95, .aload_n 0, 1), (96, .getfield 175, 3), (99, .iconst 3, 1), (100, .if_icmp .eq 9, 3), (103, .aload_n 0, 1), (104, .iconst 1, 1), (105, .invokevirtual 199, 3), (108, .ireturn, 1), (109, .iload_n 1, 1), (110, .ifCond .ge 19, 3), (113, .aload_n 0, 1), (114, .getfield 186, 3), (117, .sipush 9999, 3), (120, .if_icmp .le 9, 3), (123, .aload_n 0, 1), (124, .iconst 2, 1), (125, .invokevirtual 199, 3), (128, .ireturn, 1), (129, .aload_n 0, 1), (130, .invokevirtual 348, 3), (133, .ifCond .ne 5, 3), (136, .iconst 0, 1), (137, .ireturn, 1), (138, .aload_n 0, 1), (139, .iload_n 1, 1), (140, .ifCond .lt 7, 3), (143, .iconst 1, 1), (144, .goto 4, 3), (147, .iconst 0, 1), (148, .iload_n 1, 1), (149, .ifCond .lt 7, 3), (152, .iload_n 1, 1), (153, .goto 7, 3), (156, .aload_n 0, 1), (157, .getfield 186, 3), (160, .iconst 0, 1), (161, .invokevirtual 330, 3), (164, .aload_n 0, 1), (165, .iconst 0, 1), (166, .putfield 354, 3), (169, .aload_n 0, 1), (170, .invokevirtual 209, 3), (173, .iconst 1, 1), (174, .ireturn, 1)]
theorem dt_X10_leafRead : dOk cX10_leafRead tb_X10_leafRead = true := by decide +kernel
def fX10_leafRead_160 (h : Hp) (s1 : Int32) (s2 : Int32) : Option (Int32 × Hp) := (fX10_grown h s1 s2 (0 : Int32)).bind (fun h_38 => (fX10_token (uI h_38 107 55 (0 : Int32))).bind (fun h_40 => some ((1 : Int32), h_40)))
def fX10_leafRead_148 (h : Hp) (x1 : Int32) (s1 : Int32) : Option (Int32 × Hp) := if x1 < 0 then (fX10_leafRead_160 h s1 (hI h 107 9)) else (fX10_leafRead_160 h s1 x1)
def fX10_leafRead_129 (h : Hp) (x1 : Int32) : Option (Int32 × Hp) := bnd (fX10_isCounted h) (fun v_32 h_33 => if v_32 = 0 then (some ((0 : Int32), h_33)) else (if x1 < 0 then (fX10_leafRead_148 h_33 x1 (0 : Int32)) else (fX10_leafRead_148 h_33 x1 (1 : Int32))))
def fX10_leafRead_109 (h : Hp) (x1 : Int32) : Option (Int32 × Hp) := if 0 ≤ x1 then (fX10_leafRead_129 h x1) else (if (hI h 107 9) ≤ (9999 : Int32) then (fX10_leafRead_129 h x1) else (bnd (fX10_wrong h (2 : Int32)) (fun v_30 h_31 => if isZ v_30 then some (v_30, h_31) else none)))
def fX10_leafRead_86 (h : Hp) : Option (Int32 × Hp) := bnd (fX10_nameMet h) (fun v_22 h_23 => if 0 ≤ v_22 then (fX10_leafRead_109 h_23 v_22) else (if (hI h_23 107 8) = (3 : Int32) then (fX10_leafRead_109 h_23 v_22) else (bnd (fX10_wrong h_23 (1 : Int32)) (fun v_26 h_27 => if isZ v_26 then some (v_26, h_27) else none))))
def fX10_leafRead (h : Hp) : Option (Int32 × Hp) := bnd (fX10_isSign h (40 : Int32)) (fun v_1 h_2 => if v_1 = 0 then (bnd (fX10_isKey h_2 (15 : Int32)) (fun v_4 h_5 => if v_4 = 0 then (fX10_leafRead_86 h_5) else (if (hI h_5 107 56) = 0 then (fX10_leafRead_86 h_5) else (bnd (fX10_isCounted h_5) (fun v_8 h_9 => if v_8 = 0 then (some ((0 : Int32), h_9)) else ((fX10_waitsFor h_9 (2 : Int32)).bind (fun h_12 => (fX10_token h_12).bind (fun h_14 => some ((1 : Int32), h_14))))))))) else (if (hI h_2 107 53) = (8 : Int32) then (bnd (fX10_wrong h_2 (2 : Int32)) (fun v_20 h_21 => if isZ v_20 then some (v_20, h_21) else none)) else ((fX10_waitsFor (uI h_2 107 53 ((hI h_2 107 53) + (1 : Int32))) (0 : Int32)).bind (fun h_17 => (fX10_token (uI h_17 107 56 (1 : Int32))).bind (fun h_19 => some ((1 : Int32), h_19))))))
set_option maxRecDepth 100000 in
set_option maxHeartbeats 4000000 in
theorem c_X10_leafRead {l : Launch} {sb : State} {D : va_G} {ids : Nat → ClassId} {n : Nat} (hN : 152 ≤ n) (h : Hp) (r : Int32 × Hp) (hr : fX10_leafRead h = some r) : jM l yX10_leafRead cX10_leafRead 2 (some .boolean) 2 sb D ids shp St n [.ref 107] h (jQi sb D ids shp St n r) := by
  refine jM_of hr rfl (Nat.le_of_ble_eq_true rfl) ?_
  intro p e s m args below meth c hC hret
  have b160 : ∀ (h : Hp) (s1 : Int32) (s2 : Int32) , jJ p l e (rmD 2) s m args below meth c 2 sb D ids shp St (fun r => MQ below (jQi sb D ids shp St n r) args s 0 0 (jA sb)) n 0 0 h 160 [(0, .ref 107)] [.int s2, .int s1, .ref 107] (fX10_leafRead_160 h s1 s2) := by
    intro h s1 s2 
    unfold fX10_leafRead_160
    refine j_iconst hC (v := (0 : Int32)) rfl (dOk_at dt_X10_leafRead 87 rfl) ?_
    refine j_callVv hC clX10_330 (fun rz hrz => c_X10_grown hN _ _ _ _ rz hrz) (show shp 107 = (10, 88) from rfl) (Nat.lt_of_lt_of_le (Nat.le_of_ble_eq_true rfl : 107 < 152) hN) (by decide) rfl rfl ⟨Nat.le_of_ble_eq_true rfl, Nat.le_of_ble_eq_true rfl⟩ ⟨Nat.le_refl 0, Nat.le_refl 0⟩ (As := [.int s1, .int s2, .int (0 : Int32)]) (st := []) rfl (Nat.le_of_ble_eq_true rfl) (dOk_at dt_X10_leafRead 88 rfl) (fun h_38 _ => ?_)
    refine j_aload_n hC 0 rfl rfl (dOk_at dt_X10_leafRead 89 rfl) ?_
    refine j_iconst hC (v := (0 : Int32)) rfl (dOk_at dt_X10_leafRead 90 rfl) ?_
    refine j_putZ hC St_SP flX10_354 (show shp 107 = (10, 88) from rfl) (Nat.lt_of_lt_of_le (Nat.le_of_ble_eq_true rfl : 107 < 152) hN) (by decide) (by decide) rfl rfl rfl (dOk_at dt_X10_leafRead 91 rfl) ?_
    refine j_aload_n hC 0 rfl rfl (dOk_at dt_X10_leafRead 92 rfl) ?_
    refine j_callVv hC clX10_209 (fun rz hrz => c_X10_token hN _ rz hrz) (show shp 107 = (10, 88) from rfl) (Nat.lt_of_lt_of_le (Nat.le_of_ble_eq_true rfl : 107 < 152) hN) (by decide) rfl rfl ⟨Nat.le_of_ble_eq_true rfl, Nat.le_of_ble_eq_true rfl⟩ ⟨Nat.le_refl 0, Nat.le_refl 0⟩ (As := []) (st := []) rfl (Nat.le_of_ble_eq_true rfl) (dOk_at dt_X10_leafRead 93 rfl) (fun h_40 _ => ?_)
    refine j_iconst hC (v := (1 : Int32)) rfl (dOk_at dt_X10_leafRead 94 rfl) ?_
    exact j_zretK hC hret rfl (dOk_at dt_X10_leafRead 95 rfl)
  have b148 : ∀ (h : Hp) (x1 : Int32) (s1 : Int32) , jJ p l e (rmD 2) s m args below meth c 2 sb D ids shp St (fun r => MQ below (jQi sb D ids shp St n r) args s 0 0 (jA sb)) n 0 0 h 148 [(0, .ref 107), (1, .int x1)] [.int s1, .ref 107] (fX10_leafRead_148 h x1 s1) := by
    intro h x1 s1 
    unfold fX10_leafRead_148
    refine j_iload_n hC 1 rfl rfl (dOk_at dt_X10_leafRead 81 rfl) ?_
    refine j_if_lt hC (tgt := 156) (by decide) (dOk_at dt_X10_leafRead 82 rfl) (fun q_36 => ?_) (fun q_36 => ?_)
    · refine j_aload_n hC 0 rfl rfl (dOk_at dt_X10_leafRead 85 rfl) ?_
      refine j_getI hC flX10_186 (show shp 107 = (10, 88) from rfl) (Nat.lt_of_lt_of_le (Nat.le_of_ble_eq_true rfl : 107 < 152) hN) (by decide) (by decide) (fun _ _ _ => rfl) (dOk_at dt_X10_leafRead 86 rfl) ?_
      refine j_sub [0] rfl ?_
      exact b160 h s1 (hI h 107 9) 
    · refine j_iload_n hC 1 rfl rfl (dOk_at dt_X10_leafRead 83 rfl) ?_
      refine j_goto hC (tgt := 160) (by decide) (dOk_at dt_X10_leafRead 84 rfl) ?_
      refine j_sub [0] rfl ?_
      exact b160 h s1 x1 
  have b129 : ∀ (h : Hp) (x1 : Int32) , jJ p l e (rmD 2) s m args below meth c 2 sb D ids shp St (fun r => MQ below (jQi sb D ids shp St n r) args s 0 0 (jA sb)) n 0 0 h 129 [(0, .ref 107), (1, .int x1)] [] (fX10_leafRead_129 h x1) := by
    intro h x1 
    unfold fX10_leafRead_129
    refine j_aload_n hC 0 rfl rfl (dOk_at dt_X10_leafRead 70 rfl) ?_
    refine j_callVi hC clX10_348 (fun rz hrz => c_X10_isCounted hN _ rz hrz) (show shp 107 = (10, 88) from rfl) (Nat.lt_of_lt_of_le (Nat.le_of_ble_eq_true rfl : 107 < 152) hN) (by decide) rfl rfl ⟨Nat.le_of_ble_eq_true rfl, Nat.le_of_ble_eq_true rfl⟩ ⟨Nat.le_refl 0, Nat.le_refl 0⟩ (As := []) (st := []) rfl (Nat.le_of_ble_eq_true rfl) (dOk_at dt_X10_leafRead 71 rfl) (fun v_32 h_33 _ => ?_)
    refine j_if_ne hC (tgt := 138) (by decide) (dOk_at dt_X10_leafRead 72 rfl) (fun q_34 => ?_) (fun q_34 => ?_)
    · refine j_aload_n hC 0 rfl rfl (dOk_at dt_X10_leafRead 75 rfl) ?_
      refine j_iload_n hC 1 rfl rfl (dOk_at dt_X10_leafRead 76 rfl) ?_
      refine j_if_lt hC (tgt := 147) (by decide) (dOk_at dt_X10_leafRead 77 rfl) (fun q_35 => ?_) (fun q_35 => ?_)
      · refine j_iconst hC (v := (0 : Int32)) rfl (dOk_at dt_X10_leafRead 80 rfl) ?_
        exact b148 h_33 x1 (0 : Int32) 
      · refine j_iconst hC (v := (1 : Int32)) rfl (dOk_at dt_X10_leafRead 78 rfl) ?_
        refine j_goto hC (tgt := 148) (by decide) (dOk_at dt_X10_leafRead 79 rfl) ?_
        exact b148 h_33 x1 (1 : Int32) 
    · refine j_iconst hC (v := (0 : Int32)) rfl (dOk_at dt_X10_leafRead 73 rfl) ?_
      exact j_zretK hC hret rfl (dOk_at dt_X10_leafRead 74 rfl)
  have b109 : ∀ (h : Hp) (x1 : Int32) , jJ p l e (rmD 2) s m args below meth c 2 sb D ids shp St (fun r => MQ below (jQi sb D ids shp St n r) args s 0 0 (jA sb)) n 0 0 h 109 [(0, .ref 107), (1, .int x1)] [] (fX10_leafRead_109 h x1) := by
    intro h x1 
    unfold fX10_leafRead_109
    refine j_iload_n hC 1 rfl rfl (dOk_at dt_X10_leafRead 60 rfl) ?_
    refine j_if_ge hC (tgt := 129) (by decide) (dOk_at dt_X10_leafRead 61 rfl) (fun q_28 => ?_) (fun q_28 => ?_)
    · exact b129 h x1 
    · refine j_aload_n hC 0 rfl rfl (dOk_at dt_X10_leafRead 62 rfl) ?_
      refine j_getI hC flX10_186 (show shp 107 = (10, 88) from rfl) (Nat.lt_of_lt_of_le (Nat.le_of_ble_eq_true rfl : 107 < 152) hN) (by decide) (by decide) (fun _ _ _ => rfl) (dOk_at dt_X10_leafRead 63 rfl) ?_
      refine j_sipush hC (v := (9999 : Int32)) rfl (dOk_at dt_X10_leafRead 64 rfl) ?_
      refine j_icmp_le hC (tgt := 129) (by decide) (dOk_at dt_X10_leafRead 65 rfl) (fun q_29 => ?_) (fun q_29 => ?_)
      · exact b129 h x1 
      · refine j_aload_n hC 0 rfl rfl (dOk_at dt_X10_leafRead 66 rfl) ?_
        refine j_iconst hC (v := (2 : Int32)) rfl (dOk_at dt_X10_leafRead 67 rfl) ?_
        refine j_callVi hC clX10_199 (fun rz hrz => c_X10_wrong hN _ _ rz hrz) (show shp 107 = (10, 88) from rfl) (Nat.lt_of_lt_of_le (Nat.le_of_ble_eq_true rfl : 107 < 152) hN) (by decide) rfl rfl ⟨Nat.le_of_ble_eq_true rfl, Nat.le_of_ble_eq_true rfl⟩ ⟨Nat.le_refl 0, Nat.le_refl 0⟩ (As := [.int (2 : Int32)]) (st := []) rfl (Nat.le_of_ble_eq_true rfl) (dOk_at dt_X10_leafRead 68 rfl) (fun v_30 h_31 _ => ?_)
        exact j_zret hC hret (dOk_at dt_X10_leafRead 69 rfl)
  have b86 : ∀ (h : Hp) , jJ p l e (rmD 2) s m args below meth c 2 sb D ids shp St (fun r => MQ below (jQi sb D ids shp St n r) args s 0 0 (jA sb)) n 0 0 h 86 [(0, .ref 107)] [] (fX10_leafRead_86 h ) := by
    intro h 
    unfold fX10_leafRead_86
    refine j_aload_n hC 0 rfl rfl (dOk_at dt_X10_leafRead 47 rfl) ?_
    refine j_callVi hC clX10_351 (fun rz hrz => c_X10_nameMet hN _ rz hrz) (show shp 107 = (10, 88) from rfl) (Nat.lt_of_lt_of_le (Nat.le_of_ble_eq_true rfl : 107 < 152) hN) (by decide) rfl rfl ⟨Nat.le_of_ble_eq_true rfl, Nat.le_of_ble_eq_true rfl⟩ ⟨Nat.le_refl 0, Nat.le_refl 0⟩ (As := []) (st := []) rfl (Nat.le_of_ble_eq_true rfl) (dOk_at dt_X10_leafRead 48 rfl) (fun v_22 h_23 _ => ?_)
    refine j_istore_n hC rfl (lv' := [(1, .int v_22), (0, .ref 107)]) (by decide) rfl (dOk_at dt_X10_leafRead 49 rfl) ?_
    refine j_iload_n hC 0 rfl rfl (dOk_at dt_X10_leafRead 50 rfl) ?_
    refine j_if_ge hC (tgt := 109) (by decide) (dOk_at dt_X10_leafRead 51 rfl) (fun q_24 => ?_) (fun q_24 => ?_)
    · refine j_sub [1, 0] rfl ?_
      exact b109 h_23 v_22 
    · refine j_aload_n hC 1 rfl rfl (dOk_at dt_X10_leafRead 52 rfl) ?_
      refine j_getI hC flX10_175 (show shp 107 = (10, 88) from rfl) (Nat.lt_of_lt_of_le (Nat.le_of_ble_eq_true rfl : 107 < 152) hN) (by decide) (by decide) (fun _ _ _ => rfl) (dOk_at dt_X10_leafRead 53 rfl) ?_
      refine j_iconst hC (v := (3 : Int32)) rfl (dOk_at dt_X10_leafRead 54 rfl) ?_
      refine j_icmp_eq hC (tgt := 109) (by decide) (dOk_at dt_X10_leafRead 55 rfl) (fun q_25 => ?_) (fun q_25 => ?_)
      · refine j_sub [1, 0] rfl ?_
        exact b109 h_23 v_22 
      · refine j_aload_n hC 1 rfl rfl (dOk_at dt_X10_leafRead 56 rfl) ?_
        refine j_iconst hC (v := (1 : Int32)) rfl (dOk_at dt_X10_leafRead 57 rfl) ?_
        refine j_callVi hC clX10_199 (fun rz hrz => c_X10_wrong hN _ _ rz hrz) (show shp 107 = (10, 88) from rfl) (Nat.lt_of_lt_of_le (Nat.le_of_ble_eq_true rfl : 107 < 152) hN) (by decide) rfl rfl ⟨Nat.le_of_ble_eq_true rfl, Nat.le_of_ble_eq_true rfl⟩ ⟨Nat.le_refl 0, Nat.le_refl 0⟩ (As := [.int (1 : Int32)]) (st := []) rfl (Nat.le_of_ble_eq_true rfl) (dOk_at dt_X10_leafRead 58 rfl) (fun v_26 h_27 _ => ?_)
        exact j_zret hC hret (dOk_at dt_X10_leafRead 59 rfl)
  unfold fX10_leafRead
  refine j_aload_n hC 0 rfl rfl (dOk_at dt_X10_leafRead 0 rfl) ?_
  refine j_bipush hC (v := (40 : Int32)) rfl (dOk_at dt_X10_leafRead 1 rfl) ?_
  refine j_callVi hC clX10_212 (fun rz hrz => c_X10_isSign hN _ _ rz hrz) (show shp 107 = (10, 88) from rfl) (Nat.lt_of_lt_of_le (Nat.le_of_ble_eq_true rfl : 107 < 152) hN) (by decide) rfl rfl ⟨Nat.le_of_ble_eq_true rfl, Nat.le_of_ble_eq_true rfl⟩ ⟨Nat.le_refl 0, Nat.le_refl 0⟩ (As := [.int (40 : Int32)]) (st := []) rfl (Nat.le_of_ble_eq_true rfl) (dOk_at dt_X10_leafRead 2 rfl) (fun v_1 h_2 _ => ?_)
  refine j_if_eq hC (tgt := 50) (by decide) (dOk_at dt_X10_leafRead 3 rfl) (fun q_3 => ?_) (fun q_3 => ?_)
  · refine j_aload_n hC 0 rfl rfl (dOk_at dt_X10_leafRead 28 rfl) ?_
    refine j_bipush hC (v := (15 : Int32)) rfl (dOk_at dt_X10_leafRead 29 rfl) ?_
    refine j_callVi hC clX10_345 (fun rz hrz => c_X10_isKey hN _ _ rz hrz) (show shp 107 = (10, 88) from rfl) (Nat.lt_of_lt_of_le (Nat.le_of_ble_eq_true rfl : 107 < 152) hN) (by decide) rfl rfl ⟨Nat.le_of_ble_eq_true rfl, Nat.le_of_ble_eq_true rfl⟩ ⟨Nat.le_refl 0, Nat.le_refl 0⟩ (As := [.int (15 : Int32)]) (st := []) rfl (Nat.le_of_ble_eq_true rfl) (dOk_at dt_X10_leafRead 30 rfl) (fun v_4 h_5 _ => ?_)
    refine j_if_eq hC (tgt := 86) (by decide) (dOk_at dt_X10_leafRead 31 rfl) (fun q_6 => ?_) (fun q_6 => ?_)
    · exact b86 h_5 
    · refine j_aload_n hC 0 rfl rfl (dOk_at dt_X10_leafRead 32 rfl) ?_
      refine j_getI hC flX10_341 (show shp 107 = (10, 88) from rfl) (Nat.lt_of_lt_of_le (Nat.le_of_ble_eq_true rfl : 107 < 152) hN) (by decide) (by decide) (fun _ _ _ => rfl) (dOk_at dt_X10_leafRead 33 rfl) ?_
      refine j_if_eq hC (tgt := 86) (by decide) (dOk_at dt_X10_leafRead 34 rfl) (fun q_7 => ?_) (fun q_7 => ?_)
      · exact b86 h_5 
      · refine j_aload_n hC 0 rfl rfl (dOk_at dt_X10_leafRead 35 rfl) ?_
        refine j_callVi hC clX10_348 (fun rz hrz => c_X10_isCounted hN _ rz hrz) (show shp 107 = (10, 88) from rfl) (Nat.lt_of_lt_of_le (Nat.le_of_ble_eq_true rfl : 107 < 152) hN) (by decide) rfl rfl ⟨Nat.le_of_ble_eq_true rfl, Nat.le_of_ble_eq_true rfl⟩ ⟨Nat.le_refl 0, Nat.le_refl 0⟩ (As := []) (st := []) rfl (Nat.le_of_ble_eq_true rfl) (dOk_at dt_X10_leafRead 36 rfl) (fun v_8 h_9 _ => ?_)
        refine j_if_ne hC (tgt := 75) (by decide) (dOk_at dt_X10_leafRead 37 rfl) (fun q_10 => ?_) (fun q_10 => ?_)
        · refine j_aload_n hC 0 rfl rfl (dOk_at dt_X10_leafRead 40 rfl) ?_
          refine j_iconst hC (v := (2 : Int32)) rfl (dOk_at dt_X10_leafRead 41 rfl) ?_
          refine j_callVv hC clX10_337 (fun rz hrz => c_X10_waitsFor hN _ _ rz hrz) (show shp 107 = (10, 88) from rfl) (Nat.lt_of_lt_of_le (Nat.le_of_ble_eq_true rfl : 107 < 152) hN) (by decide) rfl rfl ⟨Nat.le_of_ble_eq_true rfl, Nat.le_of_ble_eq_true rfl⟩ ⟨Nat.le_refl 0, Nat.le_refl 0⟩ (As := [.int (2 : Int32)]) (st := []) rfl (Nat.le_of_ble_eq_true rfl) (dOk_at dt_X10_leafRead 42 rfl) (fun h_12 _ => ?_)
          refine j_aload_n hC 0 rfl rfl (dOk_at dt_X10_leafRead 43 rfl) ?_
          refine j_callVv hC clX10_209 (fun rz hrz => c_X10_token hN _ rz hrz) (show shp 107 = (10, 88) from rfl) (Nat.lt_of_lt_of_le (Nat.le_of_ble_eq_true rfl : 107 < 152) hN) (by decide) rfl rfl ⟨Nat.le_of_ble_eq_true rfl, Nat.le_of_ble_eq_true rfl⟩ ⟨Nat.le_refl 0, Nat.le_refl 0⟩ (As := []) (st := []) rfl (Nat.le_of_ble_eq_true rfl) (dOk_at dt_X10_leafRead 44 rfl) (fun h_14 _ => ?_)
          refine j_iconst hC (v := (1 : Int32)) rfl (dOk_at dt_X10_leafRead 45 rfl) ?_
          exact j_zretK hC hret rfl (dOk_at dt_X10_leafRead 46 rfl)
        · refine j_iconst hC (v := (0 : Int32)) rfl (dOk_at dt_X10_leafRead 38 rfl) ?_
          exact j_zretK hC hret rfl (dOk_at dt_X10_leafRead 39 rfl)
  · refine j_aload_n hC 0 rfl rfl (dOk_at dt_X10_leafRead 4 rfl) ?_
    refine j_getI hC flX10_334 (show shp 107 = (10, 88) from rfl) (Nat.lt_of_lt_of_le (Nat.le_of_ble_eq_true rfl : 107 < 152) hN) (by decide) (by decide) (fun _ _ _ => rfl) (dOk_at dt_X10_leafRead 5 rfl) ?_
    refine j_bipush hC (v := (8 : Int32)) rfl (dOk_at dt_X10_leafRead 6 rfl) ?_
    refine j_icmp_ne hC (tgt := 24) (by decide) (dOk_at dt_X10_leafRead 7 rfl) (fun q_15 => ?_) (fun q_15 => ?_)
    · refine j_aload_n hC 0 rfl rfl (dOk_at dt_X10_leafRead 12 rfl) ?_
      refine j_dupr hC (dOk_at dt_X10_leafRead 13 rfl) ?_
      refine j_getI hC flX10_334 (show shp 107 = (10, 88) from rfl) (Nat.lt_of_lt_of_le (Nat.le_of_ble_eq_true rfl : 107 < 152) hN) (by decide) (by decide) (fun _ _ _ => rfl) (dOk_at dt_X10_leafRead 14 rfl) ?_
      refine j_iconst hC (v := (1 : Int32)) rfl (dOk_at dt_X10_leafRead 15 rfl) ?_
      refine j_iadd hC (dOk_at dt_X10_leafRead 16 rfl) ?_
      refine j_putI hC St_SP flX10_334 (show shp 107 = (10, 88) from rfl) (Nat.lt_of_lt_of_le (Nat.le_of_ble_eq_true rfl : 107 < 152) hN) (by decide) (by decide) rfl rfl (dOk_at dt_X10_leafRead 17 rfl) ?_
      refine j_aload_n hC 0 rfl rfl (dOk_at dt_X10_leafRead 18 rfl) ?_
      refine j_iconst hC (v := (0 : Int32)) rfl (dOk_at dt_X10_leafRead 19 rfl) ?_
      refine j_callVv hC clX10_337 (fun rz hrz => c_X10_waitsFor hN _ _ rz hrz) (show shp 107 = (10, 88) from rfl) (Nat.lt_of_lt_of_le (Nat.le_of_ble_eq_true rfl : 107 < 152) hN) (by decide) rfl rfl ⟨Nat.le_of_ble_eq_true rfl, Nat.le_of_ble_eq_true rfl⟩ ⟨Nat.le_refl 0, Nat.le_refl 0⟩ (As := [.int (0 : Int32)]) (st := []) rfl (Nat.le_of_ble_eq_true rfl) (dOk_at dt_X10_leafRead 20 rfl) (fun h_17 _ => ?_)
      refine j_aload_n hC 0 rfl rfl (dOk_at dt_X10_leafRead 21 rfl) ?_
      refine j_iconst hC (v := (1 : Int32)) rfl (dOk_at dt_X10_leafRead 22 rfl) ?_
      refine j_putZ hC St_SP flX10_341 (show shp 107 = (10, 88) from rfl) (Nat.lt_of_lt_of_le (Nat.le_of_ble_eq_true rfl : 107 < 152) hN) (by decide) (by decide) rfl rfl rfl (dOk_at dt_X10_leafRead 23 rfl) ?_
      refine j_aload_n hC 0 rfl rfl (dOk_at dt_X10_leafRead 24 rfl) ?_
      refine j_callVv hC clX10_209 (fun rz hrz => c_X10_token hN _ rz hrz) (show shp 107 = (10, 88) from rfl) (Nat.lt_of_lt_of_le (Nat.le_of_ble_eq_true rfl : 107 < 152) hN) (by decide) rfl rfl ⟨Nat.le_of_ble_eq_true rfl, Nat.le_of_ble_eq_true rfl⟩ ⟨Nat.le_refl 0, Nat.le_refl 0⟩ (As := []) (st := []) rfl (Nat.le_of_ble_eq_true rfl) (dOk_at dt_X10_leafRead 25 rfl) (fun h_19 _ => ?_)
      refine j_iconst hC (v := (1 : Int32)) rfl (dOk_at dt_X10_leafRead 26 rfl) ?_
      exact j_zretK hC hret rfl (dOk_at dt_X10_leafRead 27 rfl)
    · refine j_aload_n hC 0 rfl rfl (dOk_at dt_X10_leafRead 8 rfl) ?_
      refine j_iconst hC (v := (2 : Int32)) rfl (dOk_at dt_X10_leafRead 9 rfl) ?_
      refine j_callVi hC clX10_199 (fun rz hrz => c_X10_wrong hN _ _ rz hrz) (show shp 107 = (10, 88) from rfl) (Nat.lt_of_lt_of_le (Nat.le_of_ble_eq_true rfl : 107 < 152) hN) (by decide) rfl rfl ⟨Nat.le_of_ble_eq_true rfl, Nat.le_of_ble_eq_true rfl⟩ ⟨Nat.le_refl 0, Nat.le_refl 0⟩ (As := [.int (2 : Int32)]) (st := []) rfl (Nat.le_of_ble_eq_true rfl) (dOk_at dt_X10_leafRead 10 rfl) (fun v_20 h_21 _ => ?_)
      exact j_zret hC hret (dOk_at dt_X10_leafRead 11 rfl)
def tb_X10_rank : List (Nat × Instr × Nat) := [(0, .iload_n 0, 1), (1, .bipush 13, 2), (3, .if_icmp .lt 8, 3), (6, .bipush 6, 2), (8, .goto 50, 3), (11, .iload_n 0, 1), (12, .bipush 11, 2), (14, .if_icmp .lt 7, 3), (17, .iconst 5, 1), (18, .goto 40, 3), (21, .iload_n 0, 1), (22, .iconst 5, 1), (23, .if_icmp .lt 7, 3), (26, .iconst 4, 1), (27, .goto 31, 3), (30, .iload_n 0, 1), (31, .iconst 2, 1), (32, .if_icmp .ne 7, 3), (35, .iconst 3, 1), (36, .goto 22, 3), (39, .iload_n 0, 1), (40, .iconst 3, 1), (41, .if_icmp .ne 7, 3), (44, .iconst 2, 1), (45, .goto 13, 3), (48, .iload_n 0, 1), (49, .iconst 4, 1), (50, .if_icmp .ne 7, 3), (53, .iconst 1, 1), (54, .goto 4, 3), (57, .iconst 0, 1), (58, .ireturn, 1)]
theorem dt_X10_rank : dOk cX10_rank tb_X10_rank = true := by decide +kernel
def fX10_rank (h : Hp) (x0 : Int32) : Option (Int32 × Hp) := if x0 < (13 : Int32) then (if x0 < (11 : Int32) then (if x0 < (5 : Int32) then (if x0 = (2 : Int32) then (some ((3 : Int32), h)) else (if x0 = (3 : Int32) then (some ((2 : Int32), h)) else (if x0 = (4 : Int32) then (some ((1 : Int32), h)) else (some ((0 : Int32), h))))) else (some ((4 : Int32), h))) else (some ((5 : Int32), h))) else (some ((6 : Int32), h))
set_option maxRecDepth 100000 in
set_option maxHeartbeats 4000000 in
theorem c_X10_rank {l : Launch} {sb : State} {D : va_G} {ids : Nat → ClassId} {n : Nat} (hN : 152 ≤ n) (h : Hp) (x0 : Int32) (r : Int32 × Hp) (hr : fX10_rank h x0 = some r) : jM l yX10_rank cX10_rank 1 (some .int) 0 sb D ids shp St n [.int x0] h (jQi sb D ids shp St n r) := by
  refine jM_of hr rfl (Nat.le_of_ble_eq_true rfl) ?_
  intro p e s m args below meth c hC hret
  unfold fX10_rank
  refine j_iload_n hC 0 rfl rfl (dOk_at dt_X10_rank 0 rfl) ?_
  refine j_bipush hC (v := (13 : Int32)) rfl (dOk_at dt_X10_rank 1 rfl) ?_
  refine j_icmp_lt hC (tgt := 11) (by decide) (dOk_at dt_X10_rank 2 rfl) (fun q_1 => ?_) (fun q_1 => ?_)
  · refine j_iload_n hC 0 rfl rfl (dOk_at dt_X10_rank 5 rfl) ?_
    refine j_bipush hC (v := (11 : Int32)) rfl (dOk_at dt_X10_rank 6 rfl) ?_
    refine j_icmp_lt hC (tgt := 21) (by decide) (dOk_at dt_X10_rank 7 rfl) (fun q_2 => ?_) (fun q_2 => ?_)
    · refine j_iload_n hC 0 rfl rfl (dOk_at dt_X10_rank 10 rfl) ?_
      refine j_iconst hC (v := (5 : Int32)) rfl (dOk_at dt_X10_rank 11 rfl) ?_
      refine j_icmp_lt hC (tgt := 30) (by decide) (dOk_at dt_X10_rank 12 rfl) (fun q_3 => ?_) (fun q_3 => ?_)
      · refine j_iload_n hC 0 rfl rfl (dOk_at dt_X10_rank 15 rfl) ?_
        refine j_iconst hC (v := (2 : Int32)) rfl (dOk_at dt_X10_rank 16 rfl) ?_
        refine j_icmp_ne hC (tgt := 39) (by decide) (dOk_at dt_X10_rank 17 rfl) (fun q_4 => ?_) (fun q_4 => ?_)
        · refine j_iload_n hC 0 rfl rfl (dOk_at dt_X10_rank 20 rfl) ?_
          refine j_iconst hC (v := (3 : Int32)) rfl (dOk_at dt_X10_rank 21 rfl) ?_
          refine j_icmp_ne hC (tgt := 48) (by decide) (dOk_at dt_X10_rank 22 rfl) (fun q_5 => ?_) (fun q_5 => ?_)
          · refine j_iload_n hC 0 rfl rfl (dOk_at dt_X10_rank 25 rfl) ?_
            refine j_iconst hC (v := (4 : Int32)) rfl (dOk_at dt_X10_rank 26 rfl) ?_
            refine j_icmp_ne hC (tgt := 57) (by decide) (dOk_at dt_X10_rank 27 rfl) (fun q_6 => ?_) (fun q_6 => ?_)
            · refine j_iconst hC (v := (0 : Int32)) rfl (dOk_at dt_X10_rank 30 rfl) ?_
              exact j_iret hC hret (dOk_at dt_X10_rank 31 rfl)
            · refine j_iconst hC (v := (1 : Int32)) rfl (dOk_at dt_X10_rank 28 rfl) ?_
              refine j_goto hC (tgt := 58) (by decide) (dOk_at dt_X10_rank 29 rfl) ?_
              exact j_iret hC hret (dOk_at dt_X10_rank 31 rfl)
          · refine j_iconst hC (v := (2 : Int32)) rfl (dOk_at dt_X10_rank 23 rfl) ?_
            refine j_goto hC (tgt := 58) (by decide) (dOk_at dt_X10_rank 24 rfl) ?_
            exact j_iret hC hret (dOk_at dt_X10_rank 31 rfl)
        · refine j_iconst hC (v := (3 : Int32)) rfl (dOk_at dt_X10_rank 18 rfl) ?_
          refine j_goto hC (tgt := 58) (by decide) (dOk_at dt_X10_rank 19 rfl) ?_
          exact j_iret hC hret (dOk_at dt_X10_rank 31 rfl)
      · refine j_iconst hC (v := (4 : Int32)) rfl (dOk_at dt_X10_rank 13 rfl) ?_
        refine j_goto hC (tgt := 58) (by decide) (dOk_at dt_X10_rank 14 rfl) ?_
        exact j_iret hC hret (dOk_at dt_X10_rank 31 rfl)
    · refine j_iconst hC (v := (5 : Int32)) rfl (dOk_at dt_X10_rank 8 rfl) ?_
      refine j_goto hC (tgt := 58) (by decide) (dOk_at dt_X10_rank 9 rfl) ?_
      exact j_iret hC hret (dOk_at dt_X10_rank 31 rfl)
  · refine j_bipush hC (v := (6 : Int32)) rfl (dOk_at dt_X10_rank 3 rfl) ?_
    refine j_goto hC (tgt := 58) (by decide) (dOk_at dt_X10_rank 4 rfl) ?_
    exact j_iret hC hret (dOk_at dt_X10_rank 31 rfl)
def tb_X10_dropHeld : List (Nat × Instr × Nat) := [(0, .aload_n 0, 1), (1, .dup, 1), (2, .getfield 316, 3), (5, .iconst 1, 1), (6, .isub, 1), (7, .putfield 316, 3), (10, .aload_n 0, 1), (11, .getfield 93, 3), (14, .aload_n 0, 1), (15, .getfield 316, 3), (18, .iaload, 1), (19, .ireturn, 1)]
theorem dt_X10_dropHeld : dOk cX10_dropHeld tb_X10_dropHeld = true := by decide +kernel
def fX10_dropHeld (h : Hp) : Option (Int32 × Hp) := if inb (hI (uI h 107 52 ((hI h 107 52) - (1 : Int32))) 107 52) 96 then (some ((hI (uI h 107 52 ((hI h 107 52) - (1 : Int32))) 134 (Int32.toNatClampNeg (hI (uI h 107 52 ((hI h 107 52) - (1 : Int32))) 107 52))), (uI h 107 52 ((hI h 107 52) - (1 : Int32))))) else none
set_option maxRecDepth 100000 in
set_option maxHeartbeats 4000000 in
theorem c_X10_dropHeld {l : Launch} {sb : State} {D : va_G} {ids : Nat → ClassId} {n : Nat} (hN : 152 ≤ n) (h : Hp) (r : Int32 × Hp) (hr : fX10_dropHeld h = some r) : jM l yX10_dropHeld cX10_dropHeld 1 (some .int) 0 sb D ids shp St n [.ref 107] h (jQi sb D ids shp St n r) := by
  refine jM_of hr rfl (Nat.le_of_ble_eq_true rfl) ?_
  intro p e s m args below meth c hC hret
  unfold fX10_dropHeld
  refine j_aload_n hC 0 rfl rfl (dOk_at dt_X10_dropHeld 0 rfl) ?_
  refine j_dupr hC (dOk_at dt_X10_dropHeld 1 rfl) ?_
  refine j_getI hC flX10_316 (show shp 107 = (10, 88) from rfl) (Nat.lt_of_lt_of_le (Nat.le_of_ble_eq_true rfl : 107 < 152) hN) (by decide) (by decide) (fun _ _ _ => rfl) (dOk_at dt_X10_dropHeld 2 rfl) ?_
  refine j_iconst hC (v := (1 : Int32)) rfl (dOk_at dt_X10_dropHeld 3 rfl) ?_
  refine j_isub hC (dOk_at dt_X10_dropHeld 4 rfl) ?_
  refine j_putI hC St_SP flX10_316 (show shp 107 = (10, 88) from rfl) (Nat.lt_of_lt_of_le (Nat.le_of_ble_eq_true rfl : 107 < 152) hN) (by decide) (by decide) rfl rfl (dOk_at dt_X10_dropHeld 5 rfl) ?_
  refine j_aload_n hC 0 rfl rfl (dOk_at dt_X10_dropHeld 6 rfl) ?_
  refine j_getR hC flX10_93 (show shp 107 = (10, 88) from rfl) (Nat.lt_of_lt_of_le (Nat.le_of_ble_eq_true rfl : 107 < 152) hN) (by decide) (by decide) (fun _ _ _ => rfl) (fun hs => hs 107 50 134 rfl) (dOk_at dt_X10_dropHeld 7 rfl) ?_
  refine j_aload_n hC 0 rfl rfl (dOk_at dt_X10_dropHeld 8 rfl) ?_
  refine j_getI hC flX10_316 (show shp 107 = (10, 88) from rfl) (Nat.lt_of_lt_of_le (Nat.le_of_ble_eq_true rfl : 107 < 152) hN) (by decide) (by decide) (fun _ _ _ => rfl) (dOk_at dt_X10_dropHeld 9 rfl) ?_
  refine j_iald hC (show shp 134 = (21, 96) from rfl) (Nat.lt_of_lt_of_le (Nat.le_of_ble_eq_true rfl : 134 < 152) hN) (dOk_at dt_X10_dropHeld 10 rfl) ?_
  exact j_iret hC hret (dOk_at dt_X10_dropHeld 11 rfl)
def tb_X10_bind : List (Nat × Instr × Nat) := [(0, .aload_n 0, 1), (1, .getfield 319, 3), (4, .ifCond .le 72, 3), (7, .aload_n 0, 1), (8, .getfield 90, 3), (11, .aload_n 0, 1), (12, .getfield 319, 3), (15, .iconst 1, 1), (16, .isub, 1), (17, .iaload, 1), (18, .invokestatic 322, 3), (21, .iload_n 1, 1), (22, .if_icmp .lt 54, 3), (25, .aload_n 0, 1), (26, .dup, 1), (27, .getfield 319, 3), (30, .iconst 1, 1), (31, .isub, 1), (32, .putfield 319, 3), (35, .aload_n 0, 1), (36, .getfield 90, 3), (39, .aload_n 0, 1), (40, .getfield 319, 3), (43, .iaload, 1), (44, .istore_n 2, 1), (45, .iload_n 2, 1), (46, .iconst 2, 1), (47, .if_icmp .ne 7, 3), (50, .iconst (-1), 1), (51, .goto 7, 3), (54, .aload_n 0, 1), (55, .invokevirtual 326, 3), (58, .istore_n 3, 1), (59, .aload_n 0, 1), (60, .invokevirtual 326, 3), (63, .istore 4, 2), (65, .aload_n 0, 1), (66, .iload_n 2, 1), (67, .iload 4, 2), (69, .iload_n 3, 1), (70, .invokevirtual 330, 3), (73, .goto (-73), 3), (76, .return_, 1)]
theorem dt_X10_bind : dOk cX10_bind tb_X10_bind = true := by decide +kernel
def fX10_bind_58 (rec0 : Hp → Int32 → Option (Hp)) (h : Hp) (x1 : Int32) (x2 : Int32) (s0 : Int32) : Option (Hp) := bnd (fX10_dropHeld h) (fun v_8 h_9 => (fX10_grown h_9 x2 v_8 s0).bind (fun h_11 => rec0 h_11 x1))
def fX10_bind_0 : Nat → Hp → Int32 → Option (Hp)
  | 0, _, _ => none
  | fu + 1, h, x1 => if (hI h 107 51) ≤ 0 then (some h) else (if inb ((hI h 107 51) - (1 : Int32)) 96 then (bnd (fX10_rank h (hI h 133 (Int32.toNatClampNeg ((hI h 107 51) - (1 : Int32))))) (fun v_2 h_3 => if v_2 < x1 then (some h_3) else (if inb (hI (uI h_3 107 51 ((hI h_3 107 51) - (1 : Int32))) 107 51) 96 then (if (hI (uI h_3 107 51 ((hI h_3 107 51) - (1 : Int32))) 133 (Int32.toNatClampNeg (hI (uI h_3 107 51 ((hI h_3 107 51) - (1 : Int32))) 107 51))) = (2 : Int32) then (fX10_bind_58 (fX10_bind_0 fu) (uI h_3 107 51 ((hI h_3 107 51) - (1 : Int32))) x1 (hI (uI h_3 107 51 ((hI h_3 107 51) - (1 : Int32))) 133 (Int32.toNatClampNeg (hI (uI h_3 107 51 ((hI h_3 107 51) - (1 : Int32))) 107 51))) (-1 : Int32)) else (bnd (fX10_dropHeld (uI h_3 107 51 ((hI h_3 107 51) - (1 : Int32)))) (fun v_6 h_7 => fX10_bind_58 (fX10_bind_0 fu) h_7 x1 (hI (uI h_3 107 51 ((hI h_3 107 51) - (1 : Int32))) 133 (Int32.toNatClampNeg (hI (uI h_3 107 51 ((hI h_3 107 51) - (1 : Int32))) 107 51))) v_6))) else none))) else none)
def fX10_bind (h : Hp) (x1 : Int32) : Option (Hp) := fX10_bind_0 FU h x1
set_option maxRecDepth 100000 in
set_option maxHeartbeats 4000000 in
theorem c_X10_bind {l : Launch} {sb : State} {D : va_G} {ids : Nat → ClassId} {n : Nat} (hN : 152 ≤ n) (h : Hp) (x1 : Int32) (r : Hp) (hr : fX10_bind h x1 = some r) : jM l yX10_bind cX10_bind 5 none 1 sb D ids shp St n [.ref 107, .int x1] h (jQv sb D ids shp St n r) := by
  refine jM_of hr rfl (Nat.le_of_ble_eq_true rfl) ?_
  intro p e s m args below meth c hC hret
  have b58 : ∀ (rec0 : Hp → Int32 → Option (Hp)) (hrec0 : ∀ (h : Hp) (x1 : Int32) , jJ p l e (rmD 1) s m args below meth c 5 sb D ids shp St (fun r => MQ below (jQv sb D ids shp St n r) args s 0 0 (jA sb)) n 0 0 h 0 [(0, .ref 107), (1, .int x1)] [] (rec0 h x1)) (h : Hp) (x1 : Int32) (x2 : Int32) (s0 : Int32) , jJ p l e (rmD 1) s m args below meth c 5 sb D ids shp St (fun r => MQ below (jQv sb D ids shp St n r) args s 0 0 (jA sb)) n 0 0 h 58 [(0, .ref 107), (1, .int x1), (2, .int x2)] [.int s0] (fX10_bind_58 rec0 h x1 x2 s0) := by
    intro rec0 hrec0 h x1 x2 s0 
    unfold fX10_bind_58
    refine j_istore_n hC rfl (lv' := [(3, .int s0), (0, .ref 107), (1, .int x1), (2, .int x2)]) (by decide) rfl (dOk_at dt_X10_bind 32 rfl) ?_
    refine j_aload_n hC 1 rfl rfl (dOk_at dt_X10_bind 33 rfl) ?_
    refine j_callVi hC clX10_326 (fun rz hrz => c_X10_dropHeld hN _ rz hrz) (show shp 107 = (10, 88) from rfl) (Nat.lt_of_lt_of_le (Nat.le_of_ble_eq_true rfl : 107 < 152) hN) (by decide) rfl rfl ⟨Nat.le_of_ble_eq_true rfl, Nat.le_of_ble_eq_true rfl⟩ ⟨Nat.le_refl 0, Nat.le_refl 0⟩ (As := []) (st := []) rfl (Nat.le_of_ble_eq_true rfl) (dOk_at dt_X10_bind 34 rfl) (fun v_8 h_9 _ => ?_)
    refine j_istore hC (lv' := [(4, .int v_8), (3, .int s0), (0, .ref 107), (1, .int x1), (2, .int x2)]) (by decide) rfl (dOk_at dt_X10_bind 35 rfl) ?_
    refine j_aload_n hC 2 rfl rfl (dOk_at dt_X10_bind 36 rfl) ?_
    refine j_iload_n hC 4 rfl rfl (dOk_at dt_X10_bind 37 rfl) ?_
    refine j_iload hC 0 rfl (dOk_at dt_X10_bind 38 rfl) ?_
    refine j_iload_n hC 1 rfl rfl (dOk_at dt_X10_bind 39 rfl) ?_
    refine j_callVv hC clX10_330 (fun rz hrz => c_X10_grown hN _ _ _ _ rz hrz) (show shp 107 = (10, 88) from rfl) (Nat.lt_of_lt_of_le (Nat.le_of_ble_eq_true rfl : 107 < 152) hN) (by decide) rfl rfl ⟨Nat.le_of_ble_eq_true rfl, Nat.le_of_ble_eq_true rfl⟩ ⟨Nat.le_refl 0, Nat.le_refl 0⟩ (As := [.int x2, .int v_8, .int s0]) (st := []) rfl (Nat.le_of_ble_eq_true rfl) (dOk_at dt_X10_bind 40 rfl) (fun h_11 _ => ?_)
    refine j_goto hC (tgt := 0) (by decide) (dOk_at dt_X10_bind 41 rfl) ?_
    refine j_sub [2, 3] rfl ?_
    exact hrec0 h_11 x1 
  have b0 : ∀ (fu : Nat) (h : Hp) (x1 : Int32) , jJ p l e (rmD 1) s m args below meth c 5 sb D ids shp St (fun r => MQ below (jQv sb D ids shp St n r) args s 0 0 (jA sb)) n 0 0 h 0 [(0, .ref 107), (1, .int x1)] [] (fX10_bind_0 fu h x1) := by
    intro fu 
    induction fu with
    | zero => intro h x1 ; exact j_none
    | succ fu ih =>
    intro h x1 
    rw [fX10_bind_0]
    refine j_aload_n hC 0 rfl rfl (dOk_at dt_X10_bind 0 rfl) ?_
    refine j_getI hC flX10_319 (show shp 107 = (10, 88) from rfl) (Nat.lt_of_lt_of_le (Nat.le_of_ble_eq_true rfl : 107 < 152) hN) (by decide) (by decide) (fun _ _ _ => rfl) (dOk_at dt_X10_bind 1 rfl) ?_
    refine j_if_le hC (tgt := 76) (by decide) (dOk_at dt_X10_bind 2 rfl) (fun q_1 => ?_) (fun q_1 => ?_)
    · exact j_vret hC hret (dOk_at dt_X10_bind 42 rfl)
    · refine j_aload_n hC 0 rfl rfl (dOk_at dt_X10_bind 3 rfl) ?_
      refine j_getR hC flX10_90 (show shp 107 = (10, 88) from rfl) (Nat.lt_of_lt_of_le (Nat.le_of_ble_eq_true rfl : 107 < 152) hN) (by decide) (by decide) (fun _ _ _ => rfl) (fun hs => hs 107 49 133 rfl) (dOk_at dt_X10_bind 4 rfl) ?_
      refine j_aload_n hC 0 rfl rfl (dOk_at dt_X10_bind 5 rfl) ?_
      refine j_getI hC flX10_319 (show shp 107 = (10, 88) from rfl) (Nat.lt_of_lt_of_le (Nat.le_of_ble_eq_true rfl : 107 < 152) hN) (by decide) (by decide) (fun _ _ _ => rfl) (dOk_at dt_X10_bind 6 rfl) ?_
      refine j_iconst hC (v := (1 : Int32)) rfl (dOk_at dt_X10_bind 7 rfl) ?_
      refine j_isub hC (dOk_at dt_X10_bind 8 rfl) ?_
      refine j_iald hC (show shp 133 = (21, 96) from rfl) (Nat.lt_of_lt_of_le (Nat.le_of_ble_eq_true rfl : 133 < 152) hN) (dOk_at dt_X10_bind 9 rfl) ?_
      refine j_callSi hC clX10_322 (fun rz hrz => c_X10_rank hN _ _ rz hrz) rfl ⟨Nat.le_of_ble_eq_true rfl, Nat.le_of_ble_eq_true rfl⟩ ⟨Nat.le_refl 0, Nat.le_refl 0⟩ (As := [.int (hI h 133 (Int32.toNatClampNeg ((hI h 107 51) - (1 : Int32))))]) (st := []) rfl (Nat.le_of_ble_eq_true rfl) (dOk_at dt_X10_bind 10 rfl) (fun v_2 h_3 _ => ?_)
      refine j_iload_n hC 1 rfl rfl (dOk_at dt_X10_bind 11 rfl) ?_
      refine j_icmp_lt hC (tgt := 76) (by decide) (dOk_at dt_X10_bind 12 rfl) (fun q_4 => ?_) (fun q_4 => ?_)
      · exact j_vret hC hret (dOk_at dt_X10_bind 42 rfl)
      · refine j_aload_n hC 0 rfl rfl (dOk_at dt_X10_bind 13 rfl) ?_
        refine j_dupr hC (dOk_at dt_X10_bind 14 rfl) ?_
        refine j_getI hC flX10_319 (show shp 107 = (10, 88) from rfl) (Nat.lt_of_lt_of_le (Nat.le_of_ble_eq_true rfl : 107 < 152) hN) (by decide) (by decide) (fun _ _ _ => rfl) (dOk_at dt_X10_bind 15 rfl) ?_
        refine j_iconst hC (v := (1 : Int32)) rfl (dOk_at dt_X10_bind 16 rfl) ?_
        refine j_isub hC (dOk_at dt_X10_bind 17 rfl) ?_
        refine j_putI hC St_SP flX10_319 (show shp 107 = (10, 88) from rfl) (Nat.lt_of_lt_of_le (Nat.le_of_ble_eq_true rfl : 107 < 152) hN) (by decide) (by decide) rfl rfl (dOk_at dt_X10_bind 18 rfl) ?_
        refine j_aload_n hC 0 rfl rfl (dOk_at dt_X10_bind 19 rfl) ?_
        refine j_getR hC flX10_90 (show shp 107 = (10, 88) from rfl) (Nat.lt_of_lt_of_le (Nat.le_of_ble_eq_true rfl : 107 < 152) hN) (by decide) (by decide) (fun _ _ _ => rfl) (fun hs => hs 107 49 133 rfl) (dOk_at dt_X10_bind 20 rfl) ?_
        refine j_aload_n hC 0 rfl rfl (dOk_at dt_X10_bind 21 rfl) ?_
        refine j_getI hC flX10_319 (show shp 107 = (10, 88) from rfl) (Nat.lt_of_lt_of_le (Nat.le_of_ble_eq_true rfl : 107 < 152) hN) (by decide) (by decide) (fun _ _ _ => rfl) (dOk_at dt_X10_bind 22 rfl) ?_
        refine j_iald hC (show shp 133 = (21, 96) from rfl) (Nat.lt_of_lt_of_le (Nat.le_of_ble_eq_true rfl : 133 < 152) hN) (dOk_at dt_X10_bind 23 rfl) ?_
        refine j_istore_n hC rfl (lv' := [(2, .int (hI (uI h_3 107 51 ((hI h_3 107 51) - (1 : Int32))) 133 (Int32.toNatClampNeg (hI (uI h_3 107 51 ((hI h_3 107 51) - (1 : Int32))) 107 51)))), (0, .ref 107), (1, .int x1)]) (by decide) rfl (dOk_at dt_X10_bind 24 rfl) ?_
        refine j_iload_n hC 0 rfl rfl (dOk_at dt_X10_bind 25 rfl) ?_
        refine j_iconst hC (v := (2 : Int32)) rfl (dOk_at dt_X10_bind 26 rfl) ?_
        refine j_icmp_ne hC (tgt := 54) (by decide) (dOk_at dt_X10_bind 27 rfl) (fun q_5 => ?_) (fun q_5 => ?_)
        · refine j_aload_n hC 1 rfl rfl (dOk_at dt_X10_bind 30 rfl) ?_
          refine j_callVi hC clX10_326 (fun rz hrz => c_X10_dropHeld hN _ rz hrz) (show shp 107 = (10, 88) from rfl) (Nat.lt_of_lt_of_le (Nat.le_of_ble_eq_true rfl : 107 < 152) hN) (by decide) rfl rfl ⟨Nat.le_of_ble_eq_true rfl, Nat.le_of_ble_eq_true rfl⟩ ⟨Nat.le_refl 0, Nat.le_refl 0⟩ (As := []) (st := []) rfl (Nat.le_of_ble_eq_true rfl) (dOk_at dt_X10_bind 31 rfl) (fun v_6 h_7 _ => ?_)
          refine j_sub [1, 2, 0] rfl ?_
          exact b58 (fX10_bind_0 fu) ih h_7 x1 (hI (uI h_3 107 51 ((hI h_3 107 51) - (1 : Int32))) 133 (Int32.toNatClampNeg (hI (uI h_3 107 51 ((hI h_3 107 51) - (1 : Int32))) 107 51))) v_6 
        · refine j_iconst hC (v := (-1 : Int32)) rfl (dOk_at dt_X10_bind 28 rfl) ?_
          refine j_goto hC (tgt := 58) (by decide) (dOk_at dt_X10_bind 29 rfl) ?_
          refine j_sub [1, 2, 0] rfl ?_
          exact b58 (fX10_bind_0 fu) ih (uI h_3 107 51 ((hI h_3 107 51) - (1 : Int32))) x1 (hI (uI h_3 107 51 ((hI h_3 107 51) - (1 : Int32))) 133 (Int32.toNatClampNeg (hI (uI h_3 107 51 ((hI h_3 107 51) - (1 : Int32))) 107 51))) (-1 : Int32) 
  unfold fX10_bind
  exact b0 FU h x1 
def tb_X10_signs : List (Nat × Instr × Nat) := [(0, .aload_n 0, 1), (1, .bipush 41, 2), (3, .invokevirtual 212, 3), (6, .ifCond .eq 41, 3), (9, .aload_n 0, 1), (10, .getfield 334, 3), (13, .ifCond .le 34, 3), (16, .aload_n 0, 1), (17, .iconst 1, 1), (18, .invokevirtual 357, 3), (21, .aload_n 0, 1), (22, .dup, 1), (23, .getfield 319, 3), (26, .iconst 1, 1), (27, .isub, 1), (28, .putfield 319, 3), (31, .aload_n 0, 1), (32, .dup, 1), (33, .getfield 334, 3), (36, .iconst 1, 1), (37, .isub, 1), (38, .putfield 334, 3), (41, .aload_n 0, 1), (42, .invokevirtual 209, 3), (45, .iconst 1, 1), (46, .ireturn, 1), (47, .aload_n 0, 1), (48, .bipush 13, 2), (50, .invokevirtual 345, 3), (53, .ifCond .eq 7, 3), (56, .iconst 3, 1), (57, .goto 90, 3), (60, .aload_n 0, 1), (61, .bipush 14, 2), (63, .invokevirtual 345, 3), (66, .ifCond .eq 7, 3), (69, .iconst 4, 1), (70, .goto 77, 3), (73, .aload_n 0, 1), (74, .getfield 175, 3), (77, .iconst 5, 1), (78, .if_icmp .ne 12, 3), (81, .iconst 5, 1), (82, .aload_n 0, 1), (83, .getfield 186, 3), (86, .iadd, 1), (87, .goto 60, 3), (90, .aload_n 0, 1), (91, .bipush 43, 2), (93, .invokevirtual 212, 3), (96, .ifCond .eq 8, 3), (99, .bipush 11, 2), (101, .goto 46, 3), (104, .aload_n 0, 1), (105, .bipush 45, 2), (107, .invokevirtual 212, 3), (110, .ifCond .eq 8, 3), (113, .bipush 12, 2), (115, .goto 32, 3), (118, .aload_n 0, 1), (119, .bipush 42, 2), (121, .invokevirtual 212, 3), (124, .ifCond .eq 8, 3), (127, .bipush 13, 2), (129, .goto 18, 3), (132, .aload_n 0, 1), (133, .bipush 47, 2), (135, .invokevirtual 212, 3), (138, .ifCond .eq 8, 3), (141, .bipush 14, 2), (143, .goto 4, 3), (146, .iconst 0, 1), (147, .istore_n 1, 1), (148, .iload_n 1, 1), (149, .ifCond .ne 9, 3), (152, .aload_n 0, 1), (153, .iconst 1, 1), (154, .invokevirtual 199, 3), (157, .ireturn, 1), (158, .aload_n 0, 1), (159, .iload_n 1, 1), (160, .invokestatic 322, 3), (163, .iconst 4, 1), (164, .if_icmp .ne 7, 3), (167, .iconst 5, 1), (168, .goto 7, 3), (171, .iload_n 1, 1), (172, .invokestatic 322, 3), (175, .invokevirtual 357, 3), (178, .iload_n 1, 1), (179, .invokestatic 322, 3), (182, .iconst 4, 1), (183, .if_icmp .ne 34, 3), (186, .aload_n 0, 1), (187, .getfield 319, 3), (190, .ifCond .le 27, 3), (193, .aload_n 0, 1), (194, .getfield 90, 3), (197, .aload_n 0, 1), (198, .getfield 319, 3), (201, .iconst 1, 1), (202, .isub, 1), (203, .iaload, 1), (204, .invokestatic 322, 3), (207, .iconst 4, 1), (208, .if_icmp .ne 9, 3), (211, .aload_n 0, 1), (212, .iconst 1, 1), (213, .invokevirtual 199, 3), (216, .ireturn, 1), (217, .aload_n 0, 1), (218, .invokevirtual 348, 3), (221, .ifCond .ne 5, 3), (224, .iconst 0, 1), (225, .ireturn, 1), (226, .aload_n 0, 1), (227, .iload_n 1, 1), (228, .invokevirtual 337, 3), (231, .aload_n 0, 1), (232, .iconst 1, 1), (233, .putfield 354, 3), (236, .aload_n 0, 1), (237, .iload_n 1, 1), (238, .invokestatic 322, 3), (241, .iconst 3, 1), (242, .if_icmp .ge 7, 3), (245, .iconst 1, 1), (246, .goto 4, 3), (249, .iconst 0, 1), (250, .putfield 341, 3), (253, .aload_n 0, 1), (254, .invokevirtual 209, 3), (257, .iconst 1, 1), (258, .ireturn, 1)]
theorem dt_X10_signs : dOk cX10_signs tb_X10_signs = true := by decide +kernel
def fX10_signs_250 (h : Hp) (s1 : Int32) : Option (Int32 × Hp) := if isZ s1 then ((fX10_token (uI h 107 56 s1)).bind (fun h_57 => some ((1 : Int32), h_57))) else none
def fX10_signs_217 (h : Hp) (x1 : Int32) : Option (Int32 × Hp) := bnd (fX10_isCounted h) (fun v_47 h_48 => if v_47 = 0 then (some ((0 : Int32), h_48)) else ((fX10_waitsFor h_48 x1).bind (fun h_51 => bnd (fX10_rank (uI h_51 107 55 (1 : Int32)) x1) (fun v_52 h_53 => if (3 : Int32) ≤ v_52 then (fX10_signs_250 h_53 (0 : Int32)) else (fX10_signs_250 h_53 (1 : Int32))))))
def fX10_signs_175 (h : Hp) (x1 : Int32) (s1 : Int32) : Option (Int32 × Hp) := (fX10_bind h s1).bind (fun h_37 => bnd (fX10_rank h_37 x1) (fun v_38 h_39 => if v_38 = (4 : Int32) then (if (hI h_39 107 51) ≤ 0 then (fX10_signs_217 h_39 x1) else (if inb ((hI h_39 107 51) - (1 : Int32)) 96 then (bnd (fX10_rank h_39 (hI h_39 133 (Int32.toNatClampNeg ((hI h_39 107 51) - (1 : Int32))))) (fun v_42 h_43 => if v_42 = (4 : Int32) then (bnd (fX10_wrong h_43 (1 : Int32)) (fun v_45 h_46 => if isZ v_45 then some (v_45, h_46) else none)) else (fX10_signs_217 h_43 x1))) else none)) else (fX10_signs_217 h_39 x1)))
def fX10_signs_147 (h : Hp) (s0 : Int32) : Option (Int32 × Hp) := if s0 = 0 then (bnd (fX10_wrong h (1 : Int32)) (fun v_34 h_35 => if isZ v_34 then some (v_34, h_35) else none)) else (bnd (fX10_rank h s0) (fun v_29 h_30 => if v_29 = (4 : Int32) then (fX10_signs_175 h_30 s0 (5 : Int32)) else (bnd (fX10_rank h_30 s0) (fun v_32 h_33 => fX10_signs_175 h_33 s0 v_32))))
def fX10_signs_47 (h : Hp) : Option (Int32 × Hp) := bnd (fX10_isKey h (13 : Int32)) (fun v_9 h_10 => if v_9 = 0 then (bnd (fX10_isKey h_10 (14 : Int32)) (fun v_12 h_13 => if v_12 = 0 then (if (hI h_13 107 8) = (5 : Int32) then (fX10_signs_147 h_13 ((5 : Int32) + (hI h_13 107 9))) else (bnd (fX10_isSign h_13 (43 : Int32)) (fun v_16 h_17 => if v_16 = 0 then (bnd (fX10_isSign h_17 (45 : Int32)) (fun v_19 h_20 => if v_19 = 0 then (bnd (fX10_isSign h_20 (42 : Int32)) (fun v_22 h_23 => if v_22 = 0 then (bnd (fX10_isSign h_23 (47 : Int32)) (fun v_25 h_26 => if v_25 = 0 then (fX10_signs_147 h_26 (0 : Int32)) else (fX10_signs_147 h_26 (14 : Int32)))) else (fX10_signs_147 h_23 (13 : Int32)))) else (fX10_signs_147 h_20 (12 : Int32)))) else (fX10_signs_147 h_17 (11 : Int32))))) else (fX10_signs_147 h_13 (4 : Int32)))) else (fX10_signs_147 h_10 (3 : Int32)))
def fX10_signs (h : Hp) : Option (Int32 × Hp) := bnd (fX10_isSign h (41 : Int32)) (fun v_1 h_2 => if v_1 = 0 then (fX10_signs_47 h_2) else (if (hI h_2 107 53) ≤ 0 then (fX10_signs_47 h_2) else ((fX10_bind h_2 (1 : Int32)).bind (fun h_6 => (fX10_token (uI (uI h_6 107 51 ((hI h_6 107 51) - (1 : Int32))) 107 53 ((hI (uI h_6 107 51 ((hI h_6 107 51) - (1 : Int32))) 107 53) - (1 : Int32)))).bind (fun h_8 => some ((1 : Int32), h_8))))))
set_option maxRecDepth 100000 in
set_option maxHeartbeats 4000000 in
theorem c_X10_signs {l : Launch} {sb : State} {D : va_G} {ids : Nat → ClassId} {n : Nat} (hN : 152 ≤ n) (h : Hp) (r : Int32 × Hp) (hr : fX10_signs h = some r) : jM l yX10_signs cX10_signs 2 (some .boolean) 2 sb D ids shp St n [.ref 107] h (jQi sb D ids shp St n r) := by
  refine jM_of hr rfl (Nat.le_of_ble_eq_true rfl) ?_
  intro p e s m args below meth c hC hret
  have b250 : ∀ (h : Hp) (s1 : Int32) , jJ p l e (rmD 2) s m args below meth c 2 sb D ids shp St (fun r => MQ below (jQi sb D ids shp St n r) args s 0 0 (jA sb)) n 0 0 h 250 [(0, .ref 107)] [.int s1, .ref 107] (fX10_signs_250 h s1) := by
    intro h s1 
    unfold fX10_signs_250
    refine j_ite (P := isZ s1 = true) (fun hz_55 => ?_) (fun _ => j_none)
    refine j_putZ hC St_SP flX10_341 (show shp 107 = (10, 88) from rfl) (Nat.lt_of_lt_of_le (Nat.le_of_ble_eq_true rfl : 107 < 152) hN) (by decide) (by decide) rfl rfl hz_55 (dOk_at dt_X10_signs 129 rfl) ?_
    refine j_aload_n hC 0 rfl rfl (dOk_at dt_X10_signs 130 rfl) ?_
    refine j_callVv hC clX10_209 (fun rz hrz => c_X10_token hN _ rz hrz) (show shp 107 = (10, 88) from rfl) (Nat.lt_of_lt_of_le (Nat.le_of_ble_eq_true rfl : 107 < 152) hN) (by decide) rfl rfl ⟨Nat.le_of_ble_eq_true rfl, Nat.le_of_ble_eq_true rfl⟩ ⟨Nat.le_refl 0, Nat.le_refl 0⟩ (As := []) (st := []) rfl (Nat.le_of_ble_eq_true rfl) (dOk_at dt_X10_signs 131 rfl) (fun h_57 _ => ?_)
    refine j_iconst hC (v := (1 : Int32)) rfl (dOk_at dt_X10_signs 132 rfl) ?_
    exact j_zretK hC hret rfl (dOk_at dt_X10_signs 133 rfl)
  have b217 : ∀ (h : Hp) (x1 : Int32) , jJ p l e (rmD 2) s m args below meth c 2 sb D ids shp St (fun r => MQ below (jQi sb D ids shp St n r) args s 0 0 (jA sb)) n 0 0 h 217 [(0, .ref 107), (1, .int x1)] [] (fX10_signs_217 h x1) := by
    intro h x1 
    unfold fX10_signs_217
    refine j_aload_n hC 0 rfl rfl (dOk_at dt_X10_signs 110 rfl) ?_
    refine j_callVi hC clX10_348 (fun rz hrz => c_X10_isCounted hN _ rz hrz) (show shp 107 = (10, 88) from rfl) (Nat.lt_of_lt_of_le (Nat.le_of_ble_eq_true rfl : 107 < 152) hN) (by decide) rfl rfl ⟨Nat.le_of_ble_eq_true rfl, Nat.le_of_ble_eq_true rfl⟩ ⟨Nat.le_refl 0, Nat.le_refl 0⟩ (As := []) (st := []) rfl (Nat.le_of_ble_eq_true rfl) (dOk_at dt_X10_signs 111 rfl) (fun v_47 h_48 _ => ?_)
    refine j_if_ne hC (tgt := 226) (by decide) (dOk_at dt_X10_signs 112 rfl) (fun q_49 => ?_) (fun q_49 => ?_)
    · refine j_aload_n hC 0 rfl rfl (dOk_at dt_X10_signs 115 rfl) ?_
      refine j_iload_n hC 1 rfl rfl (dOk_at dt_X10_signs 116 rfl) ?_
      refine j_callVv hC clX10_337 (fun rz hrz => c_X10_waitsFor hN _ _ rz hrz) (show shp 107 = (10, 88) from rfl) (Nat.lt_of_lt_of_le (Nat.le_of_ble_eq_true rfl : 107 < 152) hN) (by decide) rfl rfl ⟨Nat.le_of_ble_eq_true rfl, Nat.le_of_ble_eq_true rfl⟩ ⟨Nat.le_refl 0, Nat.le_refl 0⟩ (As := [.int x1]) (st := []) rfl (Nat.le_of_ble_eq_true rfl) (dOk_at dt_X10_signs 117 rfl) (fun h_51 _ => ?_)
      refine j_aload_n hC 0 rfl rfl (dOk_at dt_X10_signs 118 rfl) ?_
      refine j_iconst hC (v := (1 : Int32)) rfl (dOk_at dt_X10_signs 119 rfl) ?_
      refine j_putZ hC St_SP flX10_354 (show shp 107 = (10, 88) from rfl) (Nat.lt_of_lt_of_le (Nat.le_of_ble_eq_true rfl : 107 < 152) hN) (by decide) (by decide) rfl rfl rfl (dOk_at dt_X10_signs 120 rfl) ?_
      refine j_aload_n hC 0 rfl rfl (dOk_at dt_X10_signs 121 rfl) ?_
      refine j_iload_n hC 1 rfl rfl (dOk_at dt_X10_signs 122 rfl) ?_
      refine j_callSi hC clX10_322 (fun rz hrz => c_X10_rank hN _ _ rz hrz) rfl ⟨Nat.le_of_ble_eq_true rfl, Nat.le_of_ble_eq_true rfl⟩ ⟨Nat.le_refl 0, Nat.le_refl 0⟩ (As := [.int x1]) (st := [.ref 107]) rfl (Nat.le_of_ble_eq_true rfl) (dOk_at dt_X10_signs 123 rfl) (fun v_52 h_53 _ => ?_)
      refine j_iconst hC (v := (3 : Int32)) rfl (dOk_at dt_X10_signs 124 rfl) ?_
      refine j_icmp_ge hC (tgt := 249) (by decide) (dOk_at dt_X10_signs 125 rfl) (fun q_54 => ?_) (fun q_54 => ?_)
      · refine j_iconst hC (v := (0 : Int32)) rfl (dOk_at dt_X10_signs 128 rfl) ?_
        refine j_sub [0] rfl ?_
        exact b250 h_53 (0 : Int32) 
      · refine j_iconst hC (v := (1 : Int32)) rfl (dOk_at dt_X10_signs 126 rfl) ?_
        refine j_goto hC (tgt := 250) (by decide) (dOk_at dt_X10_signs 127 rfl) ?_
        refine j_sub [0] rfl ?_
        exact b250 h_53 (1 : Int32) 
    · refine j_iconst hC (v := (0 : Int32)) rfl (dOk_at dt_X10_signs 113 rfl) ?_
      exact j_zretK hC hret rfl (dOk_at dt_X10_signs 114 rfl)
  have b175 : ∀ (h : Hp) (x1 : Int32) (s1 : Int32) , jJ p l e (rmD 2) s m args below meth c 2 sb D ids shp St (fun r => MQ below (jQi sb D ids shp St n r) args s 0 0 (jA sb)) n 0 0 h 175 [(0, .ref 107), (1, .int x1)] [.int s1, .ref 107] (fX10_signs_175 h x1 s1) := by
    intro h x1 s1 
    unfold fX10_signs_175
    refine j_callVv hC clX10_357 (fun rz hrz => c_X10_bind hN _ _ rz hrz) (show shp 107 = (10, 88) from rfl) (Nat.lt_of_lt_of_le (Nat.le_of_ble_eq_true rfl : 107 < 152) hN) (by decide) rfl rfl ⟨Nat.le_of_ble_eq_true rfl, Nat.le_of_ble_eq_true rfl⟩ ⟨Nat.le_refl 0, Nat.le_refl 0⟩ (As := [.int s1]) (st := []) rfl (Nat.le_of_ble_eq_true rfl) (dOk_at dt_X10_signs 88 rfl) (fun h_37 _ => ?_)
    refine j_iload_n hC 1 rfl rfl (dOk_at dt_X10_signs 89 rfl) ?_
    refine j_callSi hC clX10_322 (fun rz hrz => c_X10_rank hN _ _ rz hrz) rfl ⟨Nat.le_of_ble_eq_true rfl, Nat.le_of_ble_eq_true rfl⟩ ⟨Nat.le_refl 0, Nat.le_refl 0⟩ (As := [.int x1]) (st := []) rfl (Nat.le_of_ble_eq_true rfl) (dOk_at dt_X10_signs 90 rfl) (fun v_38 h_39 _ => ?_)
    refine j_iconst hC (v := (4 : Int32)) rfl (dOk_at dt_X10_signs 91 rfl) ?_
    refine j_icmp_ne hC (tgt := 217) (by decide) (dOk_at dt_X10_signs 92 rfl) (fun q_40 => ?_) (fun q_40 => ?_)
    · exact b217 h_39 x1 
    · refine j_aload_n hC 0 rfl rfl (dOk_at dt_X10_signs 93 rfl) ?_
      refine j_getI hC flX10_319 (show shp 107 = (10, 88) from rfl) (Nat.lt_of_lt_of_le (Nat.le_of_ble_eq_true rfl : 107 < 152) hN) (by decide) (by decide) (fun _ _ _ => rfl) (dOk_at dt_X10_signs 94 rfl) ?_
      refine j_if_le hC (tgt := 217) (by decide) (dOk_at dt_X10_signs 95 rfl) (fun q_41 => ?_) (fun q_41 => ?_)
      · exact b217 h_39 x1 
      · refine j_aload_n hC 0 rfl rfl (dOk_at dt_X10_signs 96 rfl) ?_
        refine j_getR hC flX10_90 (show shp 107 = (10, 88) from rfl) (Nat.lt_of_lt_of_le (Nat.le_of_ble_eq_true rfl : 107 < 152) hN) (by decide) (by decide) (fun _ _ _ => rfl) (fun hs => hs 107 49 133 rfl) (dOk_at dt_X10_signs 97 rfl) ?_
        refine j_aload_n hC 0 rfl rfl (dOk_at dt_X10_signs 98 rfl) ?_
        refine j_getI hC flX10_319 (show shp 107 = (10, 88) from rfl) (Nat.lt_of_lt_of_le (Nat.le_of_ble_eq_true rfl : 107 < 152) hN) (by decide) (by decide) (fun _ _ _ => rfl) (dOk_at dt_X10_signs 99 rfl) ?_
        refine j_iconst hC (v := (1 : Int32)) rfl (dOk_at dt_X10_signs 100 rfl) ?_
        refine j_isub hC (dOk_at dt_X10_signs 101 rfl) ?_
        refine j_iald hC (show shp 133 = (21, 96) from rfl) (Nat.lt_of_lt_of_le (Nat.le_of_ble_eq_true rfl : 133 < 152) hN) (dOk_at dt_X10_signs 102 rfl) ?_
        refine j_callSi hC clX10_322 (fun rz hrz => c_X10_rank hN _ _ rz hrz) rfl ⟨Nat.le_of_ble_eq_true rfl, Nat.le_of_ble_eq_true rfl⟩ ⟨Nat.le_refl 0, Nat.le_refl 0⟩ (As := [.int (hI h_39 133 (Int32.toNatClampNeg ((hI h_39 107 51) - (1 : Int32))))]) (st := []) rfl (Nat.le_of_ble_eq_true rfl) (dOk_at dt_X10_signs 103 rfl) (fun v_42 h_43 _ => ?_)
        refine j_iconst hC (v := (4 : Int32)) rfl (dOk_at dt_X10_signs 104 rfl) ?_
        refine j_icmp_ne hC (tgt := 217) (by decide) (dOk_at dt_X10_signs 105 rfl) (fun q_44 => ?_) (fun q_44 => ?_)
        · exact b217 h_43 x1 
        · refine j_aload_n hC 0 rfl rfl (dOk_at dt_X10_signs 106 rfl) ?_
          refine j_iconst hC (v := (1 : Int32)) rfl (dOk_at dt_X10_signs 107 rfl) ?_
          refine j_callVi hC clX10_199 (fun rz hrz => c_X10_wrong hN _ _ rz hrz) (show shp 107 = (10, 88) from rfl) (Nat.lt_of_lt_of_le (Nat.le_of_ble_eq_true rfl : 107 < 152) hN) (by decide) rfl rfl ⟨Nat.le_of_ble_eq_true rfl, Nat.le_of_ble_eq_true rfl⟩ ⟨Nat.le_refl 0, Nat.le_refl 0⟩ (As := [.int (1 : Int32)]) (st := []) rfl (Nat.le_of_ble_eq_true rfl) (dOk_at dt_X10_signs 108 rfl) (fun v_45 h_46 _ => ?_)
          exact j_zret hC hret (dOk_at dt_X10_signs 109 rfl)
  have b147 : ∀ (h : Hp) (s0 : Int32) , jJ p l e (rmD 2) s m args below meth c 2 sb D ids shp St (fun r => MQ below (jQi sb D ids shp St n r) args s 0 0 (jA sb)) n 0 0 h 147 [(0, .ref 107)] [.int s0] (fX10_signs_147 h s0) := by
    intro h s0 
    unfold fX10_signs_147
    refine j_istore_n hC rfl (lv' := [(1, .int s0), (0, .ref 107)]) (by decide) rfl (dOk_at dt_X10_signs 72 rfl) ?_
    refine j_iload_n hC 0 rfl rfl (dOk_at dt_X10_signs 73 rfl) ?_
    refine j_if_ne hC (tgt := 158) (by decide) (dOk_at dt_X10_signs 74 rfl) (fun q_28 => ?_) (fun q_28 => ?_)
    · refine j_aload_n hC 1 rfl rfl (dOk_at dt_X10_signs 79 rfl) ?_
      refine j_iload_n hC 0 rfl rfl (dOk_at dt_X10_signs 80 rfl) ?_
      refine j_callSi hC clX10_322 (fun rz hrz => c_X10_rank hN _ _ rz hrz) rfl ⟨Nat.le_of_ble_eq_true rfl, Nat.le_of_ble_eq_true rfl⟩ ⟨Nat.le_refl 0, Nat.le_refl 0⟩ (As := [.int s0]) (st := [.ref 107]) rfl (Nat.le_of_ble_eq_true rfl) (dOk_at dt_X10_signs 81 rfl) (fun v_29 h_30 _ => ?_)
      refine j_iconst hC (v := (4 : Int32)) rfl (dOk_at dt_X10_signs 82 rfl) ?_
      refine j_icmp_ne hC (tgt := 171) (by decide) (dOk_at dt_X10_signs 83 rfl) (fun q_31 => ?_) (fun q_31 => ?_)
      · refine j_iload_n hC 0 rfl rfl (dOk_at dt_X10_signs 86 rfl) ?_
        refine j_callSi hC clX10_322 (fun rz hrz => c_X10_rank hN _ _ rz hrz) rfl ⟨Nat.le_of_ble_eq_true rfl, Nat.le_of_ble_eq_true rfl⟩ ⟨Nat.le_refl 0, Nat.le_refl 0⟩ (As := [.int s0]) (st := [.ref 107]) rfl (Nat.le_of_ble_eq_true rfl) (dOk_at dt_X10_signs 87 rfl) (fun v_32 h_33 _ => ?_)
        refine j_sub [1, 0] rfl ?_
        exact b175 h_33 s0 v_32 
      · refine j_iconst hC (v := (5 : Int32)) rfl (dOk_at dt_X10_signs 84 rfl) ?_
        refine j_goto hC (tgt := 175) (by decide) (dOk_at dt_X10_signs 85 rfl) ?_
        refine j_sub [1, 0] rfl ?_
        exact b175 h_30 s0 (5 : Int32) 
    · refine j_aload_n hC 1 rfl rfl (dOk_at dt_X10_signs 75 rfl) ?_
      refine j_iconst hC (v := (1 : Int32)) rfl (dOk_at dt_X10_signs 76 rfl) ?_
      refine j_callVi hC clX10_199 (fun rz hrz => c_X10_wrong hN _ _ rz hrz) (show shp 107 = (10, 88) from rfl) (Nat.lt_of_lt_of_le (Nat.le_of_ble_eq_true rfl : 107 < 152) hN) (by decide) rfl rfl ⟨Nat.le_of_ble_eq_true rfl, Nat.le_of_ble_eq_true rfl⟩ ⟨Nat.le_refl 0, Nat.le_refl 0⟩ (As := [.int (1 : Int32)]) (st := []) rfl (Nat.le_of_ble_eq_true rfl) (dOk_at dt_X10_signs 77 rfl) (fun v_34 h_35 _ => ?_)
      exact j_zret hC hret (dOk_at dt_X10_signs 78 rfl)
  have b47 : ∀ (h : Hp) , jJ p l e (rmD 2) s m args below meth c 2 sb D ids shp St (fun r => MQ below (jQi sb D ids shp St n r) args s 0 0 (jA sb)) n 0 0 h 47 [(0, .ref 107)] [] (fX10_signs_47 h ) := by
    intro h 
    unfold fX10_signs_47
    refine j_aload_n hC 0 rfl rfl (dOk_at dt_X10_signs 26 rfl) ?_
    refine j_bipush hC (v := (13 : Int32)) rfl (dOk_at dt_X10_signs 27 rfl) ?_
    refine j_callVi hC clX10_345 (fun rz hrz => c_X10_isKey hN _ _ rz hrz) (show shp 107 = (10, 88) from rfl) (Nat.lt_of_lt_of_le (Nat.le_of_ble_eq_true rfl : 107 < 152) hN) (by decide) rfl rfl ⟨Nat.le_of_ble_eq_true rfl, Nat.le_of_ble_eq_true rfl⟩ ⟨Nat.le_refl 0, Nat.le_refl 0⟩ (As := [.int (13 : Int32)]) (st := []) rfl (Nat.le_of_ble_eq_true rfl) (dOk_at dt_X10_signs 28 rfl) (fun v_9 h_10 _ => ?_)
    refine j_if_eq hC (tgt := 60) (by decide) (dOk_at dt_X10_signs 29 rfl) (fun q_11 => ?_) (fun q_11 => ?_)
    · refine j_aload_n hC 0 rfl rfl (dOk_at dt_X10_signs 32 rfl) ?_
      refine j_bipush hC (v := (14 : Int32)) rfl (dOk_at dt_X10_signs 33 rfl) ?_
      refine j_callVi hC clX10_345 (fun rz hrz => c_X10_isKey hN _ _ rz hrz) (show shp 107 = (10, 88) from rfl) (Nat.lt_of_lt_of_le (Nat.le_of_ble_eq_true rfl : 107 < 152) hN) (by decide) rfl rfl ⟨Nat.le_of_ble_eq_true rfl, Nat.le_of_ble_eq_true rfl⟩ ⟨Nat.le_refl 0, Nat.le_refl 0⟩ (As := [.int (14 : Int32)]) (st := []) rfl (Nat.le_of_ble_eq_true rfl) (dOk_at dt_X10_signs 34 rfl) (fun v_12 h_13 _ => ?_)
      refine j_if_eq hC (tgt := 73) (by decide) (dOk_at dt_X10_signs 35 rfl) (fun q_14 => ?_) (fun q_14 => ?_)
      · refine j_aload_n hC 0 rfl rfl (dOk_at dt_X10_signs 38 rfl) ?_
        refine j_getI hC flX10_175 (show shp 107 = (10, 88) from rfl) (Nat.lt_of_lt_of_le (Nat.le_of_ble_eq_true rfl : 107 < 152) hN) (by decide) (by decide) (fun _ _ _ => rfl) (dOk_at dt_X10_signs 39 rfl) ?_
        refine j_iconst hC (v := (5 : Int32)) rfl (dOk_at dt_X10_signs 40 rfl) ?_
        refine j_icmp_ne hC (tgt := 90) (by decide) (dOk_at dt_X10_signs 41 rfl) (fun q_15 => ?_) (fun q_15 => ?_)
        · refine j_aload_n hC 0 rfl rfl (dOk_at dt_X10_signs 47 rfl) ?_
          refine j_bipush hC (v := (43 : Int32)) rfl (dOk_at dt_X10_signs 48 rfl) ?_
          refine j_callVi hC clX10_212 (fun rz hrz => c_X10_isSign hN _ _ rz hrz) (show shp 107 = (10, 88) from rfl) (Nat.lt_of_lt_of_le (Nat.le_of_ble_eq_true rfl : 107 < 152) hN) (by decide) rfl rfl ⟨Nat.le_of_ble_eq_true rfl, Nat.le_of_ble_eq_true rfl⟩ ⟨Nat.le_refl 0, Nat.le_refl 0⟩ (As := [.int (43 : Int32)]) (st := []) rfl (Nat.le_of_ble_eq_true rfl) (dOk_at dt_X10_signs 49 rfl) (fun v_16 h_17 _ => ?_)
          refine j_if_eq hC (tgt := 104) (by decide) (dOk_at dt_X10_signs 50 rfl) (fun q_18 => ?_) (fun q_18 => ?_)
          · refine j_aload_n hC 0 rfl rfl (dOk_at dt_X10_signs 53 rfl) ?_
            refine j_bipush hC (v := (45 : Int32)) rfl (dOk_at dt_X10_signs 54 rfl) ?_
            refine j_callVi hC clX10_212 (fun rz hrz => c_X10_isSign hN _ _ rz hrz) (show shp 107 = (10, 88) from rfl) (Nat.lt_of_lt_of_le (Nat.le_of_ble_eq_true rfl : 107 < 152) hN) (by decide) rfl rfl ⟨Nat.le_of_ble_eq_true rfl, Nat.le_of_ble_eq_true rfl⟩ ⟨Nat.le_refl 0, Nat.le_refl 0⟩ (As := [.int (45 : Int32)]) (st := []) rfl (Nat.le_of_ble_eq_true rfl) (dOk_at dt_X10_signs 55 rfl) (fun v_19 h_20 _ => ?_)
            refine j_if_eq hC (tgt := 118) (by decide) (dOk_at dt_X10_signs 56 rfl) (fun q_21 => ?_) (fun q_21 => ?_)
            · refine j_aload_n hC 0 rfl rfl (dOk_at dt_X10_signs 59 rfl) ?_
              refine j_bipush hC (v := (42 : Int32)) rfl (dOk_at dt_X10_signs 60 rfl) ?_
              refine j_callVi hC clX10_212 (fun rz hrz => c_X10_isSign hN _ _ rz hrz) (show shp 107 = (10, 88) from rfl) (Nat.lt_of_lt_of_le (Nat.le_of_ble_eq_true rfl : 107 < 152) hN) (by decide) rfl rfl ⟨Nat.le_of_ble_eq_true rfl, Nat.le_of_ble_eq_true rfl⟩ ⟨Nat.le_refl 0, Nat.le_refl 0⟩ (As := [.int (42 : Int32)]) (st := []) rfl (Nat.le_of_ble_eq_true rfl) (dOk_at dt_X10_signs 61 rfl) (fun v_22 h_23 _ => ?_)
              refine j_if_eq hC (tgt := 132) (by decide) (dOk_at dt_X10_signs 62 rfl) (fun q_24 => ?_) (fun q_24 => ?_)
              · refine j_aload_n hC 0 rfl rfl (dOk_at dt_X10_signs 65 rfl) ?_
                refine j_bipush hC (v := (47 : Int32)) rfl (dOk_at dt_X10_signs 66 rfl) ?_
                refine j_callVi hC clX10_212 (fun rz hrz => c_X10_isSign hN _ _ rz hrz) (show shp 107 = (10, 88) from rfl) (Nat.lt_of_lt_of_le (Nat.le_of_ble_eq_true rfl : 107 < 152) hN) (by decide) rfl rfl ⟨Nat.le_of_ble_eq_true rfl, Nat.le_of_ble_eq_true rfl⟩ ⟨Nat.le_refl 0, Nat.le_refl 0⟩ (As := [.int (47 : Int32)]) (st := []) rfl (Nat.le_of_ble_eq_true rfl) (dOk_at dt_X10_signs 67 rfl) (fun v_25 h_26 _ => ?_)
                refine j_if_eq hC (tgt := 146) (by decide) (dOk_at dt_X10_signs 68 rfl) (fun q_27 => ?_) (fun q_27 => ?_)
                · refine j_iconst hC (v := (0 : Int32)) rfl (dOk_at dt_X10_signs 71 rfl) ?_
                  exact b147 h_26 (0 : Int32) 
                · refine j_bipush hC (v := (14 : Int32)) rfl (dOk_at dt_X10_signs 69 rfl) ?_
                  refine j_goto hC (tgt := 147) (by decide) (dOk_at dt_X10_signs 70 rfl) ?_
                  exact b147 h_26 (14 : Int32) 
              · refine j_bipush hC (v := (13 : Int32)) rfl (dOk_at dt_X10_signs 63 rfl) ?_
                refine j_goto hC (tgt := 147) (by decide) (dOk_at dt_X10_signs 64 rfl) ?_
                exact b147 h_23 (13 : Int32) 
            · refine j_bipush hC (v := (12 : Int32)) rfl (dOk_at dt_X10_signs 57 rfl) ?_
              refine j_goto hC (tgt := 147) (by decide) (dOk_at dt_X10_signs 58 rfl) ?_
              exact b147 h_20 (12 : Int32) 
          · refine j_bipush hC (v := (11 : Int32)) rfl (dOk_at dt_X10_signs 51 rfl) ?_
            refine j_goto hC (tgt := 147) (by decide) (dOk_at dt_X10_signs 52 rfl) ?_
            exact b147 h_17 (11 : Int32) 
        · refine j_iconst hC (v := (5 : Int32)) rfl (dOk_at dt_X10_signs 42 rfl) ?_
          refine j_aload_n hC 0 rfl rfl (dOk_at dt_X10_signs 43 rfl) ?_
          refine j_getI hC flX10_186 (show shp 107 = (10, 88) from rfl) (Nat.lt_of_lt_of_le (Nat.le_of_ble_eq_true rfl : 107 < 152) hN) (by decide) (by decide) (fun _ _ _ => rfl) (dOk_at dt_X10_signs 44 rfl) ?_
          refine j_iadd hC (dOk_at dt_X10_signs 45 rfl) ?_
          refine j_goto hC (tgt := 147) (by decide) (dOk_at dt_X10_signs 46 rfl) ?_
          exact b147 h_13 ((5 : Int32) + (hI h_13 107 9)) 
      · refine j_iconst hC (v := (4 : Int32)) rfl (dOk_at dt_X10_signs 36 rfl) ?_
        refine j_goto hC (tgt := 147) (by decide) (dOk_at dt_X10_signs 37 rfl) ?_
        exact b147 h_13 (4 : Int32) 
    · refine j_iconst hC (v := (3 : Int32)) rfl (dOk_at dt_X10_signs 30 rfl) ?_
      refine j_goto hC (tgt := 147) (by decide) (dOk_at dt_X10_signs 31 rfl) ?_
      exact b147 h_10 (3 : Int32) 
  unfold fX10_signs
  refine j_aload_n hC 0 rfl rfl (dOk_at dt_X10_signs 0 rfl) ?_
  refine j_bipush hC (v := (41 : Int32)) rfl (dOk_at dt_X10_signs 1 rfl) ?_
  refine j_callVi hC clX10_212 (fun rz hrz => c_X10_isSign hN _ _ rz hrz) (show shp 107 = (10, 88) from rfl) (Nat.lt_of_lt_of_le (Nat.le_of_ble_eq_true rfl : 107 < 152) hN) (by decide) rfl rfl ⟨Nat.le_of_ble_eq_true rfl, Nat.le_of_ble_eq_true rfl⟩ ⟨Nat.le_refl 0, Nat.le_refl 0⟩ (As := [.int (41 : Int32)]) (st := []) rfl (Nat.le_of_ble_eq_true rfl) (dOk_at dt_X10_signs 2 rfl) (fun v_1 h_2 _ => ?_)
  refine j_if_eq hC (tgt := 47) (by decide) (dOk_at dt_X10_signs 3 rfl) (fun q_3 => ?_) (fun q_3 => ?_)
  · exact b47 h_2 
  · refine j_aload_n hC 0 rfl rfl (dOk_at dt_X10_signs 4 rfl) ?_
    refine j_getI hC flX10_334 (show shp 107 = (10, 88) from rfl) (Nat.lt_of_lt_of_le (Nat.le_of_ble_eq_true rfl : 107 < 152) hN) (by decide) (by decide) (fun _ _ _ => rfl) (dOk_at dt_X10_signs 5 rfl) ?_
    refine j_if_le hC (tgt := 47) (by decide) (dOk_at dt_X10_signs 6 rfl) (fun q_4 => ?_) (fun q_4 => ?_)
    · exact b47 h_2 
    · refine j_aload_n hC 0 rfl rfl (dOk_at dt_X10_signs 7 rfl) ?_
      refine j_iconst hC (v := (1 : Int32)) rfl (dOk_at dt_X10_signs 8 rfl) ?_
      refine j_callVv hC clX10_357 (fun rz hrz => c_X10_bind hN _ _ rz hrz) (show shp 107 = (10, 88) from rfl) (Nat.lt_of_lt_of_le (Nat.le_of_ble_eq_true rfl : 107 < 152) hN) (by decide) rfl rfl ⟨Nat.le_of_ble_eq_true rfl, Nat.le_of_ble_eq_true rfl⟩ ⟨Nat.le_refl 0, Nat.le_refl 0⟩ (As := [.int (1 : Int32)]) (st := []) rfl (Nat.le_of_ble_eq_true rfl) (dOk_at dt_X10_signs 9 rfl) (fun h_6 _ => ?_)
      refine j_aload_n hC 0 rfl rfl (dOk_at dt_X10_signs 10 rfl) ?_
      refine j_dupr hC (dOk_at dt_X10_signs 11 rfl) ?_
      refine j_getI hC flX10_319 (show shp 107 = (10, 88) from rfl) (Nat.lt_of_lt_of_le (Nat.le_of_ble_eq_true rfl : 107 < 152) hN) (by decide) (by decide) (fun _ _ _ => rfl) (dOk_at dt_X10_signs 12 rfl) ?_
      refine j_iconst hC (v := (1 : Int32)) rfl (dOk_at dt_X10_signs 13 rfl) ?_
      refine j_isub hC (dOk_at dt_X10_signs 14 rfl) ?_
      refine j_putI hC St_SP flX10_319 (show shp 107 = (10, 88) from rfl) (Nat.lt_of_lt_of_le (Nat.le_of_ble_eq_true rfl : 107 < 152) hN) (by decide) (by decide) rfl rfl (dOk_at dt_X10_signs 15 rfl) ?_
      refine j_aload_n hC 0 rfl rfl (dOk_at dt_X10_signs 16 rfl) ?_
      refine j_dupr hC (dOk_at dt_X10_signs 17 rfl) ?_
      refine j_getI hC flX10_334 (show shp 107 = (10, 88) from rfl) (Nat.lt_of_lt_of_le (Nat.le_of_ble_eq_true rfl : 107 < 152) hN) (by decide) (by decide) (fun _ _ _ => rfl) (dOk_at dt_X10_signs 18 rfl) ?_
      refine j_iconst hC (v := (1 : Int32)) rfl (dOk_at dt_X10_signs 19 rfl) ?_
      refine j_isub hC (dOk_at dt_X10_signs 20 rfl) ?_
      refine j_putI hC St_SP flX10_334 (show shp 107 = (10, 88) from rfl) (Nat.lt_of_lt_of_le (Nat.le_of_ble_eq_true rfl : 107 < 152) hN) (by decide) (by decide) rfl rfl (dOk_at dt_X10_signs 21 rfl) ?_
      refine j_aload_n hC 0 rfl rfl (dOk_at dt_X10_signs 22 rfl) ?_
      refine j_callVv hC clX10_209 (fun rz hrz => c_X10_token hN _ rz hrz) (show shp 107 = (10, 88) from rfl) (Nat.lt_of_lt_of_le (Nat.le_of_ble_eq_true rfl : 107 < 152) hN) (by decide) rfl rfl ⟨Nat.le_of_ble_eq_true rfl, Nat.le_of_ble_eq_true rfl⟩ ⟨Nat.le_refl 0, Nat.le_refl 0⟩ (As := []) (st := []) rfl (Nat.le_of_ble_eq_true rfl) (dOk_at dt_X10_signs 23 rfl) (fun h_8 _ => ?_)
      refine j_iconst hC (v := (1 : Int32)) rfl (dOk_at dt_X10_signs 24 rfl) ?_
      exact j_zretK hC hret rfl (dOk_at dt_X10_signs 25 rfl)
def tb_X10_sumRead : List (Nat × Instr × Nat) := [(0, .aload_n 0, 1), (1, .iconst 0, 1), (2, .putfield 319, 3), (5, .aload_n 0, 1), (6, .iconst 0, 1), (7, .putfield 316, 3), (10, .aload_n 0, 1), (11, .iconst 0, 1), (12, .putfield 334, 3), (15, .aload_n 0, 1), (16, .iconst 1, 1), (17, .putfield 354, 3), (20, .aload_n 0, 1), (21, .iconst 1, 1), (22, .putfield 341, 3), (25, .aload_n 0, 1), (26, .bipush 59, 2), (28, .invokevirtual 212, 3), (31, .ifCond .eq 17, 3), (34, .aload_n 0, 1), (35, .getfield 354, 3), (38, .ifCond .ne 10, 3), (41, .aload_n 0, 1), (42, .getfield 334, 3), (45, .ifCond .le 29, 3), (48, .aload_n 0, 1), (49, .getfield 354, 3), (52, .ifCond .eq 13, 3), (55, .aload_n 0, 1), (56, .invokevirtual 360, 3), (59, .ifCond .eq 13, 3), (62, .goto (-37), 3), (65, .aload_n 0, 1), (66, .invokevirtual 363, 3), (69, .ifCond .ne (-44), 3), (72, .iconst 0, 1), (73, .ireturn, 1), (74, .aload_n 0, 1), (75, .iconst 1, 1), (76, .invokevirtual 357, 3), (79, .iconst 1, 1), (80, .ireturn, 1)]
theorem dt_X10_sumRead : dOk cX10_sumRead tb_X10_sumRead = true := by decide +kernel
def fX10_sumRead_48 (rec25 : Hp → Option (Int32 × Hp)) (h : Hp) : Option (Int32 × Hp) := if (hI h 107 55) = 0 then (bnd (fX10_signs h) (fun v_9 h_10 => if v_9 = 0 then (some ((0 : Int32), h_10)) else (rec25 h_10))) else (bnd (fX10_leafRead h) (fun v_12 h_13 => if v_12 = 0 then (some ((0 : Int32), h_13)) else (rec25 h_13)))
def fX10_sumRead_25 : Nat → Hp → Option (Int32 × Hp)
  | 0, _ => none
  | fu + 1, h => bnd (fX10_isSign h (59 : Int32)) (fun v_1 h_2 => if v_1 = 0 then (fX10_sumRead_48 (fX10_sumRead_25 fu) h_2) else (if (hI h_2 107 55) = 0 then (if (hI h_2 107 53) ≤ 0 then ((fX10_bind h_2 (1 : Int32)).bind (fun h_7 => some ((1 : Int32), h_7))) else (fX10_sumRead_48 (fX10_sumRead_25 fu) h_2)) else (fX10_sumRead_48 (fX10_sumRead_25 fu) h_2)))
def fX10_sumRead (h : Hp) : Option (Int32 × Hp) := fX10_sumRead_25 FU (uI (uI (uI (uI (uI h 107 51 (0 : Int32)) 107 52 (0 : Int32)) 107 53 (0 : Int32)) 107 55 (1 : Int32)) 107 56 (1 : Int32))
set_option maxRecDepth 100000 in
set_option maxHeartbeats 4000000 in
theorem c_X10_sumRead {l : Launch} {sb : State} {D : va_G} {ids : Nat → ClassId} {n : Nat} (hN : 152 ≤ n) (h : Hp) (r : Int32 × Hp) (hr : fX10_sumRead h = some r) : jM l yX10_sumRead cX10_sumRead 1 (some .boolean) 3 sb D ids shp St n [.ref 107] h (jQi sb D ids shp St n r) := by
  refine jM_of hr rfl (Nat.le_of_ble_eq_true rfl) ?_
  intro p e s m args below meth c hC hret
  have b48 : ∀ (rec25 : Hp → Option (Int32 × Hp)) (hrec25 : ∀ (h : Hp) , jJ p l e (rmD 3) s m args below meth c 1 sb D ids shp St (fun r => MQ below (jQi sb D ids shp St n r) args s 0 0 (jA sb)) n 0 0 h 25 [(0, .ref 107)] [] (rec25 h )) (h : Hp) , jJ p l e (rmD 3) s m args below meth c 1 sb D ids shp St (fun r => MQ below (jQi sb D ids shp St n r) args s 0 0 (jA sb)) n 0 0 h 48 [(0, .ref 107)] [] (fX10_sumRead_48 rec25 h ) := by
    intro rec25 hrec25 h 
    unfold fX10_sumRead_48
    refine j_aload_n hC 0 rfl rfl (dOk_at dt_X10_sumRead 25 rfl) ?_
    refine j_getI hC flX10_354 (show shp 107 = (10, 88) from rfl) (Nat.lt_of_lt_of_le (Nat.le_of_ble_eq_true rfl : 107 < 152) hN) (by decide) (by decide) (fun _ _ _ => rfl) (dOk_at dt_X10_sumRead 26 rfl) ?_
    refine j_if_eq hC (tgt := 65) (by decide) (dOk_at dt_X10_sumRead 27 rfl) (fun q_8 => ?_) (fun q_8 => ?_)
    · refine j_aload_n hC 0 rfl rfl (dOk_at dt_X10_sumRead 32 rfl) ?_
      refine j_callVi hC clX10_363 (fun rz hrz => c_X10_signs hN _ rz hrz) (show shp 107 = (10, 88) from rfl) (Nat.lt_of_lt_of_le (Nat.le_of_ble_eq_true rfl : 107 < 152) hN) (by decide) rfl rfl ⟨Nat.le_of_ble_eq_true rfl, Nat.le_of_ble_eq_true rfl⟩ ⟨Nat.le_refl 0, Nat.le_refl 0⟩ (As := []) (st := []) rfl (Nat.le_of_ble_eq_true rfl) (dOk_at dt_X10_sumRead 33 rfl) (fun v_9 h_10 _ => ?_)
      refine j_if_ne hC (tgt := 25) (by decide) (dOk_at dt_X10_sumRead 34 rfl) (fun q_11 => ?_) (fun q_11 => ?_)
      · exact hrec25 h_10 
      · refine j_iconst hC (v := (0 : Int32)) rfl (dOk_at dt_X10_sumRead 35 rfl) ?_
        exact j_zretK hC hret rfl (dOk_at dt_X10_sumRead 36 rfl)
    · refine j_aload_n hC 0 rfl rfl (dOk_at dt_X10_sumRead 28 rfl) ?_
      refine j_callVi hC clX10_360 (fun rz hrz => c_X10_leafRead hN _ rz hrz) (show shp 107 = (10, 88) from rfl) (Nat.lt_of_lt_of_le (Nat.le_of_ble_eq_true rfl : 107 < 152) hN) (by decide) rfl rfl ⟨Nat.le_of_ble_eq_true rfl, Nat.le_of_ble_eq_true rfl⟩ ⟨Nat.le_refl 0, Nat.le_refl 0⟩ (As := []) (st := []) rfl (Nat.le_of_ble_eq_true rfl) (dOk_at dt_X10_sumRead 29 rfl) (fun v_12 h_13 _ => ?_)
      refine j_if_eq hC (tgt := 72) (by decide) (dOk_at dt_X10_sumRead 30 rfl) (fun q_14 => ?_) (fun q_14 => ?_)
      · refine j_iconst hC (v := (0 : Int32)) rfl (dOk_at dt_X10_sumRead 35 rfl) ?_
        exact j_zretK hC hret rfl (dOk_at dt_X10_sumRead 36 rfl)
      · refine j_goto hC (tgt := 25) (by decide) (dOk_at dt_X10_sumRead 31 rfl) ?_
        exact hrec25 h_13 
  have b25 : ∀ (fu : Nat) (h : Hp) , jJ p l e (rmD 3) s m args below meth c 1 sb D ids shp St (fun r => MQ below (jQi sb D ids shp St n r) args s 0 0 (jA sb)) n 0 0 h 25 [(0, .ref 107)] [] (fX10_sumRead_25 fu h ) := by
    intro fu 
    induction fu with
    | zero => intro h ; exact j_none
    | succ fu ih =>
    intro h 
    rw [fX10_sumRead_25]
    refine j_aload_n hC 0 rfl rfl (dOk_at dt_X10_sumRead 15 rfl) ?_
    refine j_bipush hC (v := (59 : Int32)) rfl (dOk_at dt_X10_sumRead 16 rfl) ?_
    refine j_callVi hC clX10_212 (fun rz hrz => c_X10_isSign hN _ _ rz hrz) (show shp 107 = (10, 88) from rfl) (Nat.lt_of_lt_of_le (Nat.le_of_ble_eq_true rfl : 107 < 152) hN) (by decide) rfl rfl ⟨Nat.le_of_ble_eq_true rfl, Nat.le_of_ble_eq_true rfl⟩ ⟨Nat.le_refl 0, Nat.le_refl 0⟩ (As := [.int (59 : Int32)]) (st := []) rfl (Nat.le_of_ble_eq_true rfl) (dOk_at dt_X10_sumRead 17 rfl) (fun v_1 h_2 _ => ?_)
    refine j_if_eq hC (tgt := 48) (by decide) (dOk_at dt_X10_sumRead 18 rfl) (fun q_3 => ?_) (fun q_3 => ?_)
    · exact b48 (fX10_sumRead_25 fu) ih h_2 
    · refine j_aload_n hC 0 rfl rfl (dOk_at dt_X10_sumRead 19 rfl) ?_
      refine j_getI hC flX10_354 (show shp 107 = (10, 88) from rfl) (Nat.lt_of_lt_of_le (Nat.le_of_ble_eq_true rfl : 107 < 152) hN) (by decide) (by decide) (fun _ _ _ => rfl) (dOk_at dt_X10_sumRead 20 rfl) ?_
      refine j_if_ne hC (tgt := 48) (by decide) (dOk_at dt_X10_sumRead 21 rfl) (fun q_4 => ?_) (fun q_4 => ?_)
      · exact b48 (fX10_sumRead_25 fu) ih h_2 
      · refine j_aload_n hC 0 rfl rfl (dOk_at dt_X10_sumRead 22 rfl) ?_
        refine j_getI hC flX10_334 (show shp 107 = (10, 88) from rfl) (Nat.lt_of_lt_of_le (Nat.le_of_ble_eq_true rfl : 107 < 152) hN) (by decide) (by decide) (fun _ _ _ => rfl) (dOk_at dt_X10_sumRead 23 rfl) ?_
        refine j_if_le hC (tgt := 74) (by decide) (dOk_at dt_X10_sumRead 24 rfl) (fun q_5 => ?_) (fun q_5 => ?_)
        · refine j_aload_n hC 0 rfl rfl (dOk_at dt_X10_sumRead 37 rfl) ?_
          refine j_iconst hC (v := (1 : Int32)) rfl (dOk_at dt_X10_sumRead 38 rfl) ?_
          refine j_callVv hC clX10_357 (fun rz hrz => c_X10_bind hN _ _ rz hrz) (show shp 107 = (10, 88) from rfl) (Nat.lt_of_lt_of_le (Nat.le_of_ble_eq_true rfl : 107 < 152) hN) (by decide) rfl rfl ⟨Nat.le_of_ble_eq_true rfl, Nat.le_of_ble_eq_true rfl⟩ ⟨Nat.le_refl 0, Nat.le_refl 0⟩ (As := [.int (1 : Int32)]) (st := []) rfl (Nat.le_of_ble_eq_true rfl) (dOk_at dt_X10_sumRead 39 rfl) (fun h_7 _ => ?_)
          refine j_iconst hC (v := (1 : Int32)) rfl (dOk_at dt_X10_sumRead 40 rfl) ?_
          exact j_zretK hC hret rfl (dOk_at dt_X10_sumRead 41 rfl)
        · exact b48 (fX10_sumRead_25 fu) ih h_2 
  unfold fX10_sumRead
  refine j_aload_n hC 0 rfl rfl (dOk_at dt_X10_sumRead 0 rfl) ?_
  refine j_iconst hC (v := (0 : Int32)) rfl (dOk_at dt_X10_sumRead 1 rfl) ?_
  refine j_putI hC St_SP flX10_319 (show shp 107 = (10, 88) from rfl) (Nat.lt_of_lt_of_le (Nat.le_of_ble_eq_true rfl : 107 < 152) hN) (by decide) (by decide) rfl rfl (dOk_at dt_X10_sumRead 2 rfl) ?_
  refine j_aload_n hC 0 rfl rfl (dOk_at dt_X10_sumRead 3 rfl) ?_
  refine j_iconst hC (v := (0 : Int32)) rfl (dOk_at dt_X10_sumRead 4 rfl) ?_
  refine j_putI hC St_SP flX10_316 (show shp 107 = (10, 88) from rfl) (Nat.lt_of_lt_of_le (Nat.le_of_ble_eq_true rfl : 107 < 152) hN) (by decide) (by decide) rfl rfl (dOk_at dt_X10_sumRead 5 rfl) ?_
  refine j_aload_n hC 0 rfl rfl (dOk_at dt_X10_sumRead 6 rfl) ?_
  refine j_iconst hC (v := (0 : Int32)) rfl (dOk_at dt_X10_sumRead 7 rfl) ?_
  refine j_putI hC St_SP flX10_334 (show shp 107 = (10, 88) from rfl) (Nat.lt_of_lt_of_le (Nat.le_of_ble_eq_true rfl : 107 < 152) hN) (by decide) (by decide) rfl rfl (dOk_at dt_X10_sumRead 8 rfl) ?_
  refine j_aload_n hC 0 rfl rfl (dOk_at dt_X10_sumRead 9 rfl) ?_
  refine j_iconst hC (v := (1 : Int32)) rfl (dOk_at dt_X10_sumRead 10 rfl) ?_
  refine j_putZ hC St_SP flX10_354 (show shp 107 = (10, 88) from rfl) (Nat.lt_of_lt_of_le (Nat.le_of_ble_eq_true rfl : 107 < 152) hN) (by decide) (by decide) rfl rfl rfl (dOk_at dt_X10_sumRead 11 rfl) ?_
  refine j_aload_n hC 0 rfl rfl (dOk_at dt_X10_sumRead 12 rfl) ?_
  refine j_iconst hC (v := (1 : Int32)) rfl (dOk_at dt_X10_sumRead 13 rfl) ?_
  refine j_putZ hC St_SP flX10_341 (show shp 107 = (10, 88) from rfl) (Nat.lt_of_lt_of_le (Nat.le_of_ble_eq_true rfl : 107 < 152) hN) (by decide) (by decide) rfl rfl rfl (dOk_at dt_X10_sumRead 14 rfl) ?_
  exact b25 FU (uI (uI (uI (uI (uI h 107 51 (0 : Int32)) 107 52 (0 : Int32)) 107 53 (0 : Int32)) 107 55 (1 : Int32)) 107 56 (1 : Int32)) 
def tb_X10_lineRead : List (Nat × Instr × Nat) := [(0, .aload_n 0, 1), (1, .getfield 175, 3), (4, .iconst 1, 1), (5, .if_icmp .ne 12, 3), (8, .aload_n 0, 1), (9, .getfield 186, 3), (12, .bipush 9, 2), (14, .if_icmp .le 9, 3), (17, .aload_n 0, 1), (18, .iconst 1, 1), (19, .invokevirtual 199, 3), (22, .ireturn, 1), (23, .aload_n 0, 1), (24, .getfield 186, 3), (27, .tableswitch 127 0 8 #[49, 57, 65, 73, 81, 89, 97, 105, 116], 49), (76, .aload_n 0, 1), (77, .invokevirtual 285, 3), (80, .istore_n 1, 1), (81, .goto 170, 3), (84, .aload_n 0, 1), (85, .invokevirtual 289, 3), (88, .istore_n 1, 1), (89, .goto 162, 3), (92, .aload_n 0, 1), (93, .invokevirtual 292, 3), (96, .istore_n 1, 1), (97, .goto 154, 3), (100, .aload_n 0, 1), (101, .invokevirtual 295, 3), (104, .istore_n 1, 1), (105, .goto 146, 3), (108, .aload_n 0, 1), (109, .invokevirtual 298, 3), (112, .istore_n 1, 1), (113, .goto 138, 3), (116, .aload_n 0, 1), (117, .invokevirtual 301, 3), (120, .istore_n 1, 1), (121, .goto 130, 3), (124, .aload_n 0, 1), (125, .invokevirtual 304, 3), (128, .istore_n 1, 1), (129, .goto 122, 3), (132, .aload_n 0, 1), (133, .iconst 0, 1), (134, .bipush 100, 2), (136, .invokevirtual 307, 3), (139, .istore_n 1, 1), (140, .goto 111, 3), (143, .aload_n 0, 1), (144, .iconst 1, 1), (145, .ldc 195, 2), (147, .invokevirtual 307, 3), (150, .istore_n 1, 1), (151, .goto 100, 3), (154, .aload_n 0, 1), (155, .invokevirtual 209, 3), (158, .aload_n 0, 1), (159, .getfield 175, 3), (162, .iconst 1, 1), (163, .if_icmp .ne 21, 3), (166, .aload_n 0, 1), (167, .getfield 186, 3), (170, .bipush 10, 2), (172, .if_icmp .lt 12, 3), (175, .aload_n 0, 1), (176, .getfield 186, 3), (179, .bipush 12, 2), (181, .if_icmp .le 9, 3), (184, .aload_n 0, 1), (185, .iconst 1, 1), (186, .invokevirtual 199, 3), (189, .ireturn, 1), (190, .iconst 3, 1), (191, .aload_n 0, 1), (192, .getfield 186, 3), (195, .iadd, 1), (196, .bipush 10, 2), (198, .isub, 1), (199, .istore_n 2, 1), (200, .aload_n 0, 1), (201, .getfield 72, 3), (204, .iload_n 2, 1), (205, .baload, 1), (206, .ifCond .eq 9, 3), (209, .aload_n 0, 1), (210, .iconst 3, 1), (211, .invokevirtual 199, 3), (214, .ireturn, 1), (215, .aload_n 0, 1), (216, .getfield 72, 3), (219, .iload_n 2, 1), (220, .iconst 1, 1), (221, .bastore, 1), (222, .aload_n 0, 1), (223, .invokevirtual 209, 3), (226, .aload_n 0, 1), (227, .getfield 75, 3), (230, .iload_n 2, 1), (231, .aload_n 0, 1), (232, .getfield 237, 3), (235, .iastore, 1), (236, .aload_n 0, 1), (237, .invokevirtual 310, 3), (240, .istore_n 1, 1), (241, .aload_n 0, 1), (242, .getfield 78, 3), (245, .iload_n 2, 1), (246, .aload_n 0, 1), (247, .getfield 237, 3), (250, .iastore, 1), (251, .iload_n 1, 1), (252, .ifCond .ne 5, 3), (255, .iconst 0, 1), (256, .ireturn, 1), (257, .aload_n 0, 1), (258, .bipush 59, 2), (260, .invokevirtual 212, 3), (263, .ifCond .ne 9, 3), (266, .aload_n 0, 1), (267, .iconst 1, 1), (268, .invokevirtual 199, 3), (271, .ireturn, 1), (272, .aload_n 0, 1), (273, .invokevirtual 209, 3), (276, .iconst 1, 1), (277, .ireturn, 1)]
theorem dt_X10_lineRead : dOk cX10_lineRead tb_X10_lineRead = true := by decide +kernel
def fX10_lineRead_17 (h : Hp) : Option (Int32 × Hp) := bnd (fX10_wrong h (1 : Int32)) (fun v_42 h_43 => if isZ v_42 then some (v_42, h_43) else none)
def fX10_lineRead_251 (h : Hp) (x1 : Int32) : Option (Int32 × Hp) := if x1 = 0 then (some ((0 : Int32), h)) else (bnd (fX10_isSign h (59 : Int32)) (fun v_45 h_46 => if v_45 = 0 then (bnd (fX10_wrong h_46 (1 : Int32)) (fun v_50 h_51 => if isZ v_50 then some (v_50, h_51) else none)) else ((fX10_token h_46).bind (fun h_49 => some ((1 : Int32), h_49)))))
def fX10_lineRead_184 (h : Hp) : Option (Int32 × Hp) := bnd (fX10_wrong h (1 : Int32)) (fun v_52 h_53 => if isZ v_52 then some (v_52, h_53) else none)
def fX10_lineRead (h : Hp) : Option (Int32 × Hp) := if (hI h 107 8) = (1 : Int32) then (if (hI h 107 9) ≤ (9 : Int32) then (if inT (hI h 107 9) 0 8 then (if (hI h 107 9) = (0 : Int32) then (bnd (fX10_claimLine h) (fun v_4 h_5 => fX10_lineRead_251 h_5 v_4)) else (if (hI h 107 9) = (1 : Int32) then (bnd (fX10_contraLine h) (fun v_7 h_8 => fX10_lineRead_251 h_8 v_7)) else (if (hI h 107 9) = (2 : Int32) then (bnd (fX10_strawLine h) (fun v_10 h_11 => fX10_lineRead_251 h_11 v_10)) else (if (hI h 107 9) = (3 : Int32) then (bnd (fX10_memberLine h) (fun v_13 h_14 => fX10_lineRead_251 h_14 v_13)) else (if (hI h 107 9) = (4 : Int32) then (bnd (fX10_holdsLine h) (fun v_16 h_17 => fX10_lineRead_251 h_17 v_16)) else (if (hI h 107 9) = (5 : Int32) then (bnd (fX10_debateLine h) (fun v_19 h_20 => fX10_lineRead_251 h_20 v_19)) else (if (hI h 107 9) = (6 : Int32) then (bnd (fX10_stuffLine h) (fun v_22 h_23 => fX10_lineRead_251 h_23 v_22)) else (if (hI h 107 9) = (7 : Int32) then (bnd (fX10_onceLine h (0 : Int32) (100 : Int32)) (fun v_25 h_26 => fX10_lineRead_251 h_26 v_25)) else (if (hI h 107 9) = (8 : Int32) then (bnd (fX10_onceLine h (1 : Int32) (99999 : Int32)) (fun v_28 h_29 => fX10_lineRead_251 h_29 v_28)) else none))))))))) else ((fX10_token h).bind (fun h_31 => if (hI h_31 107 8) = (1 : Int32) then (if (hI h_31 107 9) < (10 : Int32) then (fX10_lineRead_184 h_31) else (if (hI h_31 107 9) ≤ (12 : Int32) then (if inb (((3 : Int32) + (hI h_31 107 9)) - (10 : Int32)) 6 then (if (hI h_31 127 (Int32.toNatClampNeg (((3 : Int32) + (hI h_31 107 9)) - (10 : Int32)))) = 0 then (if inb (((3 : Int32) + (hI h_31 107 9)) - (10 : Int32)) 6 then ((fX10_token (uI h_31 127 (Int32.toNatClampNeg (((3 : Int32) + (hI h_31 107 9)) - (10 : Int32))) (1 : Int32))).bind (fun h_37 => if inb (((3 : Int32) + (hI h_31 107 9)) - (10 : Int32)) 6 then (bnd (fX10_sumRead (uI h_37 128 (Int32.toNatClampNeg (((3 : Int32) + (hI h_31 107 9)) - (10 : Int32))) (hI h_37 107 25))) (fun v_38 h_39 => if inb (((3 : Int32) + (hI h_31 107 9)) - (10 : Int32)) 6 then (fX10_lineRead_251 (uI h_39 129 (Int32.toNatClampNeg (((3 : Int32) + (hI h_31 107 9)) - (10 : Int32))) (hI h_39 107 25)) v_38) else none)) else none)) else none) else (bnd (fX10_wrong h_31 (3 : Int32)) (fun v_40 h_41 => if isZ v_40 then some (v_40, h_41) else none))) else none) else (fX10_lineRead_184 h_31))) else (fX10_lineRead_184 h_31)))) else (fX10_lineRead_17 h)) else (fX10_lineRead_17 h)
set_option maxRecDepth 100000 in
set_option maxHeartbeats 4000000 in
theorem c_X10_lineRead {l : Launch} {sb : State} {D : va_G} {ids : Nat → ClassId} {n : Nat} (hN : 152 ≤ n) (h : Hp) (r : Int32 × Hp) (hr : fX10_lineRead h = some r) : jM l yX10_lineRead cX10_lineRead 3 (some .boolean) 4 sb D ids shp St n [.ref 107] h (jQi sb D ids shp St n r) := by
  refine jM_of hr rfl (Nat.le_of_ble_eq_true rfl) ?_
  intro p e s m args below meth c hC hret
  have b17 : ∀ (h : Hp) , jJ p l e (rmD 4) s m args below meth c 3 sb D ids shp St (fun r => MQ below (jQi sb D ids shp St n r) args s 0 0 (jA sb)) n 0 0 h 17 [(0, .ref 107)] [] (fX10_lineRead_17 h ) := by
    intro h 
    unfold fX10_lineRead_17
    refine j_aload_n hC 0 rfl rfl (dOk_at dt_X10_lineRead 8 rfl) ?_
    refine j_iconst hC (v := (1 : Int32)) rfl (dOk_at dt_X10_lineRead 9 rfl) ?_
    refine j_callVi hC clX10_199 (fun rz hrz => c_X10_wrong hN _ _ rz hrz) (show shp 107 = (10, 88) from rfl) (Nat.lt_of_lt_of_le (Nat.le_of_ble_eq_true rfl : 107 < 152) hN) (by decide) rfl rfl ⟨Nat.le_of_ble_eq_true rfl, Nat.le_of_ble_eq_true rfl⟩ ⟨Nat.le_refl 0, Nat.le_refl 0⟩ (As := [.int (1 : Int32)]) (st := []) rfl (Nat.le_of_ble_eq_true rfl) (dOk_at dt_X10_lineRead 10 rfl) (fun v_42 h_43 _ => ?_)
    exact j_zret hC hret (dOk_at dt_X10_lineRead 11 rfl)
  have b251 : ∀ (h : Hp) (x1 : Int32) , jJ p l e (rmD 4) s m args below meth c 3 sb D ids shp St (fun r => MQ below (jQi sb D ids shp St n r) args s 0 0 (jA sb)) n 0 0 h 251 [(0, .ref 107), (1, .int x1)] [] (fX10_lineRead_251 h x1) := by
    intro h x1 
    unfold fX10_lineRead_251
    refine j_iload_n hC 1 rfl rfl (dOk_at dt_X10_lineRead 111 rfl) ?_
    refine j_if_ne hC (tgt := 257) (by decide) (dOk_at dt_X10_lineRead 112 rfl) (fun q_44 => ?_) (fun q_44 => ?_)
    · refine j_aload_n hC 0 rfl rfl (dOk_at dt_X10_lineRead 115 rfl) ?_
      refine j_bipush hC (v := (59 : Int32)) rfl (dOk_at dt_X10_lineRead 116 rfl) ?_
      refine j_callVi hC clX10_212 (fun rz hrz => c_X10_isSign hN _ _ rz hrz) (show shp 107 = (10, 88) from rfl) (Nat.lt_of_lt_of_le (Nat.le_of_ble_eq_true rfl : 107 < 152) hN) (by decide) rfl rfl ⟨Nat.le_of_ble_eq_true rfl, Nat.le_of_ble_eq_true rfl⟩ ⟨Nat.le_refl 0, Nat.le_refl 0⟩ (As := [.int (59 : Int32)]) (st := []) rfl (Nat.le_of_ble_eq_true rfl) (dOk_at dt_X10_lineRead 117 rfl) (fun v_45 h_46 _ => ?_)
      refine j_if_ne hC (tgt := 272) (by decide) (dOk_at dt_X10_lineRead 118 rfl) (fun q_47 => ?_) (fun q_47 => ?_)
      · refine j_aload_n hC 0 rfl rfl (dOk_at dt_X10_lineRead 123 rfl) ?_
        refine j_callVv hC clX10_209 (fun rz hrz => c_X10_token hN _ rz hrz) (show shp 107 = (10, 88) from rfl) (Nat.lt_of_lt_of_le (Nat.le_of_ble_eq_true rfl : 107 < 152) hN) (by decide) rfl rfl ⟨Nat.le_of_ble_eq_true rfl, Nat.le_of_ble_eq_true rfl⟩ ⟨Nat.le_refl 0, Nat.le_refl 0⟩ (As := []) (st := []) rfl (Nat.le_of_ble_eq_true rfl) (dOk_at dt_X10_lineRead 124 rfl) (fun h_49 _ => ?_)
        refine j_iconst hC (v := (1 : Int32)) rfl (dOk_at dt_X10_lineRead 125 rfl) ?_
        exact j_zretK hC hret rfl (dOk_at dt_X10_lineRead 126 rfl)
      · refine j_aload_n hC 0 rfl rfl (dOk_at dt_X10_lineRead 119 rfl) ?_
        refine j_iconst hC (v := (1 : Int32)) rfl (dOk_at dt_X10_lineRead 120 rfl) ?_
        refine j_callVi hC clX10_199 (fun rz hrz => c_X10_wrong hN _ _ rz hrz) (show shp 107 = (10, 88) from rfl) (Nat.lt_of_lt_of_le (Nat.le_of_ble_eq_true rfl : 107 < 152) hN) (by decide) rfl rfl ⟨Nat.le_of_ble_eq_true rfl, Nat.le_of_ble_eq_true rfl⟩ ⟨Nat.le_refl 0, Nat.le_refl 0⟩ (As := [.int (1 : Int32)]) (st := []) rfl (Nat.le_of_ble_eq_true rfl) (dOk_at dt_X10_lineRead 121 rfl) (fun v_50 h_51 _ => ?_)
        exact j_zret hC hret (dOk_at dt_X10_lineRead 122 rfl)
    · refine j_iconst hC (v := (0 : Int32)) rfl (dOk_at dt_X10_lineRead 113 rfl) ?_
      exact j_zretK hC hret rfl (dOk_at dt_X10_lineRead 114 rfl)
  have b184 : ∀ (h : Hp) , jJ p l e (rmD 4) s m args below meth c 3 sb D ids shp St (fun r => MQ below (jQi sb D ids shp St n r) args s 0 0 (jA sb)) n 0 0 h 184 [(0, .ref 107)] [] (fX10_lineRead_184 h ) := by
    intro h 
    unfold fX10_lineRead_184
    refine j_aload_n hC 0 rfl rfl (dOk_at dt_X10_lineRead 69 rfl) ?_
    refine j_iconst hC (v := (1 : Int32)) rfl (dOk_at dt_X10_lineRead 70 rfl) ?_
    refine j_callVi hC clX10_199 (fun rz hrz => c_X10_wrong hN _ _ rz hrz) (show shp 107 = (10, 88) from rfl) (Nat.lt_of_lt_of_le (Nat.le_of_ble_eq_true rfl : 107 < 152) hN) (by decide) rfl rfl ⟨Nat.le_of_ble_eq_true rfl, Nat.le_of_ble_eq_true rfl⟩ ⟨Nat.le_refl 0, Nat.le_refl 0⟩ (As := [.int (1 : Int32)]) (st := []) rfl (Nat.le_of_ble_eq_true rfl) (dOk_at dt_X10_lineRead 71 rfl) (fun v_52 h_53 _ => ?_)
    exact j_zret hC hret (dOk_at dt_X10_lineRead 72 rfl)
  unfold fX10_lineRead
  refine j_aload_n hC 0 rfl rfl (dOk_at dt_X10_lineRead 0 rfl) ?_
  refine j_getI hC flX10_175 (show shp 107 = (10, 88) from rfl) (Nat.lt_of_lt_of_le (Nat.le_of_ble_eq_true rfl : 107 < 152) hN) (by decide) (by decide) (fun _ _ _ => rfl) (dOk_at dt_X10_lineRead 1 rfl) ?_
  refine j_iconst hC (v := (1 : Int32)) rfl (dOk_at dt_X10_lineRead 2 rfl) ?_
  refine j_icmp_ne hC (tgt := 17) (by decide) (dOk_at dt_X10_lineRead 3 rfl) (fun q_1 => ?_) (fun q_1 => ?_)
  · exact b17 h 
  · refine j_aload_n hC 0 rfl rfl (dOk_at dt_X10_lineRead 4 rfl) ?_
    refine j_getI hC flX10_186 (show shp 107 = (10, 88) from rfl) (Nat.lt_of_lt_of_le (Nat.le_of_ble_eq_true rfl : 107 < 152) hN) (by decide) (by decide) (fun _ _ _ => rfl) (dOk_at dt_X10_lineRead 5 rfl) ?_
    refine j_bipush hC (v := (9 : Int32)) rfl (dOk_at dt_X10_lineRead 6 rfl) ?_
    refine j_icmp_le hC (tgt := 23) (by decide) (dOk_at dt_X10_lineRead 7 rfl) (fun q_2 => ?_) (fun q_2 => ?_)
    · refine j_aload_n hC 0 rfl rfl (dOk_at dt_X10_lineRead 12 rfl) ?_
      refine j_getI hC flX10_186 (show shp 107 = (10, 88) from rfl) (Nat.lt_of_lt_of_le (Nat.le_of_ble_eq_true rfl : 107 < 152) hN) (by decide) (by decide) (fun _ _ _ => rfl) (dOk_at dt_X10_lineRead 13 rfl) ?_
      refine j_ite (P := inT (hI h 107 9) 0 8 = true) (fun _ => ?_) (fun q => ?_)
      · refine j_ite (P := (hI h 107 9) = (0 : Int32)) (fun q_3 => ?_) (fun _ => ?_)
        · refine j_tswIn hC (tgt := 76) q_3 (by decide) (by decide) rfl (by decide) (dOk_at dt_X10_lineRead 14 rfl) ?_
          refine j_aload_n hC 0 rfl rfl (dOk_at dt_X10_lineRead 15 rfl) ?_
          refine j_callVi hC clX10_285 (fun rz hrz => c_X10_claimLine hN _ rz hrz) (show shp 107 = (10, 88) from rfl) (Nat.lt_of_lt_of_le (Nat.le_of_ble_eq_true rfl : 107 < 152) hN) (by decide) rfl rfl ⟨Nat.le_of_ble_eq_true rfl, Nat.le_of_ble_eq_true rfl⟩ ⟨Nat.le_refl 0, Nat.le_refl 0⟩ (As := []) (st := []) rfl (Nat.le_of_ble_eq_true rfl) (dOk_at dt_X10_lineRead 16 rfl) (fun v_4 h_5 _ => ?_)
          refine j_istore_n hC rfl (lv' := [(1, .int v_4), (0, .ref 107)]) (by decide) rfl (dOk_at dt_X10_lineRead 17 rfl) ?_
          refine j_goto hC (tgt := 251) (by decide) (dOk_at dt_X10_lineRead 18 rfl) ?_
          refine j_sub [1, 0] rfl ?_
          exact b251 h_5 v_4 
        refine j_ite (P := (hI h 107 9) = (1 : Int32)) (fun q_6 => ?_) (fun _ => ?_)
        · refine j_tswIn hC (tgt := 84) q_6 (by decide) (by decide) rfl (by decide) (dOk_at dt_X10_lineRead 14 rfl) ?_
          refine j_aload_n hC 0 rfl rfl (dOk_at dt_X10_lineRead 19 rfl) ?_
          refine j_callVi hC clX10_289 (fun rz hrz => c_X10_contraLine hN _ rz hrz) (show shp 107 = (10, 88) from rfl) (Nat.lt_of_lt_of_le (Nat.le_of_ble_eq_true rfl : 107 < 152) hN) (by decide) rfl rfl ⟨Nat.le_of_ble_eq_true rfl, Nat.le_of_ble_eq_true rfl⟩ ⟨Nat.le_refl 0, Nat.le_refl 0⟩ (As := []) (st := []) rfl (Nat.le_of_ble_eq_true rfl) (dOk_at dt_X10_lineRead 20 rfl) (fun v_7 h_8 _ => ?_)
          refine j_istore_n hC rfl (lv' := [(1, .int v_7), (0, .ref 107)]) (by decide) rfl (dOk_at dt_X10_lineRead 21 rfl) ?_
          refine j_goto hC (tgt := 251) (by decide) (dOk_at dt_X10_lineRead 22 rfl) ?_
          refine j_sub [1, 0] rfl ?_
          exact b251 h_8 v_7 
        refine j_ite (P := (hI h 107 9) = (2 : Int32)) (fun q_9 => ?_) (fun _ => ?_)
        · refine j_tswIn hC (tgt := 92) q_9 (by decide) (by decide) rfl (by decide) (dOk_at dt_X10_lineRead 14 rfl) ?_
          refine j_aload_n hC 0 rfl rfl (dOk_at dt_X10_lineRead 23 rfl) ?_
          refine j_callVi hC clX10_292 (fun rz hrz => c_X10_strawLine hN _ rz hrz) (show shp 107 = (10, 88) from rfl) (Nat.lt_of_lt_of_le (Nat.le_of_ble_eq_true rfl : 107 < 152) hN) (by decide) rfl rfl ⟨Nat.le_of_ble_eq_true rfl, Nat.le_of_ble_eq_true rfl⟩ ⟨Nat.le_refl 0, Nat.le_refl 0⟩ (As := []) (st := []) rfl (Nat.le_of_ble_eq_true rfl) (dOk_at dt_X10_lineRead 24 rfl) (fun v_10 h_11 _ => ?_)
          refine j_istore_n hC rfl (lv' := [(1, .int v_10), (0, .ref 107)]) (by decide) rfl (dOk_at dt_X10_lineRead 25 rfl) ?_
          refine j_goto hC (tgt := 251) (by decide) (dOk_at dt_X10_lineRead 26 rfl) ?_
          refine j_sub [1, 0] rfl ?_
          exact b251 h_11 v_10 
        refine j_ite (P := (hI h 107 9) = (3 : Int32)) (fun q_12 => ?_) (fun _ => ?_)
        · refine j_tswIn hC (tgt := 100) q_12 (by decide) (by decide) rfl (by decide) (dOk_at dt_X10_lineRead 14 rfl) ?_
          refine j_aload_n hC 0 rfl rfl (dOk_at dt_X10_lineRead 27 rfl) ?_
          refine j_callVi hC clX10_295 (fun rz hrz => c_X10_memberLine hN _ rz hrz) (show shp 107 = (10, 88) from rfl) (Nat.lt_of_lt_of_le (Nat.le_of_ble_eq_true rfl : 107 < 152) hN) (by decide) rfl rfl ⟨Nat.le_of_ble_eq_true rfl, Nat.le_of_ble_eq_true rfl⟩ ⟨Nat.le_refl 0, Nat.le_refl 0⟩ (As := []) (st := []) rfl (Nat.le_of_ble_eq_true rfl) (dOk_at dt_X10_lineRead 28 rfl) (fun v_13 h_14 _ => ?_)
          refine j_istore_n hC rfl (lv' := [(1, .int v_13), (0, .ref 107)]) (by decide) rfl (dOk_at dt_X10_lineRead 29 rfl) ?_
          refine j_goto hC (tgt := 251) (by decide) (dOk_at dt_X10_lineRead 30 rfl) ?_
          refine j_sub [1, 0] rfl ?_
          exact b251 h_14 v_13 
        refine j_ite (P := (hI h 107 9) = (4 : Int32)) (fun q_15 => ?_) (fun _ => ?_)
        · refine j_tswIn hC (tgt := 108) q_15 (by decide) (by decide) rfl (by decide) (dOk_at dt_X10_lineRead 14 rfl) ?_
          refine j_aload_n hC 0 rfl rfl (dOk_at dt_X10_lineRead 31 rfl) ?_
          refine j_callVi hC clX10_298 (fun rz hrz => c_X10_holdsLine hN _ rz hrz) (show shp 107 = (10, 88) from rfl) (Nat.lt_of_lt_of_le (Nat.le_of_ble_eq_true rfl : 107 < 152) hN) (by decide) rfl rfl ⟨Nat.le_of_ble_eq_true rfl, Nat.le_of_ble_eq_true rfl⟩ ⟨Nat.le_refl 0, Nat.le_refl 0⟩ (As := []) (st := []) rfl (Nat.le_of_ble_eq_true rfl) (dOk_at dt_X10_lineRead 32 rfl) (fun v_16 h_17 _ => ?_)
          refine j_istore_n hC rfl (lv' := [(1, .int v_16), (0, .ref 107)]) (by decide) rfl (dOk_at dt_X10_lineRead 33 rfl) ?_
          refine j_goto hC (tgt := 251) (by decide) (dOk_at dt_X10_lineRead 34 rfl) ?_
          refine j_sub [1, 0] rfl ?_
          exact b251 h_17 v_16 
        refine j_ite (P := (hI h 107 9) = (5 : Int32)) (fun q_18 => ?_) (fun _ => ?_)
        · refine j_tswIn hC (tgt := 116) q_18 (by decide) (by decide) rfl (by decide) (dOk_at dt_X10_lineRead 14 rfl) ?_
          refine j_aload_n hC 0 rfl rfl (dOk_at dt_X10_lineRead 35 rfl) ?_
          refine j_callVi hC clX10_301 (fun rz hrz => c_X10_debateLine hN _ rz hrz) (show shp 107 = (10, 88) from rfl) (Nat.lt_of_lt_of_le (Nat.le_of_ble_eq_true rfl : 107 < 152) hN) (by decide) rfl rfl ⟨Nat.le_of_ble_eq_true rfl, Nat.le_of_ble_eq_true rfl⟩ ⟨Nat.le_refl 0, Nat.le_refl 0⟩ (As := []) (st := []) rfl (Nat.le_of_ble_eq_true rfl) (dOk_at dt_X10_lineRead 36 rfl) (fun v_19 h_20 _ => ?_)
          refine j_istore_n hC rfl (lv' := [(1, .int v_19), (0, .ref 107)]) (by decide) rfl (dOk_at dt_X10_lineRead 37 rfl) ?_
          refine j_goto hC (tgt := 251) (by decide) (dOk_at dt_X10_lineRead 38 rfl) ?_
          refine j_sub [1, 0] rfl ?_
          exact b251 h_20 v_19 
        refine j_ite (P := (hI h 107 9) = (6 : Int32)) (fun q_21 => ?_) (fun _ => ?_)
        · refine j_tswIn hC (tgt := 124) q_21 (by decide) (by decide) rfl (by decide) (dOk_at dt_X10_lineRead 14 rfl) ?_
          refine j_aload_n hC 0 rfl rfl (dOk_at dt_X10_lineRead 39 rfl) ?_
          refine j_callVi hC clX10_304 (fun rz hrz => c_X10_stuffLine hN _ rz hrz) (show shp 107 = (10, 88) from rfl) (Nat.lt_of_lt_of_le (Nat.le_of_ble_eq_true rfl : 107 < 152) hN) (by decide) rfl rfl ⟨Nat.le_of_ble_eq_true rfl, Nat.le_of_ble_eq_true rfl⟩ ⟨Nat.le_refl 0, Nat.le_refl 0⟩ (As := []) (st := []) rfl (Nat.le_of_ble_eq_true rfl) (dOk_at dt_X10_lineRead 40 rfl) (fun v_22 h_23 _ => ?_)
          refine j_istore_n hC rfl (lv' := [(1, .int v_22), (0, .ref 107)]) (by decide) rfl (dOk_at dt_X10_lineRead 41 rfl) ?_
          refine j_goto hC (tgt := 251) (by decide) (dOk_at dt_X10_lineRead 42 rfl) ?_
          refine j_sub [1, 0] rfl ?_
          exact b251 h_23 v_22 
        refine j_ite (P := (hI h 107 9) = (7 : Int32)) (fun q_24 => ?_) (fun _ => ?_)
        · refine j_tswIn hC (tgt := 132) q_24 (by decide) (by decide) rfl (by decide) (dOk_at dt_X10_lineRead 14 rfl) ?_
          refine j_aload_n hC 0 rfl rfl (dOk_at dt_X10_lineRead 43 rfl) ?_
          refine j_iconst hC (v := (0 : Int32)) rfl (dOk_at dt_X10_lineRead 44 rfl) ?_
          refine j_bipush hC (v := (100 : Int32)) rfl (dOk_at dt_X10_lineRead 45 rfl) ?_
          refine j_callVi hC clX10_307 (fun rz hrz => c_X10_onceLine hN _ _ _ rz hrz) (show shp 107 = (10, 88) from rfl) (Nat.lt_of_lt_of_le (Nat.le_of_ble_eq_true rfl : 107 < 152) hN) (by decide) rfl rfl ⟨Nat.le_of_ble_eq_true rfl, Nat.le_of_ble_eq_true rfl⟩ ⟨Nat.le_refl 0, Nat.le_refl 0⟩ (As := [.int (0 : Int32), .int (100 : Int32)]) (st := []) rfl (Nat.le_of_ble_eq_true rfl) (dOk_at dt_X10_lineRead 46 rfl) (fun v_25 h_26 _ => ?_)
          refine j_istore_n hC rfl (lv' := [(1, .int v_25), (0, .ref 107)]) (by decide) rfl (dOk_at dt_X10_lineRead 47 rfl) ?_
          refine j_goto hC (tgt := 251) (by decide) (dOk_at dt_X10_lineRead 48 rfl) ?_
          refine j_sub [1, 0] rfl ?_
          exact b251 h_26 v_25 
        refine j_ite (P := (hI h 107 9) = (8 : Int32)) (fun q_27 => ?_) (fun _ => ?_)
        · refine j_tswIn hC (tgt := 143) q_27 (by decide) (by decide) rfl (by decide) (dOk_at dt_X10_lineRead 14 rfl) ?_
          refine j_aload_n hC 0 rfl rfl (dOk_at dt_X10_lineRead 49 rfl) ?_
          refine j_iconst hC (v := (1 : Int32)) rfl (dOk_at dt_X10_lineRead 50 rfl) ?_
          refine j_ldc hC kcX10_195 (dOk_at dt_X10_lineRead 51 rfl) ?_
          refine j_callVi hC clX10_307 (fun rz hrz => c_X10_onceLine hN _ _ _ rz hrz) (show shp 107 = (10, 88) from rfl) (Nat.lt_of_lt_of_le (Nat.le_of_ble_eq_true rfl : 107 < 152) hN) (by decide) rfl rfl ⟨Nat.le_of_ble_eq_true rfl, Nat.le_of_ble_eq_true rfl⟩ ⟨Nat.le_refl 0, Nat.le_refl 0⟩ (As := [.int (1 : Int32), .int (99999 : Int32)]) (st := []) rfl (Nat.le_of_ble_eq_true rfl) (dOk_at dt_X10_lineRead 52 rfl) (fun v_28 h_29 _ => ?_)
          refine j_istore_n hC rfl (lv' := [(1, .int v_28), (0, .ref 107)]) (by decide) rfl (dOk_at dt_X10_lineRead 53 rfl) ?_
          refine j_goto hC (tgt := 251) (by decide) (dOk_at dt_X10_lineRead 54 rfl) ?_
          refine j_sub [1, 0] rfl ?_
          exact b251 h_29 v_28 
        exact j_none
      · refine j_tswOut hC (tgt := 154) q (by decide) (dOk_at dt_X10_lineRead 14 rfl) ?_
        refine j_aload_n hC 0 rfl rfl (dOk_at dt_X10_lineRead 55 rfl) ?_
        refine j_callVv hC clX10_209 (fun rz hrz => c_X10_token hN _ rz hrz) (show shp 107 = (10, 88) from rfl) (Nat.lt_of_lt_of_le (Nat.le_of_ble_eq_true rfl : 107 < 152) hN) (by decide) rfl rfl ⟨Nat.le_of_ble_eq_true rfl, Nat.le_of_ble_eq_true rfl⟩ ⟨Nat.le_refl 0, Nat.le_refl 0⟩ (As := []) (st := []) rfl (Nat.le_of_ble_eq_true rfl) (dOk_at dt_X10_lineRead 56 rfl) (fun h_31 _ => ?_)
        refine j_aload_n hC 0 rfl rfl (dOk_at dt_X10_lineRead 57 rfl) ?_
        refine j_getI hC flX10_175 (show shp 107 = (10, 88) from rfl) (Nat.lt_of_lt_of_le (Nat.le_of_ble_eq_true rfl : 107 < 152) hN) (by decide) (by decide) (fun _ _ _ => rfl) (dOk_at dt_X10_lineRead 58 rfl) ?_
        refine j_iconst hC (v := (1 : Int32)) rfl (dOk_at dt_X10_lineRead 59 rfl) ?_
        refine j_icmp_ne hC (tgt := 184) (by decide) (dOk_at dt_X10_lineRead 60 rfl) (fun q_32 => ?_) (fun q_32 => ?_)
        · exact b184 h_31 
        · refine j_aload_n hC 0 rfl rfl (dOk_at dt_X10_lineRead 61 rfl) ?_
          refine j_getI hC flX10_186 (show shp 107 = (10, 88) from rfl) (Nat.lt_of_lt_of_le (Nat.le_of_ble_eq_true rfl : 107 < 152) hN) (by decide) (by decide) (fun _ _ _ => rfl) (dOk_at dt_X10_lineRead 62 rfl) ?_
          refine j_bipush hC (v := (10 : Int32)) rfl (dOk_at dt_X10_lineRead 63 rfl) ?_
          refine j_icmp_lt hC (tgt := 184) (by decide) (dOk_at dt_X10_lineRead 64 rfl) (fun q_33 => ?_) (fun q_33 => ?_)
          · exact b184 h_31 
          · refine j_aload_n hC 0 rfl rfl (dOk_at dt_X10_lineRead 65 rfl) ?_
            refine j_getI hC flX10_186 (show shp 107 = (10, 88) from rfl) (Nat.lt_of_lt_of_le (Nat.le_of_ble_eq_true rfl : 107 < 152) hN) (by decide) (by decide) (fun _ _ _ => rfl) (dOk_at dt_X10_lineRead 66 rfl) ?_
            refine j_bipush hC (v := (12 : Int32)) rfl (dOk_at dt_X10_lineRead 67 rfl) ?_
            refine j_icmp_le hC (tgt := 190) (by decide) (dOk_at dt_X10_lineRead 68 rfl) (fun q_34 => ?_) (fun q_34 => ?_)
            · refine j_iconst hC (v := (3 : Int32)) rfl (dOk_at dt_X10_lineRead 73 rfl) ?_
              refine j_aload_n hC 0 rfl rfl (dOk_at dt_X10_lineRead 74 rfl) ?_
              refine j_getI hC flX10_186 (show shp 107 = (10, 88) from rfl) (Nat.lt_of_lt_of_le (Nat.le_of_ble_eq_true rfl : 107 < 152) hN) (by decide) (by decide) (fun _ _ _ => rfl) (dOk_at dt_X10_lineRead 75 rfl) ?_
              refine j_iadd hC (dOk_at dt_X10_lineRead 76 rfl) ?_
              refine j_bipush hC (v := (10 : Int32)) rfl (dOk_at dt_X10_lineRead 77 rfl) ?_
              refine j_isub hC (dOk_at dt_X10_lineRead 78 rfl) ?_
              refine j_istore_n hC rfl (lv' := [(2, .int (((3 : Int32) + (hI h_31 107 9)) - (10 : Int32))), (0, .ref 107)]) (by decide) rfl (dOk_at dt_X10_lineRead 79 rfl) ?_
              refine j_aload_n hC 1 rfl rfl (dOk_at dt_X10_lineRead 80 rfl) ?_
              refine j_getR hC flX10_72 (show shp 107 = (10, 88) from rfl) (Nat.lt_of_lt_of_le (Nat.le_of_ble_eq_true rfl : 107 < 152) hN) (by decide) (by decide) (fun _ _ _ => rfl) (fun hs => hs 107 43 127 rfl) (dOk_at dt_X10_lineRead 81 rfl) ?_
              refine j_iload_n hC 0 rfl rfl (dOk_at dt_X10_lineRead 82 rfl) ?_
              refine j_zald hC (show shp 127 = (23, 6) from rfl) (Nat.lt_of_lt_of_le (Nat.le_of_ble_eq_true rfl : 127 < 152) hN) (dOk_at dt_X10_lineRead 83 rfl) ?_
              refine j_if_eq hC (tgt := 215) (by decide) (dOk_at dt_X10_lineRead 84 rfl) (fun q_35 => ?_) (fun q_35 => ?_)
              · refine j_aload_n hC 1 rfl rfl (dOk_at dt_X10_lineRead 89 rfl) ?_
                refine j_getR hC flX10_72 (show shp 107 = (10, 88) from rfl) (Nat.lt_of_lt_of_le (Nat.le_of_ble_eq_true rfl : 107 < 152) hN) (by decide) (by decide) (fun _ _ _ => rfl) (fun hs => hs 107 43 127 rfl) (dOk_at dt_X10_lineRead 90 rfl) ?_
                refine j_iload_n hC 0 rfl rfl (dOk_at dt_X10_lineRead 91 rfl) ?_
                refine j_iconst hC (v := (1 : Int32)) rfl (dOk_at dt_X10_lineRead 92 rfl) ?_
                refine j_zast hC St_SP (show shp 127 = (23, 6) from rfl) (Nat.lt_of_lt_of_le (Nat.le_of_ble_eq_true rfl : 127 < 152) hN) rfl (dOk_at dt_X10_lineRead 93 rfl) ?_
                refine j_aload_n hC 1 rfl rfl (dOk_at dt_X10_lineRead 94 rfl) ?_
                refine j_callVv hC clX10_209 (fun rz hrz => c_X10_token hN _ rz hrz) (show shp 107 = (10, 88) from rfl) (Nat.lt_of_lt_of_le (Nat.le_of_ble_eq_true rfl : 107 < 152) hN) (by decide) rfl rfl ⟨Nat.le_of_ble_eq_true rfl, Nat.le_of_ble_eq_true rfl⟩ ⟨Nat.le_refl 0, Nat.le_refl 0⟩ (As := []) (st := []) rfl (Nat.le_of_ble_eq_true rfl) (dOk_at dt_X10_lineRead 95 rfl) (fun h_37 _ => ?_)
                refine j_aload_n hC 1 rfl rfl (dOk_at dt_X10_lineRead 96 rfl) ?_
                refine j_getR hC flX10_75 (show shp 107 = (10, 88) from rfl) (Nat.lt_of_lt_of_le (Nat.le_of_ble_eq_true rfl : 107 < 152) hN) (by decide) (by decide) (fun _ _ _ => rfl) (fun hs => hs 107 44 128 rfl) (dOk_at dt_X10_lineRead 97 rfl) ?_
                refine j_iload_n hC 0 rfl rfl (dOk_at dt_X10_lineRead 98 rfl) ?_
                refine j_aload_n hC 1 rfl rfl (dOk_at dt_X10_lineRead 99 rfl) ?_
                refine j_getI hC flX10_237 (show shp 107 = (10, 88) from rfl) (Nat.lt_of_lt_of_le (Nat.le_of_ble_eq_true rfl : 107 < 152) hN) (by decide) (by decide) (fun _ _ _ => rfl) (dOk_at dt_X10_lineRead 100 rfl) ?_
                refine j_iast hC St_SP (show shp 128 = (21, 6) from rfl) (Nat.lt_of_lt_of_le (Nat.le_of_ble_eq_true rfl : 128 < 152) hN) (dOk_at dt_X10_lineRead 101 rfl) ?_
                refine j_aload_n hC 1 rfl rfl (dOk_at dt_X10_lineRead 102 rfl) ?_
                refine j_callVi hC clX10_310 (fun rz hrz => c_X10_sumRead hN _ rz hrz) (show shp 107 = (10, 88) from rfl) (Nat.lt_of_lt_of_le (Nat.le_of_ble_eq_true rfl : 107 < 152) hN) (by decide) rfl rfl ⟨Nat.le_of_ble_eq_true rfl, Nat.le_of_ble_eq_true rfl⟩ ⟨Nat.le_refl 0, Nat.le_refl 0⟩ (As := []) (st := []) rfl (Nat.le_of_ble_eq_true rfl) (dOk_at dt_X10_lineRead 103 rfl) (fun v_38 h_39 _ => ?_)
                refine j_istore_n hC rfl (lv' := [(1, .int v_38), (2, .int (((3 : Int32) + (hI h_31 107 9)) - (10 : Int32))), (0, .ref 107)]) (by decide) rfl (dOk_at dt_X10_lineRead 104 rfl) ?_
                refine j_aload_n hC 2 rfl rfl (dOk_at dt_X10_lineRead 105 rfl) ?_
                refine j_getR hC flX10_78 (show shp 107 = (10, 88) from rfl) (Nat.lt_of_lt_of_le (Nat.le_of_ble_eq_true rfl : 107 < 152) hN) (by decide) (by decide) (fun _ _ _ => rfl) (fun hs => hs 107 45 129 rfl) (dOk_at dt_X10_lineRead 106 rfl) ?_
                refine j_iload_n hC 1 rfl rfl (dOk_at dt_X10_lineRead 107 rfl) ?_
                refine j_aload_n hC 2 rfl rfl (dOk_at dt_X10_lineRead 108 rfl) ?_
                refine j_getI hC flX10_237 (show shp 107 = (10, 88) from rfl) (Nat.lt_of_lt_of_le (Nat.le_of_ble_eq_true rfl : 107 < 152) hN) (by decide) (by decide) (fun _ _ _ => rfl) (dOk_at dt_X10_lineRead 109 rfl) ?_
                refine j_iast hC St_SP (show shp 129 = (21, 6) from rfl) (Nat.lt_of_lt_of_le (Nat.le_of_ble_eq_true rfl : 129 < 152) hN) (dOk_at dt_X10_lineRead 110 rfl) ?_
                refine j_sub [2, 0] rfl ?_
                exact b251 (uI h_39 129 (Int32.toNatClampNeg (((3 : Int32) + (hI h_31 107 9)) - (10 : Int32))) (hI h_39 107 25)) v_38 
              · refine j_aload_n hC 1 rfl rfl (dOk_at dt_X10_lineRead 85 rfl) ?_
                refine j_iconst hC (v := (3 : Int32)) rfl (dOk_at dt_X10_lineRead 86 rfl) ?_
                refine j_callVi hC clX10_199 (fun rz hrz => c_X10_wrong hN _ _ rz hrz) (show shp 107 = (10, 88) from rfl) (Nat.lt_of_lt_of_le (Nat.le_of_ble_eq_true rfl : 107 < 152) hN) (by decide) rfl rfl ⟨Nat.le_of_ble_eq_true rfl, Nat.le_of_ble_eq_true rfl⟩ ⟨Nat.le_refl 0, Nat.le_refl 0⟩ (As := [.int (3 : Int32)]) (st := []) rfl (Nat.le_of_ble_eq_true rfl) (dOk_at dt_X10_lineRead 87 rfl) (fun v_40 h_41 _ => ?_)
                exact j_zret hC hret (dOk_at dt_X10_lineRead 88 rfl)
            · exact b184 h_31 
    · exact b17 h 
