def tb_X9_take : List (Nat × Instr × Nat) := [(0, .aload_n 0, 1), (1, .iload_n 1, 1), (2, .invokevirtual 168, 3), (5, .ifCond .eq 23, 3), (8, .aload_n 0, 1), (9, .iload_n 2, 1), (10, .invokevirtual 128, 3), (13, .ifCond .eq 15, 3), (16, .aload_n 0, 1), (17, .getfield 38, 3), (20, .iload_n 1, 1), (21, .iload_n 2, 1), (22, .invokevirtual 202, 3), (25, .ifCond .eq 5, 3), (28, .iconst (-1), 1), (29, .ireturn, 1), (30, .aload_n 0, 1), (31, .getfield 55, 3), (34, .aload_n 0, 1), (35, .getfield 38, 3), (38, .iload_n 1, 1), (39, .iconst (-1), 1), (40, .invokevirtual 194, 3), (43, .aload_n 0, 1), (44, .getfield 38, 3), (47, .iload_n 1, 1), (48, .aload_n 0, 1), (49, .getfield 38, 3), (52, .iload_n 1, 1), (53, .invokevirtual 171, 3), (56, .iconst 1, 1), (57, .iload_n 2, 1), (58, .ishl, 1), (59, .ior, 1), (60, .invokevirtual 205, 3), (63, .aload_n 0, 1), (64, .getfield 38, 3), (67, .iload_n 1, 1), (68, .invokevirtual 171, 3), (71, .invokestatic 208, 3), (74, .ireturn, 1)]
theorem dt_X9_take : dOk cX9_take tb_X9_take = true := by decide +kernel
def fX9_take (h : Hp) (x1 : Int32) (x2 : Int32) : Option (Int32 × Hp) := bnd (fX9_isMember h x1) (fun v_1 h_2 => if v_1 = 0 then (some ((-1 : Int32), h_2)) else (bnd (fX9_isClaim h_2 x2) (fun v_4 h_5 => if v_4 = 0 then (some ((-1 : Int32), h_5)) else (bnd (fX8_holdsClaim 72 h_5 x1 x2) (fun v_7 h_8 => if v_7 = 0 then ((fX4_record 72 h_8 x1 (-1 : Int32)).bind (fun h_11 => bnd (fX8_holdsOf 72 h_11 x1) (fun v_12 h_13 => (fX8_setHolds 72 h_13 x1 (v_12 ||| ((1 : Int32) <<< (x2 &&& 31)))).bind (fun h_15 => bnd (fX8_holdsOf 72 h_15 x1) (fun v_16 h_17 => bnd (fJ6_bitCount_0f7a4 h_17 v_16) (fun v_18 h_19 => some (v_18, h_19))))))) else (some ((-1 : Int32), h_8)))))))
set_option maxRecDepth 100000 in
set_option maxHeartbeats 4000000 in
theorem c_X9_take {l : Launch} {sb : State} {D : va_G} {ids : Nat → ClassId} {n : Nat} (hN : 152 ≤ n) (h : Hp) (x1 : Int32) (x2 : Int32) (r : Int32 × Hp) (hr : fX9_take h x1 x2 = some r) : jM l yX9_take cX9_take 3 (some .int) 2 sb D ids shp St n [.ref 0, .int x1, .int x2] h (jQi sb D ids shp St n r) := by
  refine jM_of hr rfl (Nat.le_of_ble_eq_true rfl) ?_
  intro p e s m args below meth c hC hret
  unfold fX9_take
  refine j_aload_n hC 0 rfl rfl (dOk_at dt_X9_take 0 rfl) ?_
  refine j_iload_n hC 1 rfl rfl (dOk_at dt_X9_take 1 rfl) ?_
  refine j_callVi hC clX9_168 (fun rz hrz => c_X9_isMember hN _ _ rz hrz) (show shp 0 = (9, 12) from rfl) (Nat.lt_of_lt_of_le (Nat.le_of_ble_eq_true rfl : 0 < 152) hN) (by decide) rfl rfl ⟨Nat.le_of_ble_eq_true rfl, Nat.le_of_ble_eq_true rfl⟩ ⟨Nat.le_refl 0, Nat.le_refl 0⟩ (As := [.int x1]) (st := []) rfl (Nat.le_of_ble_eq_true rfl) (dOk_at dt_X9_take 2 rfl) (fun v_1 h_2 _ => ?_)
  refine j_if_eq hC (tgt := 28) (by decide) (dOk_at dt_X9_take 3 rfl) (fun q_3 => ?_) (fun q_3 => ?_)
  · refine j_iconst hC (v := (-1 : Int32)) rfl (dOk_at dt_X9_take 14 rfl) ?_
    exact j_iret hC hret (dOk_at dt_X9_take 15 rfl)
  · refine j_aload_n hC 0 rfl rfl (dOk_at dt_X9_take 4 rfl) ?_
    refine j_iload_n hC 2 rfl rfl (dOk_at dt_X9_take 5 rfl) ?_
    refine j_callVi hC clX9_128 (fun rz hrz => c_X9_isClaim hN _ _ rz hrz) (show shp 0 = (9, 12) from rfl) (Nat.lt_of_lt_of_le (Nat.le_of_ble_eq_true rfl : 0 < 152) hN) (by decide) rfl rfl ⟨Nat.le_of_ble_eq_true rfl, Nat.le_of_ble_eq_true rfl⟩ ⟨Nat.le_refl 0, Nat.le_refl 0⟩ (As := [.int x2]) (st := []) rfl (Nat.le_of_ble_eq_true rfl) (dOk_at dt_X9_take 6 rfl) (fun v_4 h_5 _ => ?_)
    refine j_if_eq hC (tgt := 28) (by decide) (dOk_at dt_X9_take 7 rfl) (fun q_6 => ?_) (fun q_6 => ?_)
    · refine j_iconst hC (v := (-1 : Int32)) rfl (dOk_at dt_X9_take 14 rfl) ?_
      exact j_iret hC hret (dOk_at dt_X9_take 15 rfl)
    · refine j_aload_n hC 0 rfl rfl (dOk_at dt_X9_take 8 rfl) ?_
      refine j_getR hC flX9_38 (show shp 0 = (9, 12) from rfl) (Nat.lt_of_lt_of_le (Nat.le_of_ble_eq_true rfl : 0 < 152) hN) (by decide) (by decide) (fun _ _ _ => rfl) (fun hs => hs 0 5 72 rfl) (dOk_at dt_X9_take 9 rfl) ?_
      refine j_iload_n hC 1 rfl rfl (dOk_at dt_X9_take 10 rfl) ?_
      refine j_iload_n hC 2 rfl rfl (dOk_at dt_X9_take 11 rfl) ?_
      refine j_callVi hC clX9_202 (fun rz hrz => c_X8_holdsClaim hN ((show shp 72 = (8, 15) from rfl)) _ _ _ rz hrz) (show shp 72 = (8, 15) from rfl) (Nat.lt_of_lt_of_le (Nat.le_of_ble_eq_true rfl : 72 < 152) hN) (by decide) rfl rfl ⟨Nat.le_of_ble_eq_true rfl, Nat.le_of_ble_eq_true rfl⟩ ⟨Nat.le_refl 0, Nat.le_refl 0⟩ (As := [.int x1, .int x2]) (st := []) rfl (Nat.le_of_ble_eq_true rfl) (dOk_at dt_X9_take 12 rfl) (fun v_7 h_8 _ => ?_)
      refine j_if_eq hC (tgt := 30) (by decide) (dOk_at dt_X9_take 13 rfl) (fun q_9 => ?_) (fun q_9 => ?_)
      · refine j_aload_n hC 0 rfl rfl (dOk_at dt_X9_take 16 rfl) ?_
        refine j_getR hC flX9_55 (show shp 0 = (9, 12) from rfl) (Nat.lt_of_lt_of_le (Nat.le_of_ble_eq_true rfl : 0 < 152) hN) (by decide) (by decide) (fun _ _ _ => rfl) (fun hs => hs 0 9 90 rfl) (dOk_at dt_X9_take 17 rfl) ?_
        refine j_aload_n hC 0 rfl rfl (dOk_at dt_X9_take 18 rfl) ?_
        refine j_getR hC flX9_38 (show shp 0 = (9, 12) from rfl) (Nat.lt_of_lt_of_le (Nat.le_of_ble_eq_true rfl : 0 < 152) hN) (by decide) (by decide) (fun _ _ _ => rfl) (fun hs => hs 0 5 72 rfl) (dOk_at dt_X9_take 19 rfl) ?_
        refine j_iload_n hC 1 rfl rfl (dOk_at dt_X9_take 20 rfl) ?_
        refine j_iconst hC (v := (-1 : Int32)) rfl (dOk_at dt_X9_take 21 rfl) ?_
        refine j_callVv hC clX9_194 (fun rz hrz => c_X4_record hN ((show shp 72 = (8, 15) from rfl)) _ _ _ rz hrz) (show shp 90 = (4, 8) from rfl) (Nat.lt_of_lt_of_le (Nat.le_of_ble_eq_true rfl : 90 < 152) hN) (by decide) rfl rfl ⟨Nat.le_of_ble_eq_true rfl, Nat.le_of_ble_eq_true rfl⟩ ⟨Nat.le_refl 0, Nat.le_refl 0⟩ (As := [.ref 72, .int x1, .int (-1 : Int32)]) (st := []) rfl (Nat.le_of_ble_eq_true rfl) (dOk_at dt_X9_take 22 rfl) (fun h_11 _ => ?_)
        refine j_aload_n hC 0 rfl rfl (dOk_at dt_X9_take 23 rfl) ?_
        refine j_getR hC flX9_38 (show shp 0 = (9, 12) from rfl) (Nat.lt_of_lt_of_le (Nat.le_of_ble_eq_true rfl : 0 < 152) hN) (by decide) (by decide) (fun _ _ _ => rfl) (fun hs => hs 0 5 72 rfl) (dOk_at dt_X9_take 24 rfl) ?_
        refine j_iload_n hC 1 rfl rfl (dOk_at dt_X9_take 25 rfl) ?_
        refine j_aload_n hC 0 rfl rfl (dOk_at dt_X9_take 26 rfl) ?_
        refine j_getR hC flX9_38 (show shp 0 = (9, 12) from rfl) (Nat.lt_of_lt_of_le (Nat.le_of_ble_eq_true rfl : 0 < 152) hN) (by decide) (by decide) (fun _ _ _ => rfl) (fun hs => hs 0 5 72 rfl) (dOk_at dt_X9_take 27 rfl) ?_
        refine j_iload_n hC 1 rfl rfl (dOk_at dt_X9_take 28 rfl) ?_
        refine j_callVi hC clX9_171 (fun rz hrz => c_X8_holdsOf hN ((show shp 72 = (8, 15) from rfl)) _ _ rz hrz) (show shp 72 = (8, 15) from rfl) (Nat.lt_of_lt_of_le (Nat.le_of_ble_eq_true rfl : 72 < 152) hN) (by decide) rfl rfl ⟨Nat.le_of_ble_eq_true rfl, Nat.le_of_ble_eq_true rfl⟩ ⟨Nat.le_refl 0, Nat.le_refl 0⟩ (As := [.int x1]) (st := [.int x1, .ref 72]) rfl (Nat.le_of_ble_eq_true rfl) (dOk_at dt_X9_take 29 rfl) (fun v_12 h_13 _ => ?_)
        refine j_iconst hC (v := (1 : Int32)) rfl (dOk_at dt_X9_take 30 rfl) ?_
        refine j_iload_n hC 2 rfl rfl (dOk_at dt_X9_take 31 rfl) ?_
        refine j_ishl hC (dOk_at dt_X9_take 32 rfl) ?_
        refine j_ior hC (dOk_at dt_X9_take 33 rfl) ?_
        refine j_callVv hC clX9_205 (fun rz hrz => c_X8_setHolds hN ((show shp 72 = (8, 15) from rfl)) _ _ _ rz hrz) (show shp 72 = (8, 15) from rfl) (Nat.lt_of_lt_of_le (Nat.le_of_ble_eq_true rfl : 72 < 152) hN) (by decide) rfl rfl ⟨Nat.le_of_ble_eq_true rfl, Nat.le_of_ble_eq_true rfl⟩ ⟨Nat.le_refl 0, Nat.le_refl 0⟩ (As := [.int x1, .int (v_12 ||| ((1 : Int32) <<< (x2 &&& 31)))]) (st := []) rfl (Nat.le_of_ble_eq_true rfl) (dOk_at dt_X9_take 34 rfl) (fun h_15 _ => ?_)
        refine j_aload_n hC 0 rfl rfl (dOk_at dt_X9_take 35 rfl) ?_
        refine j_getR hC flX9_38 (show shp 0 = (9, 12) from rfl) (Nat.lt_of_lt_of_le (Nat.le_of_ble_eq_true rfl : 0 < 152) hN) (by decide) (by decide) (fun _ _ _ => rfl) (fun hs => hs 0 5 72 rfl) (dOk_at dt_X9_take 36 rfl) ?_
        refine j_iload_n hC 1 rfl rfl (dOk_at dt_X9_take 37 rfl) ?_
        refine j_callVi hC clX9_171 (fun rz hrz => c_X8_holdsOf hN ((show shp 72 = (8, 15) from rfl)) _ _ rz hrz) (show shp 72 = (8, 15) from rfl) (Nat.lt_of_lt_of_le (Nat.le_of_ble_eq_true rfl : 72 < 152) hN) (by decide) rfl rfl ⟨Nat.le_of_ble_eq_true rfl, Nat.le_of_ble_eq_true rfl⟩ ⟨Nat.le_refl 0, Nat.le_refl 0⟩ (As := [.int x1]) (st := []) rfl (Nat.le_of_ble_eq_true rfl) (dOk_at dt_X9_take 38 rfl) (fun v_16 h_17 _ => ?_)
        refine j_callSi hC clX9_208 (fun rz hrz => c_J6_bitCount_0f7a4 hN _ _ rz hrz) rfl ⟨Nat.le_of_ble_eq_true rfl, Nat.le_of_ble_eq_true rfl⟩ ⟨Nat.le_refl 0, Nat.le_refl 0⟩ (As := [.int v_16]) (st := []) rfl (Nat.le_of_ble_eq_true rfl) (dOk_at dt_X9_take 39 rfl) (fun v_18 h_19 _ => ?_)
        exact j_iret hC hret (dOk_at dt_X9_take 40 rfl)
      · refine j_iconst hC (v := (-1 : Int32)) rfl (dOk_at dt_X9_take 14 rfl) ?_
        exact j_iret hC hret (dOk_at dt_X9_take 15 rfl)
def tb_X9_drop : List (Nat × Instr × Nat) := [(0, .aload_n 0, 1), (1, .iload_n 1, 1), (2, .invokevirtual 168, 3), (5, .ifCond .eq 23, 3), (8, .aload_n 0, 1), (9, .iload_n 2, 1), (10, .invokevirtual 128, 3), (13, .ifCond .eq 15, 3), (16, .aload_n 0, 1), (17, .getfield 38, 3), (20, .iload_n 1, 1), (21, .iload_n 2, 1), (22, .invokevirtual 202, 3), (25, .ifCond .ne 5, 3), (28, .iconst 0, 1), (29, .ireturn, 1), (30, .aload_n 0, 1), (31, .getfield 55, 3), (34, .aload_n 0, 1), (35, .getfield 38, 3), (38, .iload_n 1, 1), (39, .iconst (-1), 1), (40, .invokevirtual 194, 3), (43, .aload_n 0, 1), (44, .getfield 38, 3), (47, .iload_n 1, 1), (48, .aload_n 0, 1), (49, .getfield 38, 3), (52, .iload_n 1, 1), (53, .invokevirtual 171, 3), (56, .iconst 1, 1), (57, .iload_n 2, 1), (58, .ishl, 1), (59, .iconst (-1), 1), (60, .ixor, 1), (61, .iand, 1), (62, .invokevirtual 205, 3), (65, .iconst 1, 1), (66, .ireturn, 1)]
theorem dt_X9_drop : dOk cX9_drop tb_X9_drop = true := by decide +kernel
def fX9_drop (h : Hp) (x1 : Int32) (x2 : Int32) : Option (Int32 × Hp) := bnd (fX9_isMember h x1) (fun v_1 h_2 => if v_1 = 0 then (some ((0 : Int32), h_2)) else (bnd (fX9_isClaim h_2 x2) (fun v_4 h_5 => if v_4 = 0 then (some ((0 : Int32), h_5)) else (bnd (fX8_holdsClaim 72 h_5 x1 x2) (fun v_7 h_8 => if v_7 = 0 then (some ((0 : Int32), h_8)) else ((fX4_record 72 h_8 x1 (-1 : Int32)).bind (fun h_11 => bnd (fX8_holdsOf 72 h_11 x1) (fun v_12 h_13 => (fX8_setHolds 72 h_13 x1 (v_12 &&& (((1 : Int32) <<< (x2 &&& 31)) ^^^ (-1 : Int32)))).bind (fun h_15 => some ((1 : Int32), h_15))))))))))
set_option maxRecDepth 100000 in
set_option maxHeartbeats 4000000 in
theorem c_X9_drop {l : Launch} {sb : State} {D : va_G} {ids : Nat → ClassId} {n : Nat} (hN : 152 ≤ n) (h : Hp) (x1 : Int32) (x2 : Int32) (r : Int32 × Hp) (hr : fX9_drop h x1 x2 = some r) : jM l yX9_drop cX9_drop 3 (some .boolean) 2 sb D ids shp St n [.ref 0, .int x1, .int x2] h (jQi sb D ids shp St n r) := by
  refine jM_of hr rfl (Nat.le_of_ble_eq_true rfl) ?_
  intro p e s m args below meth c hC hret
  unfold fX9_drop
  refine j_aload_n hC 0 rfl rfl (dOk_at dt_X9_drop 0 rfl) ?_
  refine j_iload_n hC 1 rfl rfl (dOk_at dt_X9_drop 1 rfl) ?_
  refine j_callVi hC clX9_168 (fun rz hrz => c_X9_isMember hN _ _ rz hrz) (show shp 0 = (9, 12) from rfl) (Nat.lt_of_lt_of_le (Nat.le_of_ble_eq_true rfl : 0 < 152) hN) (by decide) rfl rfl ⟨Nat.le_of_ble_eq_true rfl, Nat.le_of_ble_eq_true rfl⟩ ⟨Nat.le_refl 0, Nat.le_refl 0⟩ (As := [.int x1]) (st := []) rfl (Nat.le_of_ble_eq_true rfl) (dOk_at dt_X9_drop 2 rfl) (fun v_1 h_2 _ => ?_)
  refine j_if_eq hC (tgt := 28) (by decide) (dOk_at dt_X9_drop 3 rfl) (fun q_3 => ?_) (fun q_3 => ?_)
  · refine j_iconst hC (v := (0 : Int32)) rfl (dOk_at dt_X9_drop 14 rfl) ?_
    exact j_zretK hC hret rfl (dOk_at dt_X9_drop 15 rfl)
  · refine j_aload_n hC 0 rfl rfl (dOk_at dt_X9_drop 4 rfl) ?_
    refine j_iload_n hC 2 rfl rfl (dOk_at dt_X9_drop 5 rfl) ?_
    refine j_callVi hC clX9_128 (fun rz hrz => c_X9_isClaim hN _ _ rz hrz) (show shp 0 = (9, 12) from rfl) (Nat.lt_of_lt_of_le (Nat.le_of_ble_eq_true rfl : 0 < 152) hN) (by decide) rfl rfl ⟨Nat.le_of_ble_eq_true rfl, Nat.le_of_ble_eq_true rfl⟩ ⟨Nat.le_refl 0, Nat.le_refl 0⟩ (As := [.int x2]) (st := []) rfl (Nat.le_of_ble_eq_true rfl) (dOk_at dt_X9_drop 6 rfl) (fun v_4 h_5 _ => ?_)
    refine j_if_eq hC (tgt := 28) (by decide) (dOk_at dt_X9_drop 7 rfl) (fun q_6 => ?_) (fun q_6 => ?_)
    · refine j_iconst hC (v := (0 : Int32)) rfl (dOk_at dt_X9_drop 14 rfl) ?_
      exact j_zretK hC hret rfl (dOk_at dt_X9_drop 15 rfl)
    · refine j_aload_n hC 0 rfl rfl (dOk_at dt_X9_drop 8 rfl) ?_
      refine j_getR hC flX9_38 (show shp 0 = (9, 12) from rfl) (Nat.lt_of_lt_of_le (Nat.le_of_ble_eq_true rfl : 0 < 152) hN) (by decide) (by decide) (fun _ _ _ => rfl) (fun hs => hs 0 5 72 rfl) (dOk_at dt_X9_drop 9 rfl) ?_
      refine j_iload_n hC 1 rfl rfl (dOk_at dt_X9_drop 10 rfl) ?_
      refine j_iload_n hC 2 rfl rfl (dOk_at dt_X9_drop 11 rfl) ?_
      refine j_callVi hC clX9_202 (fun rz hrz => c_X8_holdsClaim hN ((show shp 72 = (8, 15) from rfl)) _ _ _ rz hrz) (show shp 72 = (8, 15) from rfl) (Nat.lt_of_lt_of_le (Nat.le_of_ble_eq_true rfl : 72 < 152) hN) (by decide) rfl rfl ⟨Nat.le_of_ble_eq_true rfl, Nat.le_of_ble_eq_true rfl⟩ ⟨Nat.le_refl 0, Nat.le_refl 0⟩ (As := [.int x1, .int x2]) (st := []) rfl (Nat.le_of_ble_eq_true rfl) (dOk_at dt_X9_drop 12 rfl) (fun v_7 h_8 _ => ?_)
      refine j_if_ne hC (tgt := 30) (by decide) (dOk_at dt_X9_drop 13 rfl) (fun q_9 => ?_) (fun q_9 => ?_)
      · refine j_aload_n hC 0 rfl rfl (dOk_at dt_X9_drop 16 rfl) ?_
        refine j_getR hC flX9_55 (show shp 0 = (9, 12) from rfl) (Nat.lt_of_lt_of_le (Nat.le_of_ble_eq_true rfl : 0 < 152) hN) (by decide) (by decide) (fun _ _ _ => rfl) (fun hs => hs 0 9 90 rfl) (dOk_at dt_X9_drop 17 rfl) ?_
        refine j_aload_n hC 0 rfl rfl (dOk_at dt_X9_drop 18 rfl) ?_
        refine j_getR hC flX9_38 (show shp 0 = (9, 12) from rfl) (Nat.lt_of_lt_of_le (Nat.le_of_ble_eq_true rfl : 0 < 152) hN) (by decide) (by decide) (fun _ _ _ => rfl) (fun hs => hs 0 5 72 rfl) (dOk_at dt_X9_drop 19 rfl) ?_
        refine j_iload_n hC 1 rfl rfl (dOk_at dt_X9_drop 20 rfl) ?_
        refine j_iconst hC (v := (-1 : Int32)) rfl (dOk_at dt_X9_drop 21 rfl) ?_
        refine j_callVv hC clX9_194 (fun rz hrz => c_X4_record hN ((show shp 72 = (8, 15) from rfl)) _ _ _ rz hrz) (show shp 90 = (4, 8) from rfl) (Nat.lt_of_lt_of_le (Nat.le_of_ble_eq_true rfl : 90 < 152) hN) (by decide) rfl rfl ⟨Nat.le_of_ble_eq_true rfl, Nat.le_of_ble_eq_true rfl⟩ ⟨Nat.le_refl 0, Nat.le_refl 0⟩ (As := [.ref 72, .int x1, .int (-1 : Int32)]) (st := []) rfl (Nat.le_of_ble_eq_true rfl) (dOk_at dt_X9_drop 22 rfl) (fun h_11 _ => ?_)
        refine j_aload_n hC 0 rfl rfl (dOk_at dt_X9_drop 23 rfl) ?_
        refine j_getR hC flX9_38 (show shp 0 = (9, 12) from rfl) (Nat.lt_of_lt_of_le (Nat.le_of_ble_eq_true rfl : 0 < 152) hN) (by decide) (by decide) (fun _ _ _ => rfl) (fun hs => hs 0 5 72 rfl) (dOk_at dt_X9_drop 24 rfl) ?_
        refine j_iload_n hC 1 rfl rfl (dOk_at dt_X9_drop 25 rfl) ?_
        refine j_aload_n hC 0 rfl rfl (dOk_at dt_X9_drop 26 rfl) ?_
        refine j_getR hC flX9_38 (show shp 0 = (9, 12) from rfl) (Nat.lt_of_lt_of_le (Nat.le_of_ble_eq_true rfl : 0 < 152) hN) (by decide) (by decide) (fun _ _ _ => rfl) (fun hs => hs 0 5 72 rfl) (dOk_at dt_X9_drop 27 rfl) ?_
        refine j_iload_n hC 1 rfl rfl (dOk_at dt_X9_drop 28 rfl) ?_
        refine j_callVi hC clX9_171 (fun rz hrz => c_X8_holdsOf hN ((show shp 72 = (8, 15) from rfl)) _ _ rz hrz) (show shp 72 = (8, 15) from rfl) (Nat.lt_of_lt_of_le (Nat.le_of_ble_eq_true rfl : 72 < 152) hN) (by decide) rfl rfl ⟨Nat.le_of_ble_eq_true rfl, Nat.le_of_ble_eq_true rfl⟩ ⟨Nat.le_refl 0, Nat.le_refl 0⟩ (As := [.int x1]) (st := [.int x1, .ref 72]) rfl (Nat.le_of_ble_eq_true rfl) (dOk_at dt_X9_drop 29 rfl) (fun v_12 h_13 _ => ?_)
        refine j_iconst hC (v := (1 : Int32)) rfl (dOk_at dt_X9_drop 30 rfl) ?_
        refine j_iload_n hC 2 rfl rfl (dOk_at dt_X9_drop 31 rfl) ?_
        refine j_ishl hC (dOk_at dt_X9_drop 32 rfl) ?_
        refine j_iconst hC (v := (-1 : Int32)) rfl (dOk_at dt_X9_drop 33 rfl) ?_
        refine j_ixor hC (dOk_at dt_X9_drop 34 rfl) ?_
        refine j_iand hC (dOk_at dt_X9_drop 35 rfl) ?_
        refine j_callVv hC clX9_205 (fun rz hrz => c_X8_setHolds hN ((show shp 72 = (8, 15) from rfl)) _ _ _ rz hrz) (show shp 72 = (8, 15) from rfl) (Nat.lt_of_lt_of_le (Nat.le_of_ble_eq_true rfl : 72 < 152) hN) (by decide) rfl rfl ⟨Nat.le_of_ble_eq_true rfl, Nat.le_of_ble_eq_true rfl⟩ ⟨Nat.le_refl 0, Nat.le_refl 0⟩ (As := [.int x1, .int (v_12 &&& (((1 : Int32) <<< (x2 &&& 31)) ^^^ (-1 : Int32)))]) (st := []) rfl (Nat.le_of_ble_eq_true rfl) (dOk_at dt_X9_drop 36 rfl) (fun h_15 _ => ?_)
        refine j_iconst hC (v := (1 : Int32)) rfl (dOk_at dt_X9_drop 37 rfl) ?_
        exact j_zretK hC hret rfl (dOk_at dt_X9_drop 38 rfl)
      · refine j_iconst hC (v := (0 : Int32)) rfl (dOk_at dt_X9_drop 14 rfl) ?_
        exact j_zretK hC hret rfl (dOk_at dt_X9_drop 15 rfl)
def tb_X9_go : List (Nat × Instr × Nat) := [(0, .iload_n 1, 1), (1, .ifCond .lt 25, 3), (4, .iload_n 1, 1), (5, .sipush 200, 3), (8, .if_icmp .gt 18, 3), (11, .aload_n 0, 1), (12, .getfield 38, 3), (15, .getfield 213, 3), (18, .iload_n 1, 1), (19, .iadd, 1), (20, .sipush 9000, 3), (23, .if_icmp .le 5, 3), (26, .iconst (-1), 1), (27, .ireturn, 1), (28, .iload_n 1, 1), (29, .ifCond .le 10, 3), (32, .aload_n 0, 1), (33, .getfield 55, 3), (36, .invokevirtual 99, 3), (39, .aload_n 0, 1), (40, .getfield 38, 3), (43, .iload_n 1, 1), (44, .invokevirtual 216, 3), (47, .aload_n 0, 1), (48, .getfield 38, 3), (51, .getfield 213, 3), (54, .ireturn, 1)]
theorem dt_X9_go : dOk cX9_go tb_X9_go = true := by decide +kernel
def fX9_go_39 (h : Hp) (x1 : Int32) : Option (Int32 × Hp) := (fX8_passNights 72 h x1).bind (fun h_8 => some ((hI h_8 72 1), h_8))
def fX9_go (h : Hp) (x1 : Int32) : Option (Int32 × Hp) := if x1 < 0 then (some ((-1 : Int32), h)) else (if (200 : Int32) < x1 then (some ((-1 : Int32), h)) else (if ((hI h 72 1) + x1) ≤ (9000 : Int32) then (if x1 ≤ 0 then (fX9_go_39 h x1) else ((fX4_clear h).bind (fun h_6 => fX9_go_39 h_6 x1))) else (some ((-1 : Int32), h))))
set_option maxRecDepth 100000 in
set_option maxHeartbeats 4000000 in
theorem c_X9_go {l : Launch} {sb : State} {D : va_G} {ids : Nat → ClassId} {n : Nat} (hN : 152 ≤ n) (h : Hp) (x1 : Int32) (r : Int32 × Hp) (hr : fX9_go h x1 = some r) : jM l yX9_go cX9_go 2 (some .int) 7 sb D ids shp St n [.ref 0, .int x1] h (jQi sb D ids shp St n r) := by
  refine jM_of hr rfl (Nat.le_of_ble_eq_true rfl) ?_
  intro p e s m args below meth c hC hret
  have b39 : ∀ (h : Hp) (x1 : Int32) , jJ p l e (rmD 7) s m args below meth c 2 sb D ids shp St (fun r => MQ below (jQi sb D ids shp St n r) args s 0 0 (jA sb)) n 0 0 h 39 [(0, .ref 0), (1, .int x1)] [] (fX9_go_39 h x1) := by
    intro h x1 
    unfold fX9_go_39
    refine j_aload_n hC 0 rfl rfl (dOk_at dt_X9_go 19 rfl) ?_
    refine j_getR hC flX9_38 (show shp 0 = (9, 12) from rfl) (Nat.lt_of_lt_of_le (Nat.le_of_ble_eq_true rfl : 0 < 152) hN) (by decide) (by decide) (fun _ _ _ => rfl) (fun hs => hs 0 5 72 rfl) (dOk_at dt_X9_go 20 rfl) ?_
    refine j_iload_n hC 1 rfl rfl (dOk_at dt_X9_go 21 rfl) ?_
    refine j_callVv hC clX9_216 (fun rz hrz => c_X8_passNights hN ((show shp 72 = (8, 15) from rfl)) _ _ rz hrz) (show shp 72 = (8, 15) from rfl) (Nat.lt_of_lt_of_le (Nat.le_of_ble_eq_true rfl : 72 < 152) hN) (by decide) rfl rfl ⟨Nat.le_of_ble_eq_true rfl, Nat.le_of_ble_eq_true rfl⟩ ⟨Nat.le_refl 0, Nat.le_refl 0⟩ (As := [.int x1]) (st := []) rfl (Nat.le_of_ble_eq_true rfl) (dOk_at dt_X9_go 22 rfl) (fun h_8 _ => ?_)
    refine j_aload_n hC 0 rfl rfl (dOk_at dt_X9_go 23 rfl) ?_
    refine j_getR hC flX9_38 (show shp 0 = (9, 12) from rfl) (Nat.lt_of_lt_of_le (Nat.le_of_ble_eq_true rfl : 0 < 152) hN) (by decide) (by decide) (fun _ _ _ => rfl) (fun hs => hs 0 5 72 rfl) (dOk_at dt_X9_go 24 rfl) ?_
    refine j_getI hC flX9_213 (show shp 72 = (8, 15) from rfl) (Nat.lt_of_lt_of_le (Nat.le_of_ble_eq_true rfl : 72 < 152) hN) (by decide) (by decide) (fun _ _ _ => rfl) (dOk_at dt_X9_go 25 rfl) ?_
    exact j_iret hC hret (dOk_at dt_X9_go 26 rfl)
  unfold fX9_go
  refine j_iload_n hC 1 rfl rfl (dOk_at dt_X9_go 0 rfl) ?_
  refine j_if_lt hC (tgt := 26) (by decide) (dOk_at dt_X9_go 1 rfl) (fun q_1 => ?_) (fun q_1 => ?_)
  · refine j_iconst hC (v := (-1 : Int32)) rfl (dOk_at dt_X9_go 12 rfl) ?_
    exact j_iret hC hret (dOk_at dt_X9_go 13 rfl)
  · refine j_iload_n hC 1 rfl rfl (dOk_at dt_X9_go 2 rfl) ?_
    refine j_sipush hC (v := (200 : Int32)) rfl (dOk_at dt_X9_go 3 rfl) ?_
    refine j_icmp_gt hC (tgt := 26) (by decide) (dOk_at dt_X9_go 4 rfl) (fun q_2 => ?_) (fun q_2 => ?_)
    · refine j_iconst hC (v := (-1 : Int32)) rfl (dOk_at dt_X9_go 12 rfl) ?_
      exact j_iret hC hret (dOk_at dt_X9_go 13 rfl)
    · refine j_aload_n hC 0 rfl rfl (dOk_at dt_X9_go 5 rfl) ?_
      refine j_getR hC flX9_38 (show shp 0 = (9, 12) from rfl) (Nat.lt_of_lt_of_le (Nat.le_of_ble_eq_true rfl : 0 < 152) hN) (by decide) (by decide) (fun _ _ _ => rfl) (fun hs => hs 0 5 72 rfl) (dOk_at dt_X9_go 6 rfl) ?_
      refine j_getI hC flX9_213 (show shp 72 = (8, 15) from rfl) (Nat.lt_of_lt_of_le (Nat.le_of_ble_eq_true rfl : 72 < 152) hN) (by decide) (by decide) (fun _ _ _ => rfl) (dOk_at dt_X9_go 7 rfl) ?_
      refine j_iload_n hC 1 rfl rfl (dOk_at dt_X9_go 8 rfl) ?_
      refine j_iadd hC (dOk_at dt_X9_go 9 rfl) ?_
      refine j_sipush hC (v := (9000 : Int32)) rfl (dOk_at dt_X9_go 10 rfl) ?_
      refine j_icmp_le hC (tgt := 28) (by decide) (dOk_at dt_X9_go 11 rfl) (fun q_3 => ?_) (fun q_3 => ?_)
      · refine j_iload_n hC 1 rfl rfl (dOk_at dt_X9_go 14 rfl) ?_
        refine j_if_le hC (tgt := 39) (by decide) (dOk_at dt_X9_go 15 rfl) (fun q_4 => ?_) (fun q_4 => ?_)
        · exact b39 h x1 
        · refine j_aload_n hC 0 rfl rfl (dOk_at dt_X9_go 16 rfl) ?_
          refine j_getR hC flX9_55 (show shp 0 = (9, 12) from rfl) (Nat.lt_of_lt_of_le (Nat.le_of_ble_eq_true rfl : 0 < 152) hN) (by decide) (by decide) (fun _ _ _ => rfl) (fun hs => hs 0 9 90 rfl) (dOk_at dt_X9_go 17 rfl) ?_
          refine j_callVv hC clX9_99 (fun rz hrz => c_X4_clear hN _ rz hrz) (show shp 90 = (4, 8) from rfl) (Nat.lt_of_lt_of_le (Nat.le_of_ble_eq_true rfl : 90 < 152) hN) (by decide) rfl rfl ⟨Nat.le_of_ble_eq_true rfl, Nat.le_of_ble_eq_true rfl⟩ ⟨Nat.le_refl 0, Nat.le_refl 0⟩ (As := []) (st := []) rfl (Nat.le_of_ble_eq_true rfl) (dOk_at dt_X9_go 18 rfl) (fun h_6 _ => ?_)
          exact b39 h_6 x1 
      · refine j_iconst hC (v := (-1 : Int32)) rfl (dOk_at dt_X9_go 12 rfl) ?_
        exact j_iret hC hret (dOk_at dt_X9_go 13 rfl)
def tb_X9_startTrial : List (Nat × Instr × Nat) := [(0, .aload_n 0, 1), (1, .getfield 45, 3), (4, .aload_n 0, 1), (5, .getfield 38, 3), (8, .invokevirtual 329, 3), (11, .aload_n 0, 1), (12, .getfield 45, 3), (15, .iconst 0, 1), (16, .putfield 361, 3), (19, .return_, 1)]
theorem dt_X9_startTrial : dOk cX9_startTrial tb_X9_startTrial = true := by decide +kernel
def fX9_startTrial (h : Hp) : Option (Hp) := (fX8_copyFrom 84 72 h).bind (fun h_2 => some (uI h_2 84 10 (0 : Int32)))
set_option maxRecDepth 100000 in
set_option maxHeartbeats 4000000 in
theorem c_X9_startTrial {l : Launch} {sb : State} {D : va_G} {ids : Nat → ClassId} {n : Nat} (hN : 152 ≤ n) (h : Hp) (r : Hp) (hr : fX9_startTrial h = some r) : jM l yX9_startTrial cX9_startTrial 1 none 2 sb D ids shp St n [.ref 0] h (jQv sb D ids shp St n r) := by
  refine jM_of hr rfl (Nat.le_of_ble_eq_true rfl) ?_
  intro p e s m args below meth c hC hret
  unfold fX9_startTrial
  refine j_aload_n hC 0 rfl rfl (dOk_at dt_X9_startTrial 0 rfl) ?_
  refine j_getR hC flX9_45 (show shp 0 = (9, 12) from rfl) (Nat.lt_of_lt_of_le (Nat.le_of_ble_eq_true rfl : 0 < 152) hN) (by decide) (by decide) (fun _ _ _ => rfl) (fun hs => hs 0 7 84 rfl) (dOk_at dt_X9_startTrial 1 rfl) ?_
  refine j_aload_n hC 0 rfl rfl (dOk_at dt_X9_startTrial 2 rfl) ?_
  refine j_getR hC flX9_38 (show shp 0 = (9, 12) from rfl) (Nat.lt_of_lt_of_le (Nat.le_of_ble_eq_true rfl : 0 < 152) hN) (by decide) (by decide) (fun _ _ _ => rfl) (fun hs => hs 0 5 72 rfl) (dOk_at dt_X9_startTrial 3 rfl) ?_
  refine j_callVv hC clX9_329 (fun rz hrz => c_X8_copyFrom hN ((show shp 84 = (8, 15) from rfl)) ((show shp 72 = (8, 15) from rfl)) _ rz hrz) (show shp 84 = (8, 15) from rfl) (Nat.lt_of_lt_of_le (Nat.le_of_ble_eq_true rfl : 84 < 152) hN) (by decide) rfl rfl ⟨Nat.le_of_ble_eq_true rfl, Nat.le_of_ble_eq_true rfl⟩ ⟨Nat.le_refl 0, Nat.le_refl 0⟩ (As := [.ref 72]) (st := []) rfl (Nat.le_of_ble_eq_true rfl) (dOk_at dt_X9_startTrial 4 rfl) (fun h_2 _ => ?_)
  refine j_aload_n hC 0 rfl rfl (dOk_at dt_X9_startTrial 5 rfl) ?_
  refine j_getR hC flX9_45 (show shp 0 = (9, 12) from rfl) (Nat.lt_of_lt_of_le (Nat.le_of_ble_eq_true rfl : 0 < 152) hN) (by decide) (by decide) (fun _ _ _ => rfl) (fun hs => hs 0 7 84 rfl) (dOk_at dt_X9_startTrial 6 rfl) ?_
  refine j_iconst hC (v := (0 : Int32)) rfl (dOk_at dt_X9_startTrial 7 rfl) ?_
  refine j_putZ hC St_SP flX9_361 (show shp 84 = (8, 15) from rfl) (Nat.lt_of_lt_of_le (Nat.le_of_ble_eq_true rfl : 84 < 152) hN) (by decide) (by decide) rfl rfl rfl (dOk_at dt_X9_startTrial 8 rfl) ?_
  exact j_vret hC hret (dOk_at dt_X9_startTrial 9 rfl)
def tb_X9_ahead : List (Nat × Instr × Nat) := [(0, .iload_n 1, 1), (1, .ifCond .lt 32, 3), (4, .iload_n 1, 1), (5, .sipush 200, 3), (8, .if_icmp .gt 25, 3), (11, .iload_n 2, 1), (12, .ifCond .lt 21, 3), (15, .iload_n 2, 1), (16, .iconst 4, 1), (17, .if_icmp .gt 16, 3), (20, .iload_n 2, 1), (21, .iconst 2, 1), (22, .if_icmp .ne 13, 3), (25, .aload_n 0, 1), (26, .iload_n 3, 1), (27, .invokevirtual 156, 3), (30, .ifCond .ne 5, 3), (33, .iconst (-1), 1), (34, .ireturn, 1), (35, .aload_n 0, 1), (36, .invokevirtual 219, 3), (39, .aload_n 0, 1), (40, .getfield 45, 3), (43, .iload_n 1, 1), (44, .invokevirtual 216, 3), (47, .iload_n 2, 1), (48, .tableswitch 84 0 3 #[32, 48, 64, 73], 32), (80, .aload_n 0, 1), (81, .getfield 45, 3), (84, .invokevirtual 222, 3), (87, .aload_n 0, 1), (88, .getfield 38, 3), (91, .invokevirtual 222, 3), (94, .isub, 1), (95, .ireturn, 1), (96, .aload_n 0, 1), (97, .getfield 45, 3), (100, .invokevirtual 226, 3), (103, .aload_n 0, 1), (104, .getfield 38, 3), (107, .invokevirtual 226, 3), (110, .isub, 1), (111, .ireturn, 1), (112, .aload_n 0, 1), (113, .getfield 45, 3), (116, .iload_n 3, 1), (117, .invokevirtual 162, 3), (120, .ireturn, 1), (121, .aload_n 0, 1), (122, .getfield 45, 3), (125, .getfield 229, 3), (128, .invokestatic 208, 3), (131, .ireturn, 1), (132, .aload_n 0, 1), (133, .getfield 45, 3), (136, .getfield 232, 3), (139, .aload_n 0, 1), (140, .getfield 38, 3), (143, .getfield 232, 3), (146, .isub, 1), (147, .ireturn, 1)]
theorem dt_X9_ahead : dOk cX9_ahead tb_X9_ahead = true := by decide +kernel
def fX9_ahead_35 (h : Hp) (x1 : Int32) (x2 : Int32) (x3 : Int32) : Option (Int32 × Hp) := (fX9_startTrial h).bind (fun h_10 => (fX8_passNights 84 h_10 x1).bind (fun h_12 => if inT x2 0 3 then (if x2 = (0 : Int32) then (bnd (fX8_wonByAll 84 h_12) (fun v_14 h_15 => bnd (fX8_wonByAll 72 h_15) (fun v_16 h_17 => some ((v_14 - v_16), h_17)))) else (if x2 = (1 : Int32) then (bnd (fX8_beatenByAll 84 h_12) (fun v_19 h_20 => bnd (fX8_beatenByAll 72 h_20) (fun v_21 h_22 => some ((v_19 - v_21), h_22)))) else (if x2 = (2 : Int32) then (bnd (fX8_fullOf 84 h_12 x3) (fun v_24 h_25 => some (v_24, h_25))) else (if x2 = (3 : Int32) then (bnd (fJ6_bitCount_0f7a4 h_12 (hI h_12 84 2)) (fun v_27 h_28 => some (v_27, h_28))) else none)))) else (some (((hI h_12 84 3) - (hI h_12 72 3)), h_12))))
def fX9_ahead (h : Hp) (x1 : Int32) (x2 : Int32) (x3 : Int32) : Option (Int32 × Hp) := if x1 < 0 then (some ((-1 : Int32), h)) else (if (200 : Int32) < x1 then (some ((-1 : Int32), h)) else (if x2 < 0 then (some ((-1 : Int32), h)) else (if (4 : Int32) < x2 then (some ((-1 : Int32), h)) else (if x2 = (2 : Int32) then (bnd (fX9_isStraw h x3) (fun v_6 h_7 => if v_6 = 0 then (some ((-1 : Int32), h_7)) else (fX9_ahead_35 h_7 x1 x2 x3))) else (fX9_ahead_35 h x1 x2 x3)))))
set_option maxRecDepth 100000 in
set_option maxHeartbeats 4000000 in
theorem c_X9_ahead {l : Launch} {sb : State} {D : va_G} {ids : Nat → ClassId} {n : Nat} (hN : 152 ≤ n) (h : Hp) (x1 : Int32) (x2 : Int32) (x3 : Int32) (r : Int32 × Hp) (hr : fX9_ahead h x1 x2 x3 = some r) : jM l yX9_ahead cX9_ahead 4 (some .int) 7 sb D ids shp St n [.ref 0, .int x1, .int x2, .int x3] h (jQi sb D ids shp St n r) := by
  refine jM_of hr rfl (Nat.le_of_ble_eq_true rfl) ?_
  intro p e s m args below meth c hC hret
  have b35 : ∀ (h : Hp) (x1 : Int32) (x2 : Int32) (x3 : Int32) , jJ p l e (rmD 7) s m args below meth c 4 sb D ids shp St (fun r => MQ below (jQi sb D ids shp St n r) args s 0 0 (jA sb)) n 0 0 h 35 [(0, .ref 0), (1, .int x1), (2, .int x2), (3, .int x3)] [] (fX9_ahead_35 h x1 x2 x3) := by
    intro h x1 x2 x3 
    unfold fX9_ahead_35
    refine j_aload_n hC 0 rfl rfl (dOk_at dt_X9_ahead 19 rfl) ?_
    refine j_callVv hC clX9_219 (fun rz hrz => c_X9_startTrial hN _ rz hrz) (show shp 0 = (9, 12) from rfl) (Nat.lt_of_lt_of_le (Nat.le_of_ble_eq_true rfl : 0 < 152) hN) (by decide) rfl rfl ⟨Nat.le_of_ble_eq_true rfl, Nat.le_of_ble_eq_true rfl⟩ ⟨Nat.le_refl 0, Nat.le_refl 0⟩ (As := []) (st := []) rfl (Nat.le_of_ble_eq_true rfl) (dOk_at dt_X9_ahead 20 rfl) (fun h_10 _ => ?_)
    refine j_aload_n hC 0 rfl rfl (dOk_at dt_X9_ahead 21 rfl) ?_
    refine j_getR hC flX9_45 (show shp 0 = (9, 12) from rfl) (Nat.lt_of_lt_of_le (Nat.le_of_ble_eq_true rfl : 0 < 152) hN) (by decide) (by decide) (fun _ _ _ => rfl) (fun hs => hs 0 7 84 rfl) (dOk_at dt_X9_ahead 22 rfl) ?_
    refine j_iload_n hC 1 rfl rfl (dOk_at dt_X9_ahead 23 rfl) ?_
    refine j_callVv hC clX9_216 (fun rz hrz => c_X8_passNights hN ((show shp 84 = (8, 15) from rfl)) _ _ rz hrz) (show shp 84 = (8, 15) from rfl) (Nat.lt_of_lt_of_le (Nat.le_of_ble_eq_true rfl : 84 < 152) hN) (by decide) rfl rfl ⟨Nat.le_of_ble_eq_true rfl, Nat.le_of_ble_eq_true rfl⟩ ⟨Nat.le_refl 0, Nat.le_refl 0⟩ (As := [.int x1]) (st := []) rfl (Nat.le_of_ble_eq_true rfl) (dOk_at dt_X9_ahead 24 rfl) (fun h_12 _ => ?_)
    refine j_iload_n hC 2 rfl rfl (dOk_at dt_X9_ahead 25 rfl) ?_
    refine j_ite (P := inT x2 0 3 = true) (fun _ => ?_) (fun q => ?_)
    · refine j_ite (P := x2 = (0 : Int32)) (fun q_13 => ?_) (fun _ => ?_)
      · refine j_tswIn hC (tgt := 80) q_13 (by decide) (by decide) rfl (by decide) (dOk_at dt_X9_ahead 26 rfl) ?_
        refine j_aload_n hC 0 rfl rfl (dOk_at dt_X9_ahead 27 rfl) ?_
        refine j_getR hC flX9_45 (show shp 0 = (9, 12) from rfl) (Nat.lt_of_lt_of_le (Nat.le_of_ble_eq_true rfl : 0 < 152) hN) (by decide) (by decide) (fun _ _ _ => rfl) (fun hs => hs 0 7 84 rfl) (dOk_at dt_X9_ahead 28 rfl) ?_
        refine j_callVi hC clX9_222 (fun rz hrz => c_X8_wonByAll hN ((show shp 84 = (8, 15) from rfl)) _ rz hrz) (show shp 84 = (8, 15) from rfl) (Nat.lt_of_lt_of_le (Nat.le_of_ble_eq_true rfl : 84 < 152) hN) (by decide) rfl rfl ⟨Nat.le_of_ble_eq_true rfl, Nat.le_of_ble_eq_true rfl⟩ ⟨Nat.le_refl 0, Nat.le_refl 0⟩ (As := []) (st := []) rfl (Nat.le_of_ble_eq_true rfl) (dOk_at dt_X9_ahead 29 rfl) (fun v_14 h_15 _ => ?_)
        refine j_aload_n hC 0 rfl rfl (dOk_at dt_X9_ahead 30 rfl) ?_
        refine j_getR hC flX9_38 (show shp 0 = (9, 12) from rfl) (Nat.lt_of_lt_of_le (Nat.le_of_ble_eq_true rfl : 0 < 152) hN) (by decide) (by decide) (fun _ _ _ => rfl) (fun hs => hs 0 5 72 rfl) (dOk_at dt_X9_ahead 31 rfl) ?_
        refine j_callVi hC clX9_222 (fun rz hrz => c_X8_wonByAll hN ((show shp 72 = (8, 15) from rfl)) _ rz hrz) (show shp 72 = (8, 15) from rfl) (Nat.lt_of_lt_of_le (Nat.le_of_ble_eq_true rfl : 72 < 152) hN) (by decide) rfl rfl ⟨Nat.le_of_ble_eq_true rfl, Nat.le_of_ble_eq_true rfl⟩ ⟨Nat.le_refl 0, Nat.le_refl 0⟩ (As := []) (st := [.int v_14]) rfl (Nat.le_of_ble_eq_true rfl) (dOk_at dt_X9_ahead 32 rfl) (fun v_16 h_17 _ => ?_)
        refine j_isub hC (dOk_at dt_X9_ahead 33 rfl) ?_
        exact j_iret hC hret (dOk_at dt_X9_ahead 34 rfl)
      refine j_ite (P := x2 = (1 : Int32)) (fun q_18 => ?_) (fun _ => ?_)
      · refine j_tswIn hC (tgt := 96) q_18 (by decide) (by decide) rfl (by decide) (dOk_at dt_X9_ahead 26 rfl) ?_
        refine j_aload_n hC 0 rfl rfl (dOk_at dt_X9_ahead 35 rfl) ?_
        refine j_getR hC flX9_45 (show shp 0 = (9, 12) from rfl) (Nat.lt_of_lt_of_le (Nat.le_of_ble_eq_true rfl : 0 < 152) hN) (by decide) (by decide) (fun _ _ _ => rfl) (fun hs => hs 0 7 84 rfl) (dOk_at dt_X9_ahead 36 rfl) ?_
        refine j_callVi hC clX9_226 (fun rz hrz => c_X8_beatenByAll hN ((show shp 84 = (8, 15) from rfl)) _ rz hrz) (show shp 84 = (8, 15) from rfl) (Nat.lt_of_lt_of_le (Nat.le_of_ble_eq_true rfl : 84 < 152) hN) (by decide) rfl rfl ⟨Nat.le_of_ble_eq_true rfl, Nat.le_of_ble_eq_true rfl⟩ ⟨Nat.le_refl 0, Nat.le_refl 0⟩ (As := []) (st := []) rfl (Nat.le_of_ble_eq_true rfl) (dOk_at dt_X9_ahead 37 rfl) (fun v_19 h_20 _ => ?_)
        refine j_aload_n hC 0 rfl rfl (dOk_at dt_X9_ahead 38 rfl) ?_
        refine j_getR hC flX9_38 (show shp 0 = (9, 12) from rfl) (Nat.lt_of_lt_of_le (Nat.le_of_ble_eq_true rfl : 0 < 152) hN) (by decide) (by decide) (fun _ _ _ => rfl) (fun hs => hs 0 5 72 rfl) (dOk_at dt_X9_ahead 39 rfl) ?_
        refine j_callVi hC clX9_226 (fun rz hrz => c_X8_beatenByAll hN ((show shp 72 = (8, 15) from rfl)) _ rz hrz) (show shp 72 = (8, 15) from rfl) (Nat.lt_of_lt_of_le (Nat.le_of_ble_eq_true rfl : 72 < 152) hN) (by decide) rfl rfl ⟨Nat.le_of_ble_eq_true rfl, Nat.le_of_ble_eq_true rfl⟩ ⟨Nat.le_refl 0, Nat.le_refl 0⟩ (As := []) (st := [.int v_19]) rfl (Nat.le_of_ble_eq_true rfl) (dOk_at dt_X9_ahead 40 rfl) (fun v_21 h_22 _ => ?_)
        refine j_isub hC (dOk_at dt_X9_ahead 41 rfl) ?_
        exact j_iret hC hret (dOk_at dt_X9_ahead 42 rfl)
      refine j_ite (P := x2 = (2 : Int32)) (fun q_23 => ?_) (fun _ => ?_)
      · refine j_tswIn hC (tgt := 112) q_23 (by decide) (by decide) rfl (by decide) (dOk_at dt_X9_ahead 26 rfl) ?_
        refine j_aload_n hC 0 rfl rfl (dOk_at dt_X9_ahead 43 rfl) ?_
        refine j_getR hC flX9_45 (show shp 0 = (9, 12) from rfl) (Nat.lt_of_lt_of_le (Nat.le_of_ble_eq_true rfl : 0 < 152) hN) (by decide) (by decide) (fun _ _ _ => rfl) (fun hs => hs 0 7 84 rfl) (dOk_at dt_X9_ahead 44 rfl) ?_
        refine j_iload_n hC 3 rfl rfl (dOk_at dt_X9_ahead 45 rfl) ?_
        refine j_callVi hC clX9_162 (fun rz hrz => c_X8_fullOf hN ((show shp 84 = (8, 15) from rfl)) _ _ rz hrz) (show shp 84 = (8, 15) from rfl) (Nat.lt_of_lt_of_le (Nat.le_of_ble_eq_true rfl : 84 < 152) hN) (by decide) rfl rfl ⟨Nat.le_of_ble_eq_true rfl, Nat.le_of_ble_eq_true rfl⟩ ⟨Nat.le_refl 0, Nat.le_refl 0⟩ (As := [.int x3]) (st := []) rfl (Nat.le_of_ble_eq_true rfl) (dOk_at dt_X9_ahead 46 rfl) (fun v_24 h_25 _ => ?_)
        exact j_iret hC hret (dOk_at dt_X9_ahead 47 rfl)
      refine j_ite (P := x2 = (3 : Int32)) (fun q_26 => ?_) (fun _ => ?_)
      · refine j_tswIn hC (tgt := 121) q_26 (by decide) (by decide) rfl (by decide) (dOk_at dt_X9_ahead 26 rfl) ?_
        refine j_aload_n hC 0 rfl rfl (dOk_at dt_X9_ahead 48 rfl) ?_
        refine j_getR hC flX9_45 (show shp 0 = (9, 12) from rfl) (Nat.lt_of_lt_of_le (Nat.le_of_ble_eq_true rfl : 0 < 152) hN) (by decide) (by decide) (fun _ _ _ => rfl) (fun hs => hs 0 7 84 rfl) (dOk_at dt_X9_ahead 49 rfl) ?_
        refine j_getI hC flX9_229 (show shp 84 = (8, 15) from rfl) (Nat.lt_of_lt_of_le (Nat.le_of_ble_eq_true rfl : 84 < 152) hN) (by decide) (by decide) (fun _ _ _ => rfl) (dOk_at dt_X9_ahead 50 rfl) ?_
        refine j_callSi hC clX9_208 (fun rz hrz => c_J6_bitCount_0f7a4 hN _ _ rz hrz) rfl ⟨Nat.le_of_ble_eq_true rfl, Nat.le_of_ble_eq_true rfl⟩ ⟨Nat.le_refl 0, Nat.le_refl 0⟩ (As := [.int (hI h_12 84 2)]) (st := []) rfl (Nat.le_of_ble_eq_true rfl) (dOk_at dt_X9_ahead 51 rfl) (fun v_27 h_28 _ => ?_)
        exact j_iret hC hret (dOk_at dt_X9_ahead 52 rfl)
      exact j_none
    · refine j_tswOut hC (tgt := 132) q (by decide) (dOk_at dt_X9_ahead 26 rfl) ?_
      refine j_aload_n hC 0 rfl rfl (dOk_at dt_X9_ahead 53 rfl) ?_
      refine j_getR hC flX9_45 (show shp 0 = (9, 12) from rfl) (Nat.lt_of_lt_of_le (Nat.le_of_ble_eq_true rfl : 0 < 152) hN) (by decide) (by decide) (fun _ _ _ => rfl) (fun hs => hs 0 7 84 rfl) (dOk_at dt_X9_ahead 54 rfl) ?_
      refine j_getI hC flX9_232 (show shp 84 = (8, 15) from rfl) (Nat.lt_of_lt_of_le (Nat.le_of_ble_eq_true rfl : 84 < 152) hN) (by decide) (by decide) (fun _ _ _ => rfl) (dOk_at dt_X9_ahead 55 rfl) ?_
      refine j_aload_n hC 0 rfl rfl (dOk_at dt_X9_ahead 56 rfl) ?_
      refine j_getR hC flX9_38 (show shp 0 = (9, 12) from rfl) (Nat.lt_of_lt_of_le (Nat.le_of_ble_eq_true rfl : 0 < 152) hN) (by decide) (by decide) (fun _ _ _ => rfl) (fun hs => hs 0 5 72 rfl) (dOk_at dt_X9_ahead 57 rfl) ?_
      refine j_getI hC flX9_232 (show shp 72 = (8, 15) from rfl) (Nat.lt_of_lt_of_le (Nat.le_of_ble_eq_true rfl : 72 < 152) hN) (by decide) (by decide) (fun _ _ _ => rfl) (dOk_at dt_X9_ahead 58 rfl) ?_
      refine j_isub hC (dOk_at dt_X9_ahead 59 rfl) ?_
      exact j_iret hC hret (dOk_at dt_X9_ahead 60 rfl)
  unfold fX9_ahead
  refine j_iload_n hC 1 rfl rfl (dOk_at dt_X9_ahead 0 rfl) ?_
  refine j_if_lt hC (tgt := 33) (by decide) (dOk_at dt_X9_ahead 1 rfl) (fun q_1 => ?_) (fun q_1 => ?_)
  · refine j_iconst hC (v := (-1 : Int32)) rfl (dOk_at dt_X9_ahead 17 rfl) ?_
    exact j_iret hC hret (dOk_at dt_X9_ahead 18 rfl)
  · refine j_iload_n hC 1 rfl rfl (dOk_at dt_X9_ahead 2 rfl) ?_
    refine j_sipush hC (v := (200 : Int32)) rfl (dOk_at dt_X9_ahead 3 rfl) ?_
    refine j_icmp_gt hC (tgt := 33) (by decide) (dOk_at dt_X9_ahead 4 rfl) (fun q_2 => ?_) (fun q_2 => ?_)
    · refine j_iconst hC (v := (-1 : Int32)) rfl (dOk_at dt_X9_ahead 17 rfl) ?_
      exact j_iret hC hret (dOk_at dt_X9_ahead 18 rfl)
    · refine j_iload_n hC 2 rfl rfl (dOk_at dt_X9_ahead 5 rfl) ?_
      refine j_if_lt hC (tgt := 33) (by decide) (dOk_at dt_X9_ahead 6 rfl) (fun q_3 => ?_) (fun q_3 => ?_)
      · refine j_iconst hC (v := (-1 : Int32)) rfl (dOk_at dt_X9_ahead 17 rfl) ?_
        exact j_iret hC hret (dOk_at dt_X9_ahead 18 rfl)
      · refine j_iload_n hC 2 rfl rfl (dOk_at dt_X9_ahead 7 rfl) ?_
        refine j_iconst hC (v := (4 : Int32)) rfl (dOk_at dt_X9_ahead 8 rfl) ?_
        refine j_icmp_gt hC (tgt := 33) (by decide) (dOk_at dt_X9_ahead 9 rfl) (fun q_4 => ?_) (fun q_4 => ?_)
        · refine j_iconst hC (v := (-1 : Int32)) rfl (dOk_at dt_X9_ahead 17 rfl) ?_
          exact j_iret hC hret (dOk_at dt_X9_ahead 18 rfl)
        · refine j_iload_n hC 2 rfl rfl (dOk_at dt_X9_ahead 10 rfl) ?_
          refine j_iconst hC (v := (2 : Int32)) rfl (dOk_at dt_X9_ahead 11 rfl) ?_
          refine j_icmp_ne hC (tgt := 35) (by decide) (dOk_at dt_X9_ahead 12 rfl) (fun q_5 => ?_) (fun q_5 => ?_)
          · exact b35 h x1 x2 x3 
          · refine j_aload_n hC 0 rfl rfl (dOk_at dt_X9_ahead 13 rfl) ?_
            refine j_iload_n hC 3 rfl rfl (dOk_at dt_X9_ahead 14 rfl) ?_
            refine j_callVi hC clX9_156 (fun rz hrz => c_X9_isStraw hN _ _ rz hrz) (show shp 0 = (9, 12) from rfl) (Nat.lt_of_lt_of_le (Nat.le_of_ble_eq_true rfl : 0 < 152) hN) (by decide) rfl rfl ⟨Nat.le_of_ble_eq_true rfl, Nat.le_of_ble_eq_true rfl⟩ ⟨Nat.le_refl 0, Nat.le_refl 0⟩ (As := [.int x3]) (st := []) rfl (Nat.le_of_ble_eq_true rfl) (dOk_at dt_X9_ahead 15 rfl) (fun v_6 h_7 _ => ?_)
            refine j_if_ne hC (tgt := 35) (by decide) (dOk_at dt_X9_ahead 16 rfl) (fun q_8 => ?_) (fun q_8 => ?_)
            · exact b35 h_7 x1 x2 x3 
            · refine j_iconst hC (v := (-1 : Int32)) rfl (dOk_at dt_X9_ahead 17 rfl) ?_
              exact j_iret hC hret (dOk_at dt_X9_ahead 18 rfl)
def tb_X9_sheds : List (Nat × Instr × Nat) := [(0, .aload_n 0, 1), (1, .iload_n 1, 1), (2, .invokevirtual 156, 3), (5, .ifCond .ne 5, 3), (8, .iconst (-1), 1), (9, .ireturn, 1), (10, .aload_n 0, 1), (11, .invokevirtual 219, 3), (14, .iconst 0, 1), (15, .istore_n 2, 1), (16, .iload_n 2, 1), (17, .sipush 199, 3), (20, .if_icmp .gt 29, 3), (23, .aload_n 0, 1), (24, .getfield 45, 3), (27, .iload_n 1, 1), (28, .invokevirtual 165, 3), (31, .ifCond .eq 5, 3), (34, .iload_n 2, 1), (35, .ireturn, 1), (36, .aload_n 0, 1), (37, .getfield 45, 3), (40, .invokevirtual 235, 3), (43, .iinc 2 1, 3), (46, .goto (-30), 3), (49, .bipush (-2), 2), (51, .ireturn, 1)]
theorem dt_X9_sheds : dOk cX9_sheds tb_X9_sheds = true := by decide +kernel
def fX9_sheds_16 : Nat → Hp → Int32 → Int32 → Option (Int32 × Hp)
  | 0, _, _, _ => none
  | fu + 1, h, x1, x2 => if (199 : Int32) < x2 then (some ((-2 : Int32), h)) else (bnd (fX8_inShed 84 h x1) (fun v_7 h_8 => if v_7 = 0 then ((fX8_passNight 84 h_8).bind (fun h_11 => (fX9_sheds_16 fu) h_11 x1 (x2 + (1 : Int32)))) else (some (x2, h_8))))
def fX9_sheds (h : Hp) (x1 : Int32) : Option (Int32 × Hp) := bnd (fX9_isStraw h x1) (fun v_1 h_2 => if v_1 = 0 then (some ((-1 : Int32), h_2)) else ((fX9_startTrial h_2).bind (fun h_5 => fX9_sheds_16 FU h_5 x1 (0 : Int32))))
set_option maxRecDepth 100000 in
set_option maxHeartbeats 4000000 in
theorem c_X9_sheds {l : Launch} {sb : State} {D : va_G} {ids : Nat → ClassId} {n : Nat} (hN : 152 ≤ n) (h : Hp) (x1 : Int32) (r : Int32 × Hp) (hr : fX9_sheds h x1 = some r) : jM l yX9_sheds cX9_sheds 3 (some .int) 6 sb D ids shp St n [.ref 0, .int x1] h (jQi sb D ids shp St n r) := by
  refine jM_of hr rfl (Nat.le_of_ble_eq_true rfl) ?_
  intro p e s m args below meth c hC hret
  have b16 : ∀ (fu : Nat) (h : Hp) (x1 : Int32) (x2 : Int32) , jJ p l e (rmD 6) s m args below meth c 3 sb D ids shp St (fun r => MQ below (jQi sb D ids shp St n r) args s 0 0 (jA sb)) n 0 0 h 16 [(0, .ref 0), (1, .int x1), (2, .int x2)] [] (fX9_sheds_16 fu h x1 x2) := by
    intro fu 
    induction fu with
    | zero => intro h x1 x2 ; exact j_none
    | succ fu ih =>
    intro h x1 x2 
    rw [fX9_sheds_16]
    refine j_iload_n hC 2 rfl rfl (dOk_at dt_X9_sheds 10 rfl) ?_
    refine j_sipush hC (v := (199 : Int32)) rfl (dOk_at dt_X9_sheds 11 rfl) ?_
    refine j_icmp_gt hC (tgt := 49) (by decide) (dOk_at dt_X9_sheds 12 rfl) (fun q_6 => ?_) (fun q_6 => ?_)
    · refine j_bipush hC (v := (-2 : Int32)) rfl (dOk_at dt_X9_sheds 25 rfl) ?_
      exact j_iret hC hret (dOk_at dt_X9_sheds 26 rfl)
    · refine j_aload_n hC 0 rfl rfl (dOk_at dt_X9_sheds 13 rfl) ?_
      refine j_getR hC flX9_45 (show shp 0 = (9, 12) from rfl) (Nat.lt_of_lt_of_le (Nat.le_of_ble_eq_true rfl : 0 < 152) hN) (by decide) (by decide) (fun _ _ _ => rfl) (fun hs => hs 0 7 84 rfl) (dOk_at dt_X9_sheds 14 rfl) ?_
      refine j_iload_n hC 1 rfl rfl (dOk_at dt_X9_sheds 15 rfl) ?_
      refine j_callVi hC clX9_165 (fun rz hrz => c_X8_inShed hN ((show shp 84 = (8, 15) from rfl)) _ _ rz hrz) (show shp 84 = (8, 15) from rfl) (Nat.lt_of_lt_of_le (Nat.le_of_ble_eq_true rfl : 84 < 152) hN) (by decide) rfl rfl ⟨Nat.le_of_ble_eq_true rfl, Nat.le_of_ble_eq_true rfl⟩ ⟨Nat.le_refl 0, Nat.le_refl 0⟩ (As := [.int x1]) (st := []) rfl (Nat.le_of_ble_eq_true rfl) (dOk_at dt_X9_sheds 16 rfl) (fun v_7 h_8 _ => ?_)
      refine j_if_eq hC (tgt := 36) (by decide) (dOk_at dt_X9_sheds 17 rfl) (fun q_9 => ?_) (fun q_9 => ?_)
      · refine j_aload_n hC 0 rfl rfl (dOk_at dt_X9_sheds 20 rfl) ?_
        refine j_getR hC flX9_45 (show shp 0 = (9, 12) from rfl) (Nat.lt_of_lt_of_le (Nat.le_of_ble_eq_true rfl : 0 < 152) hN) (by decide) (by decide) (fun _ _ _ => rfl) (fun hs => hs 0 7 84 rfl) (dOk_at dt_X9_sheds 21 rfl) ?_
        refine j_callVv hC clX9_235 (fun rz hrz => c_X8_passNight hN ((show shp 84 = (8, 15) from rfl)) _ rz hrz) (show shp 84 = (8, 15) from rfl) (Nat.lt_of_lt_of_le (Nat.le_of_ble_eq_true rfl : 84 < 152) hN) (by decide) rfl rfl ⟨Nat.le_of_ble_eq_true rfl, Nat.le_of_ble_eq_true rfl⟩ ⟨Nat.le_refl 0, Nat.le_refl 0⟩ (As := []) (st := []) rfl (Nat.le_of_ble_eq_true rfl) (dOk_at dt_X9_sheds 22 rfl) (fun h_11 _ => ?_)
        refine j_iinc hC (v := (x2 + (1 : Int32))) (lv' := [(2, .int (x2 + (1 : Int32))), (0, .ref 0), (1, .int x1)]) 2 rfl (congrArg (fun z => x2 + z) (show Int32.ofInt (1) = (1 : Int32) from by decide)) (by decide) rfl (dOk_at dt_X9_sheds 23 rfl) ?_
        refine j_goto hC (tgt := 16) (by decide) (dOk_at dt_X9_sheds 24 rfl) ?_
        refine j_sub [1, 2, 0] rfl ?_
        exact ih h_11 x1 (x2 + (1 : Int32)) 
      · refine j_iload_n hC 2 rfl rfl (dOk_at dt_X9_sheds 18 rfl) ?_
        exact j_iret hC hret (dOk_at dt_X9_sheds 19 rfl)
  unfold fX9_sheds
  refine j_aload_n hC 0 rfl rfl (dOk_at dt_X9_sheds 0 rfl) ?_
  refine j_iload_n hC 1 rfl rfl (dOk_at dt_X9_sheds 1 rfl) ?_
  refine j_callVi hC clX9_156 (fun rz hrz => c_X9_isStraw hN _ _ rz hrz) (show shp 0 = (9, 12) from rfl) (Nat.lt_of_lt_of_le (Nat.le_of_ble_eq_true rfl : 0 < 152) hN) (by decide) rfl rfl ⟨Nat.le_of_ble_eq_true rfl, Nat.le_of_ble_eq_true rfl⟩ ⟨Nat.le_refl 0, Nat.le_refl 0⟩ (As := [.int x1]) (st := []) rfl (Nat.le_of_ble_eq_true rfl) (dOk_at dt_X9_sheds 2 rfl) (fun v_1 h_2 _ => ?_)
  refine j_if_ne hC (tgt := 10) (by decide) (dOk_at dt_X9_sheds 3 rfl) (fun q_3 => ?_) (fun q_3 => ?_)
  · refine j_aload_n hC 0 rfl rfl (dOk_at dt_X9_sheds 6 rfl) ?_
    refine j_callVv hC clX9_219 (fun rz hrz => c_X9_startTrial hN _ rz hrz) (show shp 0 = (9, 12) from rfl) (Nat.lt_of_lt_of_le (Nat.le_of_ble_eq_true rfl : 0 < 152) hN) (by decide) rfl rfl ⟨Nat.le_of_ble_eq_true rfl, Nat.le_of_ble_eq_true rfl⟩ ⟨Nat.le_refl 0, Nat.le_refl 0⟩ (As := []) (st := []) rfl (Nat.le_of_ble_eq_true rfl) (dOk_at dt_X9_sheds 7 rfl) (fun h_5 _ => ?_)
    refine j_iconst hC (v := (0 : Int32)) rfl (dOk_at dt_X9_sheds 8 rfl) ?_
    refine j_istore_n hC rfl (lv' := [(2, .int (0 : Int32)), (0, .ref 0), (1, .int x1)]) (by decide) rfl (dOk_at dt_X9_sheds 9 rfl) ?_
    refine j_sub [1, 2, 0] rfl ?_
    exact b16 FU h_5 x1 (0 : Int32) 
  · refine j_iconst hC (v := (-1 : Int32)) rfl (dOk_at dt_X9_sheds 4 rfl) ?_
    exact j_iret hC hret (dOk_at dt_X9_sheds 5 rfl)
def tb_X9_set : List (Nat × Instr × Nat) := [(0, .iload_n 1, 1), (1, .ifCond .lt 17, 3), (4, .iload_n 1, 1), (5, .aload_n 0, 1), (6, .getfield 10, 3), (9, .getfield 106, 3), (12, .invokevirtual 238, 3), (15, .if_icmp .le 5, 3), (18, .iconst (-1), 1), (19, .ireturn, 1), (20, .iload_n 2, 1), (21, .tableswitch 87 0 2 #[27, 47, 67], 27), (48, .aload_n 0, 1), (49, .getfield 10, 3), (52, .getfield 106, 3), (55, .iload_n 1, 1), (56, .invokevirtual 241, 3), (59, .ifCond .eq 7, 3), (62, .iconst 1, 1), (63, .goto 4, 3), (66, .iconst 0, 1), (67, .ireturn, 1), (68, .aload_n 0, 1), (69, .getfield 10, 3), (72, .getfield 106, 3), (75, .iload_n 1, 1), (76, .invokevirtual 244, 3), (79, .ifCond .eq 7, 3), (82, .iconst 1, 1), (83, .goto 4, 3), (86, .iconst 0, 1), (87, .ireturn, 1), (88, .aload_n 0, 1), (89, .getfield 10, 3), (92, .getfield 106, 3), (95, .iload_n 1, 1), (96, .invokevirtual 247, 3), (99, .ifCond .eq 7, 3), (102, .iconst 1, 1), (103, .goto 4, 3), (106, .iconst 0, 1), (107, .ireturn, 1), (108, .iconst (-1), 1), (109, .ireturn, 1)]
theorem dt_X9_set : dOk cX9_set tb_X9_set = true := by decide +kernel
def fX9_set (h : Hp) (x1 : Int32) (x2 : Int32) : Option (Int32 × Hp) := if x1 < 0 then (some ((-1 : Int32), h)) else ((dref shp h 0 3 (7, 20)).bind (fun z_2 => bnd (fX0_all (rf z_2 0) h) (fun v_4 h_5 => if x1 ≤ v_4 then (if inT x2 0 2 then (if x2 = (0 : Int32) then ((dref shp h_5 0 3 (7, 20)).bind (fun z_8 => bnd (fX0_isCalm (rf z_8 0) h_5 x1) (fun v_10 h_11 => if v_10 = 0 then (some ((0 : Int32), h_11)) else (some ((1 : Int32), h_11))))) else (if x2 = (1 : Int32) then ((dref shp h_5 0 3 (7, 20)).bind (fun z_14 => bnd (fX0_isStanding (rf z_14 0) h_5 x1) (fun v_16 h_17 => if v_16 = 0 then (some ((0 : Int32), h_17)) else (some ((1 : Int32), h_17))))) else (if x2 = (2 : Int32) then ((dref shp h_5 0 3 (7, 20)).bind (fun z_20 => bnd (fX0_isDefended (rf z_20 0) h_5 x1) (fun v_22 h_23 => if v_22 = 0 then (some ((0 : Int32), h_23)) else (some ((1 : Int32), h_23))))) else none))) else (some ((-1 : Int32), h_5))) else (some ((-1 : Int32), h_5)))))
set_option maxRecDepth 100000 in
set_option maxHeartbeats 4000000 in
theorem c_X9_set {l : Launch} {sb : State} {D : va_G} {ids : Nat → ClassId} {n : Nat} (hN : 152 ≤ n) (h : Hp) (x1 : Int32) (x2 : Int32) (r : Int32 × Hp) (hr : fX9_set h x1 x2 = some r) : jM l yX9_set cX9_set 3 (some .int) 2 sb D ids shp St n [.ref 0, .int x1, .int x2] h (jQi sb D ids shp St n r) := by
  refine jM_of hr rfl (Nat.le_of_ble_eq_true rfl) ?_
  intro p e s m args below meth c hC hret
  unfold fX9_set
  refine j_iload_n hC 1 rfl rfl (dOk_at dt_X9_set 0 rfl) ?_
  refine j_if_lt hC (tgt := 18) (by decide) (dOk_at dt_X9_set 1 rfl) (fun q_1 => ?_) (fun q_1 => ?_)
  · refine j_iconst hC (v := (-1 : Int32)) rfl (dOk_at dt_X9_set 8 rfl) ?_
    exact j_iret hC hret (dOk_at dt_X9_set 9 rfl)
  · refine j_iload_n hC 1 rfl rfl (dOk_at dt_X9_set 2 rfl) ?_
    refine j_aload_n hC 0 rfl rfl (dOk_at dt_X9_set 3 rfl) ?_
    refine j_getD (q := (7, 20)) hC flX9_10 (show shp 0 = (9, 12) from rfl) (Nat.lt_of_lt_of_le (Nat.le_of_ble_eq_true rfl : 0 < 152) hN) (by decide) (by decide) (fun _ _ _ => rfl) (dOk_at dt_X9_set 4 rfl) (fun z_2 _ g_3 => ?_)
    refine j_getR hC flX9_106 g_3 (jlt hN g_3 (by decide)) (by decide) (by decide) (fun _ _ _ => rfl) (fun hs => hs _ _ _ (sf_7_0 g_3).1) (dOk_at dt_X9_set 5 rfl) ?_
    refine j_callVi hC clX9_238 (fun rz hrz => c_X0_all hN ((sf_7_0 g_3).2.1) _ rz hrz) (sf_7_0 g_3).2.1 (Nat.lt_of_lt_of_le (sf_7_0 g_3).2.2 hN) (by decide) rfl rfl ⟨Nat.le_of_ble_eq_true rfl, Nat.le_of_ble_eq_true rfl⟩ ⟨Nat.le_refl 0, Nat.le_refl 0⟩ (As := []) (st := [.int x1]) rfl (Nat.le_of_ble_eq_true rfl) (dOk_at dt_X9_set 6 rfl) (fun v_4 h_5 _ => ?_)
    refine j_icmp_le hC (tgt := 20) (by decide) (dOk_at dt_X9_set 7 rfl) (fun q_6 => ?_) (fun q_6 => ?_)
    · refine j_iload_n hC 2 rfl rfl (dOk_at dt_X9_set 10 rfl) ?_
      refine j_ite (P := inT x2 0 2 = true) (fun _ => ?_) (fun q => ?_)
      · refine j_ite (P := x2 = (0 : Int32)) (fun q_7 => ?_) (fun _ => ?_)
        · refine j_tswIn hC (tgt := 48) q_7 (by decide) (by decide) rfl (by decide) (dOk_at dt_X9_set 11 rfl) ?_
          refine j_aload_n hC 0 rfl rfl (dOk_at dt_X9_set 12 rfl) ?_
          refine j_getD (q := (7, 20)) hC flX9_10 (show shp 0 = (9, 12) from rfl) (Nat.lt_of_lt_of_le (Nat.le_of_ble_eq_true rfl : 0 < 152) hN) (by decide) (by decide) (fun _ _ _ => rfl) (dOk_at dt_X9_set 13 rfl) (fun z_8 _ g_9 => ?_)
          refine j_getR hC flX9_106 g_9 (jlt hN g_9 (by decide)) (by decide) (by decide) (fun _ _ _ => rfl) (fun hs => hs _ _ _ (sf_7_0 g_9).1) (dOk_at dt_X9_set 14 rfl) ?_
          refine j_iload_n hC 1 rfl rfl (dOk_at dt_X9_set 15 rfl) ?_
          refine j_callVi hC clX9_241 (fun rz hrz => c_X0_isCalm hN ((sf_7_0 g_9).2.1) _ _ rz hrz) (sf_7_0 g_9).2.1 (Nat.lt_of_lt_of_le (sf_7_0 g_9).2.2 hN) (by decide) rfl rfl ⟨Nat.le_of_ble_eq_true rfl, Nat.le_of_ble_eq_true rfl⟩ ⟨Nat.le_refl 0, Nat.le_refl 0⟩ (As := [.int x1]) (st := []) rfl (Nat.le_of_ble_eq_true rfl) (dOk_at dt_X9_set 16 rfl) (fun v_10 h_11 _ => ?_)
          refine j_if_eq hC (tgt := 66) (by decide) (dOk_at dt_X9_set 17 rfl) (fun q_12 => ?_) (fun q_12 => ?_)
          · refine j_iconst hC (v := (0 : Int32)) rfl (dOk_at dt_X9_set 20 rfl) ?_
            exact j_iret hC hret (dOk_at dt_X9_set 21 rfl)
          · refine j_iconst hC (v := (1 : Int32)) rfl (dOk_at dt_X9_set 18 rfl) ?_
            refine j_goto hC (tgt := 67) (by decide) (dOk_at dt_X9_set 19 rfl) ?_
            exact j_iret hC hret (dOk_at dt_X9_set 21 rfl)
        refine j_ite (P := x2 = (1 : Int32)) (fun q_13 => ?_) (fun _ => ?_)
        · refine j_tswIn hC (tgt := 68) q_13 (by decide) (by decide) rfl (by decide) (dOk_at dt_X9_set 11 rfl) ?_
          refine j_aload_n hC 0 rfl rfl (dOk_at dt_X9_set 22 rfl) ?_
          refine j_getD (q := (7, 20)) hC flX9_10 (show shp 0 = (9, 12) from rfl) (Nat.lt_of_lt_of_le (Nat.le_of_ble_eq_true rfl : 0 < 152) hN) (by decide) (by decide) (fun _ _ _ => rfl) (dOk_at dt_X9_set 23 rfl) (fun z_14 _ g_15 => ?_)
          refine j_getR hC flX9_106 g_15 (jlt hN g_15 (by decide)) (by decide) (by decide) (fun _ _ _ => rfl) (fun hs => hs _ _ _ (sf_7_0 g_15).1) (dOk_at dt_X9_set 24 rfl) ?_
          refine j_iload_n hC 1 rfl rfl (dOk_at dt_X9_set 25 rfl) ?_
          refine j_callVi hC clX9_244 (fun rz hrz => c_X0_isStanding hN ((sf_7_0 g_15).2.1) _ _ rz hrz) (sf_7_0 g_15).2.1 (Nat.lt_of_lt_of_le (sf_7_0 g_15).2.2 hN) (by decide) rfl rfl ⟨Nat.le_of_ble_eq_true rfl, Nat.le_of_ble_eq_true rfl⟩ ⟨Nat.le_refl 0, Nat.le_refl 0⟩ (As := [.int x1]) (st := []) rfl (Nat.le_of_ble_eq_true rfl) (dOk_at dt_X9_set 26 rfl) (fun v_16 h_17 _ => ?_)
          refine j_if_eq hC (tgt := 86) (by decide) (dOk_at dt_X9_set 27 rfl) (fun q_18 => ?_) (fun q_18 => ?_)
          · refine j_iconst hC (v := (0 : Int32)) rfl (dOk_at dt_X9_set 30 rfl) ?_
            exact j_iret hC hret (dOk_at dt_X9_set 31 rfl)
          · refine j_iconst hC (v := (1 : Int32)) rfl (dOk_at dt_X9_set 28 rfl) ?_
            refine j_goto hC (tgt := 87) (by decide) (dOk_at dt_X9_set 29 rfl) ?_
            exact j_iret hC hret (dOk_at dt_X9_set 31 rfl)
        refine j_ite (P := x2 = (2 : Int32)) (fun q_19 => ?_) (fun _ => ?_)
        · refine j_tswIn hC (tgt := 88) q_19 (by decide) (by decide) rfl (by decide) (dOk_at dt_X9_set 11 rfl) ?_
          refine j_aload_n hC 0 rfl rfl (dOk_at dt_X9_set 32 rfl) ?_
          refine j_getD (q := (7, 20)) hC flX9_10 (show shp 0 = (9, 12) from rfl) (Nat.lt_of_lt_of_le (Nat.le_of_ble_eq_true rfl : 0 < 152) hN) (by decide) (by decide) (fun _ _ _ => rfl) (dOk_at dt_X9_set 33 rfl) (fun z_20 _ g_21 => ?_)
          refine j_getR hC flX9_106 g_21 (jlt hN g_21 (by decide)) (by decide) (by decide) (fun _ _ _ => rfl) (fun hs => hs _ _ _ (sf_7_0 g_21).1) (dOk_at dt_X9_set 34 rfl) ?_
          refine j_iload_n hC 1 rfl rfl (dOk_at dt_X9_set 35 rfl) ?_
          refine j_callVi hC clX9_247 (fun rz hrz => c_X0_isDefended hN ((sf_7_0 g_21).2.1) _ _ rz hrz) (sf_7_0 g_21).2.1 (Nat.lt_of_lt_of_le (sf_7_0 g_21).2.2 hN) (by decide) rfl rfl ⟨Nat.le_of_ble_eq_true rfl, Nat.le_of_ble_eq_true rfl⟩ ⟨Nat.le_refl 0, Nat.le_refl 0⟩ (As := [.int x1]) (st := []) rfl (Nat.le_of_ble_eq_true rfl) (dOk_at dt_X9_set 36 rfl) (fun v_22 h_23 _ => ?_)
          refine j_if_eq hC (tgt := 106) (by decide) (dOk_at dt_X9_set 37 rfl) (fun q_24 => ?_) (fun q_24 => ?_)
          · refine j_iconst hC (v := (0 : Int32)) rfl (dOk_at dt_X9_set 40 rfl) ?_
            exact j_iret hC hret (dOk_at dt_X9_set 41 rfl)
          · refine j_iconst hC (v := (1 : Int32)) rfl (dOk_at dt_X9_set 38 rfl) ?_
            refine j_goto hC (tgt := 107) (by decide) (dOk_at dt_X9_set 39 rfl) ?_
            exact j_iret hC hret (dOk_at dt_X9_set 41 rfl)
        exact j_none
      · refine j_tswOut hC (tgt := 108) q (by decide) (dOk_at dt_X9_set 11 rfl) ?_
        refine j_iconst hC (v := (-1 : Int32)) rfl (dOk_at dt_X9_set 42 rfl) ?_
        exact j_iret hC hret (dOk_at dt_X9_set 43 rfl)
    · refine j_iconst hC (v := (-1 : Int32)) rfl (dOk_at dt_X9_set 8 rfl) ?_
      exact j_iret hC hret (dOk_at dt_X9_set 9 rfl)
def tb_X9_standing : List (Nat × Instr × Nat) := [(0, .iload_n 1, 1), (1, .tableswitch 60 0 2 #[27, 38, 49], 27), (28, .aload_n 0, 1), (29, .getfield 10, 3), (32, .getfield 106, 3), (35, .invokevirtual 250, 3), (38, .ireturn, 1), (39, .aload_n 0, 1), (40, .getfield 10, 3), (43, .getfield 106, 3), (46, .invokevirtual 253, 3), (49, .ireturn, 1), (50, .aload_n 0, 1), (51, .getfield 10, 3), (54, .getfield 106, 3), (57, .invokevirtual 256, 3), (60, .ireturn, 1), (61, .iconst (-1), 1), (62, .ireturn, 1)]
theorem dt_X9_standing : dOk cX9_standing tb_X9_standing = true := by decide +kernel
def fX9_standing (h : Hp) (x1 : Int32) : Option (Int32 × Hp) := if inT x1 0 2 then (if x1 = (0 : Int32) then ((dref shp h 0 3 (7, 20)).bind (fun z_2 => bnd (fX0_standingCount (rf z_2 0) h) (fun v_4 h_5 => some (v_4, h_5)))) else (if x1 = (1 : Int32) then ((dref shp h 0 3 (7, 20)).bind (fun z_7 => bnd (fX0_inAllStanding (rf z_7 0) h) (fun v_9 h_10 => some (v_9, h_10)))) else (if x1 = (2 : Int32) then ((dref shp h 0 3 (7, 20)).bind (fun z_12 => bnd (fX0_inAnyStanding (rf z_12 0) h) (fun v_14 h_15 => some (v_14, h_15)))) else none))) else (some ((-1 : Int32), h))
set_option maxRecDepth 100000 in
set_option maxHeartbeats 4000000 in
theorem c_X9_standing {l : Launch} {sb : State} {D : va_G} {ids : Nat → ClassId} {n : Nat} (hN : 152 ≤ n) (h : Hp) (x1 : Int32) (r : Int32 × Hp) (hr : fX9_standing h x1 = some r) : jM l yX9_standing cX9_standing 2 (some .int) 3 sb D ids shp St n [.ref 0, .int x1] h (jQi sb D ids shp St n r) := by
  refine jM_of hr rfl (Nat.le_of_ble_eq_true rfl) ?_
  intro p e s m args below meth c hC hret
  unfold fX9_standing
  refine j_iload_n hC 1 rfl rfl (dOk_at dt_X9_standing 0 rfl) ?_
  refine j_ite (P := inT x1 0 2 = true) (fun _ => ?_) (fun q => ?_)
  · refine j_ite (P := x1 = (0 : Int32)) (fun q_1 => ?_) (fun _ => ?_)
    · refine j_tswIn hC (tgt := 28) q_1 (by decide) (by decide) rfl (by decide) (dOk_at dt_X9_standing 1 rfl) ?_
      refine j_aload_n hC 0 rfl rfl (dOk_at dt_X9_standing 2 rfl) ?_
      refine j_getD (q := (7, 20)) hC flX9_10 (show shp 0 = (9, 12) from rfl) (Nat.lt_of_lt_of_le (Nat.le_of_ble_eq_true rfl : 0 < 152) hN) (by decide) (by decide) (fun _ _ _ => rfl) (dOk_at dt_X9_standing 3 rfl) (fun z_2 _ g_3 => ?_)
      refine j_getR hC flX9_106 g_3 (jlt hN g_3 (by decide)) (by decide) (by decide) (fun _ _ _ => rfl) (fun hs => hs _ _ _ (sf_7_0 g_3).1) (dOk_at dt_X9_standing 4 rfl) ?_
      refine j_callVi hC clX9_250 (fun rz hrz => c_X0_standingCount hN ((sf_7_0 g_3).2.1) _ rz hrz) (sf_7_0 g_3).2.1 (Nat.lt_of_lt_of_le (sf_7_0 g_3).2.2 hN) (by decide) rfl rfl ⟨Nat.le_of_ble_eq_true rfl, Nat.le_of_ble_eq_true rfl⟩ ⟨Nat.le_refl 0, Nat.le_refl 0⟩ (As := []) (st := []) rfl (Nat.le_of_ble_eq_true rfl) (dOk_at dt_X9_standing 5 rfl) (fun v_4 h_5 _ => ?_)
      exact j_iret hC hret (dOk_at dt_X9_standing 6 rfl)
    refine j_ite (P := x1 = (1 : Int32)) (fun q_6 => ?_) (fun _ => ?_)
    · refine j_tswIn hC (tgt := 39) q_6 (by decide) (by decide) rfl (by decide) (dOk_at dt_X9_standing 1 rfl) ?_
      refine j_aload_n hC 0 rfl rfl (dOk_at dt_X9_standing 7 rfl) ?_
      refine j_getD (q := (7, 20)) hC flX9_10 (show shp 0 = (9, 12) from rfl) (Nat.lt_of_lt_of_le (Nat.le_of_ble_eq_true rfl : 0 < 152) hN) (by decide) (by decide) (fun _ _ _ => rfl) (dOk_at dt_X9_standing 8 rfl) (fun z_7 _ g_8 => ?_)
      refine j_getR hC flX9_106 g_8 (jlt hN g_8 (by decide)) (by decide) (by decide) (fun _ _ _ => rfl) (fun hs => hs _ _ _ (sf_7_0 g_8).1) (dOk_at dt_X9_standing 9 rfl) ?_
      refine j_callVi hC clX9_253 (fun rz hrz => c_X0_inAllStanding hN ((sf_7_0 g_8).2.1) _ rz hrz) (sf_7_0 g_8).2.1 (Nat.lt_of_lt_of_le (sf_7_0 g_8).2.2 hN) (by decide) rfl rfl ⟨Nat.le_of_ble_eq_true rfl, Nat.le_of_ble_eq_true rfl⟩ ⟨Nat.le_refl 0, Nat.le_refl 0⟩ (As := []) (st := []) rfl (Nat.le_of_ble_eq_true rfl) (dOk_at dt_X9_standing 10 rfl) (fun v_9 h_10 _ => ?_)
      exact j_iret hC hret (dOk_at dt_X9_standing 11 rfl)
    refine j_ite (P := x1 = (2 : Int32)) (fun q_11 => ?_) (fun _ => ?_)
    · refine j_tswIn hC (tgt := 50) q_11 (by decide) (by decide) rfl (by decide) (dOk_at dt_X9_standing 1 rfl) ?_
      refine j_aload_n hC 0 rfl rfl (dOk_at dt_X9_standing 12 rfl) ?_
      refine j_getD (q := (7, 20)) hC flX9_10 (show shp 0 = (9, 12) from rfl) (Nat.lt_of_lt_of_le (Nat.le_of_ble_eq_true rfl : 0 < 152) hN) (by decide) (by decide) (fun _ _ _ => rfl) (dOk_at dt_X9_standing 13 rfl) (fun z_12 _ g_13 => ?_)
      refine j_getR hC flX9_106 g_13 (jlt hN g_13 (by decide)) (by decide) (by decide) (fun _ _ _ => rfl) (fun hs => hs _ _ _ (sf_7_0 g_13).1) (dOk_at dt_X9_standing 14 rfl) ?_
      refine j_callVi hC clX9_256 (fun rz hrz => c_X0_inAnyStanding hN ((sf_7_0 g_13).2.1) _ rz hrz) (sf_7_0 g_13).2.1 (Nat.lt_of_lt_of_le (sf_7_0 g_13).2.2 hN) (by decide) rfl rfl ⟨Nat.le_of_ble_eq_true rfl, Nat.le_of_ble_eq_true rfl⟩ ⟨Nat.le_refl 0, Nat.le_refl 0⟩ (As := []) (st := []) rfl (Nat.le_of_ble_eq_true rfl) (dOk_at dt_X9_standing 15 rfl) (fun v_14 h_15 _ => ?_)
      exact j_iret hC hret (dOk_at dt_X9_standing 16 rfl)
    exact j_none
  · refine j_tswOut hC (tgt := 61) q (by decide) (dOk_at dt_X9_standing 1 rfl) ?_
    refine j_iconst hC (v := (-1 : Int32)) rfl (dOk_at dt_X9_standing 17 rfl) ?_
    exact j_iret hC hret (dOk_at dt_X9_standing 18 rfl)
def tb_X9_stand : List (Nat × Instr × Nat) := [(0, .iload_n 1, 1), (1, .ifCond .ge 7, 3), (4, .iconst (-1), 1), (5, .goto 14, 3), (8, .aload_n 0, 1), (9, .getfield 10, 3), (12, .getfield 106, 3), (15, .iload_n 1, 1), (16, .invokevirtual 259, 3), (19, .ireturn, 1)]
theorem dt_X9_stand : dOk cX9_stand tb_X9_stand = true := by decide +kernel
def fX9_stand (h : Hp) (x1 : Int32) : Option (Int32 × Hp) := if 0 ≤ x1 then ((dref shp h 0 3 (7, 20)).bind (fun z_2 => bnd (fX0_standingAt (rf z_2 0) h x1) (fun v_4 h_5 => some (v_4, h_5)))) else (some ((-1 : Int32), h))
set_option maxRecDepth 100000 in
set_option maxHeartbeats 4000000 in
theorem c_X9_stand {l : Launch} {sb : State} {D : va_G} {ids : Nat → ClassId} {n : Nat} (hN : 152 ≤ n) (h : Hp) (x1 : Int32) (r : Int32 × Hp) (hr : fX9_stand h x1 = some r) : jM l yX9_stand cX9_stand 2 (some .int) 3 sb D ids shp St n [.ref 0, .int x1] h (jQi sb D ids shp St n r) := by
  refine jM_of hr rfl (Nat.le_of_ble_eq_true rfl) ?_
  intro p e s m args below meth c hC hret
  unfold fX9_stand
  refine j_iload_n hC 1 rfl rfl (dOk_at dt_X9_stand 0 rfl) ?_
  refine j_if_ge hC (tgt := 8) (by decide) (dOk_at dt_X9_stand 1 rfl) (fun q_1 => ?_) (fun q_1 => ?_)
  · refine j_aload_n hC 0 rfl rfl (dOk_at dt_X9_stand 4 rfl) ?_
    refine j_getD (q := (7, 20)) hC flX9_10 (show shp 0 = (9, 12) from rfl) (Nat.lt_of_lt_of_le (Nat.le_of_ble_eq_true rfl : 0 < 152) hN) (by decide) (by decide) (fun _ _ _ => rfl) (dOk_at dt_X9_stand 5 rfl) (fun z_2 _ g_3 => ?_)
    refine j_getR hC flX9_106 g_3 (jlt hN g_3 (by decide)) (by decide) (by decide) (fun _ _ _ => rfl) (fun hs => hs _ _ _ (sf_7_0 g_3).1) (dOk_at dt_X9_stand 6 rfl) ?_
    refine j_iload_n hC 1 rfl rfl (dOk_at dt_X9_stand 7 rfl) ?_
    refine j_callVi hC clX9_259 (fun rz hrz => c_X0_standingAt hN ((sf_7_0 g_3).2.1) _ _ rz hrz) (sf_7_0 g_3).2.1 (Nat.lt_of_lt_of_le (sf_7_0 g_3).2.2 hN) (by decide) rfl rfl ⟨Nat.le_of_ble_eq_true rfl, Nat.le_of_ble_eq_true rfl⟩ ⟨Nat.le_refl 0, Nat.le_refl 0⟩ (As := [.int x1]) (st := []) rfl (Nat.le_of_ble_eq_true rfl) (dOk_at dt_X9_stand 8 rfl) (fun v_4 h_5 _ => ?_)
    exact j_iret hC hret (dOk_at dt_X9_stand 9 rfl)
  · refine j_iconst hC (v := (-1 : Int32)) rfl (dOk_at dt_X9_stand 2 rfl) ?_
    refine j_goto hC (tgt := 19) (by decide) (dOk_at dt_X9_stand 3 rfl) ?_
    exact j_iret hC hret (dOk_at dt_X9_stand 9 rfl)
def tb_X9_ground : List (Nat × Instr × Nat) := [(0, .aload_n 0, 1), (1, .getfield 10, 3), (4, .getfield 106, 3), (7, .iconst (-1), 1), (8, .iconst (-1), 1), (9, .invokevirtual 262, 3), (12, .ireturn, 1)]
theorem dt_X9_ground : dOk cX9_ground tb_X9_ground = true := by decide +kernel
def fX9_ground (h : Hp) : Option (Int32 × Hp) := (dref shp h 0 3 (7, 20)).bind (fun z_1 => bnd (fX0_groundWithout (rf z_1 0) h (-1 : Int32) (-1 : Int32)) (fun v_3 h_4 => some (v_3, h_4)))
set_option maxRecDepth 100000 in
set_option maxHeartbeats 4000000 in
theorem c_X9_ground {l : Launch} {sb : State} {D : va_G} {ids : Nat → ClassId} {n : Nat} (hN : 152 ≤ n) (h : Hp) (r : Int32 × Hp) (hr : fX9_ground h = some r) : jM l yX9_ground cX9_ground 1 (some .int) 3 sb D ids shp St n [.ref 0] h (jQi sb D ids shp St n r) := by
  refine jM_of hr rfl (Nat.le_of_ble_eq_true rfl) ?_
  intro p e s m args below meth c hC hret
  unfold fX9_ground
  refine j_aload_n hC 0 rfl rfl (dOk_at dt_X9_ground 0 rfl) ?_
  refine j_getD (q := (7, 20)) hC flX9_10 (show shp 0 = (9, 12) from rfl) (Nat.lt_of_lt_of_le (Nat.le_of_ble_eq_true rfl : 0 < 152) hN) (by decide) (by decide) (fun _ _ _ => rfl) (dOk_at dt_X9_ground 1 rfl) (fun z_1 _ g_2 => ?_)
  refine j_getR hC flX9_106 g_2 (jlt hN g_2 (by decide)) (by decide) (by decide) (fun _ _ _ => rfl) (fun hs => hs _ _ _ (sf_7_0 g_2).1) (dOk_at dt_X9_ground 2 rfl) ?_
  refine j_iconst hC (v := (-1 : Int32)) rfl (dOk_at dt_X9_ground 3 rfl) ?_
  refine j_iconst hC (v := (-1 : Int32)) rfl (dOk_at dt_X9_ground 4 rfl) ?_
  refine j_callVi hC clX9_262 (fun rz hrz => c_X0_groundWithout hN ((sf_7_0 g_2).2.1) _ _ _ rz hrz) (sf_7_0 g_2).2.1 (Nat.lt_of_lt_of_le (sf_7_0 g_2).2.2 hN) (by decide) rfl rfl ⟨Nat.le_of_ble_eq_true rfl, Nat.le_of_ble_eq_true rfl⟩ ⟨Nat.le_refl 0, Nat.le_refl 0⟩ (As := [.int (-1 : Int32), .int (-1 : Int32)]) (st := []) rfl (Nat.le_of_ble_eq_true rfl) (dOk_at dt_X9_ground 5 rfl) (fun v_3 h_4 _ => ?_)
  exact j_iret hC hret (dOk_at dt_X9_ground 6 rfl)
def tb_X9_largest : List (Nat × Instr × Nat) := [(0, .aload_n 0, 1), (1, .getfield 10, 3), (4, .getfield 106, 3), (7, .invokevirtual 265, 3), (10, .ireturn, 1)]
theorem dt_X9_largest : dOk cX9_largest tb_X9_largest = true := by decide +kernel
def fX9_largest (h : Hp) : Option (Int32 × Hp) := (dref shp h 0 3 (7, 20)).bind (fun z_1 => bnd (fX0_largestDefended (rf z_1 0) h) (fun v_3 h_4 => some (v_3, h_4)))
set_option maxRecDepth 100000 in
set_option maxHeartbeats 4000000 in
theorem c_X9_largest {l : Launch} {sb : State} {D : va_G} {ids : Nat → ClassId} {n : Nat} (hN : 152 ≤ n) (h : Hp) (r : Int32 × Hp) (hr : fX9_largest h = some r) : jM l yX9_largest cX9_largest 1 (some .int) 3 sb D ids shp St n [.ref 0] h (jQi sb D ids shp St n r) := by
  refine jM_of hr rfl (Nat.le_of_ble_eq_true rfl) ?_
  intro p e s m args below meth c hC hret
  unfold fX9_largest
  refine j_aload_n hC 0 rfl rfl (dOk_at dt_X9_largest 0 rfl) ?_
  refine j_getD (q := (7, 20)) hC flX9_10 (show shp 0 = (9, 12) from rfl) (Nat.lt_of_lt_of_le (Nat.le_of_ble_eq_true rfl : 0 < 152) hN) (by decide) (by decide) (fun _ _ _ => rfl) (dOk_at dt_X9_largest 1 rfl) (fun z_1 _ g_2 => ?_)
  refine j_getR hC flX9_106 g_2 (jlt hN g_2 (by decide)) (by decide) (by decide) (fun _ _ _ => rfl) (fun hs => hs _ _ _ (sf_7_0 g_2).1) (dOk_at dt_X9_largest 2 rfl) ?_
  refine j_callVi hC clX9_265 (fun rz hrz => c_X0_largestDefended hN ((sf_7_0 g_2).2.1) _ rz hrz) (sf_7_0 g_2).2.1 (Nat.lt_of_lt_of_le (sf_7_0 g_2).2.2 hN) (by decide) rfl rfl ⟨Nat.le_of_ble_eq_true rfl, Nat.le_of_ble_eq_true rfl⟩ ⟨Nat.le_refl 0, Nat.le_refl 0⟩ (As := []) (st := []) rfl (Nat.le_of_ble_eq_true rfl) (dOk_at dt_X9_largest 3 rfl) (fun v_3 h_4 _ => ?_)
  exact j_iret hC hret (dOk_at dt_X9_largest 4 rfl)
def tb_X9_replies : List (Nat × Instr × Nat) := [(0, .aload_n 0, 1), (1, .iload_n 1, 1), (2, .invokevirtual 128, 3), (5, .ifCond .eq 12, 3), (8, .iload_n 2, 1), (9, .ifCond .lt 8, 3), (12, .iload_n 2, 1), (13, .iconst 1, 1), (14, .if_icmp .le 5, 3), (17, .iconst (-1), 1), (18, .ireturn, 1), (19, .aload_n 0, 1), (20, .getfield 10, 3), (23, .getfield 106, 3), (26, .iload_n 1, 1), (27, .invokevirtual 268, 3), (30, .istore_n 3, 1), (31, .iload_n 2, 1), (32, .iconst 1, 1), (33, .if_icmp .ne 15, 3), (36, .iload_n 3, 1), (37, .iconst (-1), 1), (38, .if_icmp .ne 8, 3), (41, .bipush (-2), 2), (43, .goto 4, 3), (46, .iload_n 3, 1), (47, .ireturn, 1), (48, .iload_n 3, 1), (49, .iconst (-1), 1), (50, .if_icmp .ne 7, 3), (53, .iconst 0, 1), (54, .goto 4, 3), (57, .iconst 1, 1), (58, .ireturn, 1)]
theorem dt_X9_replies : dOk cX9_replies tb_X9_replies = true := by decide +kernel
def fX9_replies (h : Hp) (x1 : Int32) (x2 : Int32) : Option (Int32 × Hp) := bnd (fX9_isClaim h x1) (fun v_1 h_2 => if v_1 = 0 then (some ((-1 : Int32), h_2)) else (if x2 < 0 then (some ((-1 : Int32), h_2)) else (if x2 ≤ (1 : Int32) then ((dref shp h_2 0 3 (7, 20)).bind (fun z_6 => bnd (fX0_winningReply (rf z_6 0) h_2 x1) (fun v_8 h_9 => if x2 = (1 : Int32) then (if v_8 = (-1 : Int32) then (some ((-2 : Int32), h_9)) else (some (v_8, h_9))) else (if v_8 = (-1 : Int32) then (some ((0 : Int32), h_9)) else (some ((1 : Int32), h_9)))))) else (some ((-1 : Int32), h_2)))))
set_option maxRecDepth 100000 in
set_option maxHeartbeats 4000000 in
theorem c_X9_replies {l : Launch} {sb : State} {D : va_G} {ids : Nat → ClassId} {n : Nat} (hN : 152 ≤ n) (h : Hp) (x1 : Int32) (x2 : Int32) (r : Int32 × Hp) (hr : fX9_replies h x1 x2 = some r) : jM l yX9_replies cX9_replies 4 (some .int) 14 sb D ids shp St n [.ref 0, .int x1, .int x2] h (jQi sb D ids shp St n r) := by
  refine jM_of hr rfl (Nat.le_of_ble_eq_true rfl) ?_
  intro p e s m args below meth c hC hret
  unfold fX9_replies
  refine j_aload_n hC 0 rfl rfl (dOk_at dt_X9_replies 0 rfl) ?_
  refine j_iload_n hC 1 rfl rfl (dOk_at dt_X9_replies 1 rfl) ?_
  refine j_callVi hC clX9_128 (fun rz hrz => c_X9_isClaim hN _ _ rz hrz) (show shp 0 = (9, 12) from rfl) (Nat.lt_of_lt_of_le (Nat.le_of_ble_eq_true rfl : 0 < 152) hN) (by decide) rfl rfl ⟨Nat.le_of_ble_eq_true rfl, Nat.le_of_ble_eq_true rfl⟩ ⟨Nat.le_refl 0, Nat.le_refl 0⟩ (As := [.int x1]) (st := []) rfl (Nat.le_of_ble_eq_true rfl) (dOk_at dt_X9_replies 2 rfl) (fun v_1 h_2 _ => ?_)
  refine j_if_eq hC (tgt := 17) (by decide) (dOk_at dt_X9_replies 3 rfl) (fun q_3 => ?_) (fun q_3 => ?_)
  · refine j_iconst hC (v := (-1 : Int32)) rfl (dOk_at dt_X9_replies 9 rfl) ?_
    exact j_iret hC hret (dOk_at dt_X9_replies 10 rfl)
  · refine j_iload_n hC 2 rfl rfl (dOk_at dt_X9_replies 4 rfl) ?_
    refine j_if_lt hC (tgt := 17) (by decide) (dOk_at dt_X9_replies 5 rfl) (fun q_4 => ?_) (fun q_4 => ?_)
    · refine j_iconst hC (v := (-1 : Int32)) rfl (dOk_at dt_X9_replies 9 rfl) ?_
      exact j_iret hC hret (dOk_at dt_X9_replies 10 rfl)
    · refine j_iload_n hC 2 rfl rfl (dOk_at dt_X9_replies 6 rfl) ?_
      refine j_iconst hC (v := (1 : Int32)) rfl (dOk_at dt_X9_replies 7 rfl) ?_
      refine j_icmp_le hC (tgt := 19) (by decide) (dOk_at dt_X9_replies 8 rfl) (fun q_5 => ?_) (fun q_5 => ?_)
      · refine j_aload_n hC 0 rfl rfl (dOk_at dt_X9_replies 11 rfl) ?_
        refine j_getD (q := (7, 20)) hC flX9_10 (show shp 0 = (9, 12) from rfl) (Nat.lt_of_lt_of_le (Nat.le_of_ble_eq_true rfl : 0 < 152) hN) (by decide) (by decide) (fun _ _ _ => rfl) (dOk_at dt_X9_replies 12 rfl) (fun z_6 _ g_7 => ?_)
        refine j_getR hC flX9_106 g_7 (jlt hN g_7 (by decide)) (by decide) (by decide) (fun _ _ _ => rfl) (fun hs => hs _ _ _ (sf_7_0 g_7).1) (dOk_at dt_X9_replies 13 rfl) ?_
        refine j_iload_n hC 1 rfl rfl (dOk_at dt_X9_replies 14 rfl) ?_
        refine j_callVi hC clX9_268 (fun rz hrz => c_X0_winningReply hN ((sf_7_0 g_7).2.1) _ _ rz hrz) (sf_7_0 g_7).2.1 (Nat.lt_of_lt_of_le (sf_7_0 g_7).2.2 hN) (by decide) rfl rfl ⟨Nat.le_of_ble_eq_true rfl, Nat.le_of_ble_eq_true rfl⟩ ⟨Nat.le_refl 0, Nat.le_refl 0⟩ (As := [.int x1]) (st := []) rfl (Nat.le_of_ble_eq_true rfl) (dOk_at dt_X9_replies 15 rfl) (fun v_8 h_9 _ => ?_)
        refine j_istore_n hC rfl (lv' := [(3, .int v_8), (0, .ref 0), (1, .int x1), (2, .int x2)]) (by decide) rfl (dOk_at dt_X9_replies 16 rfl) ?_
        refine j_iload_n hC 3 rfl rfl (dOk_at dt_X9_replies 17 rfl) ?_
        refine j_iconst hC (v := (1 : Int32)) rfl (dOk_at dt_X9_replies 18 rfl) ?_
        refine j_icmp_ne hC (tgt := 48) (by decide) (dOk_at dt_X9_replies 19 rfl) (fun q_10 => ?_) (fun q_10 => ?_)
        · refine j_iload_n hC 0 rfl rfl (dOk_at dt_X9_replies 27 rfl) ?_
          refine j_iconst hC (v := (-1 : Int32)) rfl (dOk_at dt_X9_replies 28 rfl) ?_
          refine j_icmp_ne hC (tgt := 57) (by decide) (dOk_at dt_X9_replies 29 rfl) (fun q_11 => ?_) (fun q_11 => ?_)
          · refine j_iconst hC (v := (1 : Int32)) rfl (dOk_at dt_X9_replies 32 rfl) ?_
            exact j_iret hC hret (dOk_at dt_X9_replies 33 rfl)
          · refine j_iconst hC (v := (0 : Int32)) rfl (dOk_at dt_X9_replies 30 rfl) ?_
            refine j_goto hC (tgt := 58) (by decide) (dOk_at dt_X9_replies 31 rfl) ?_
            exact j_iret hC hret (dOk_at dt_X9_replies 33 rfl)
        · refine j_iload_n hC 0 rfl rfl (dOk_at dt_X9_replies 20 rfl) ?_
          refine j_iconst hC (v := (-1 : Int32)) rfl (dOk_at dt_X9_replies 21 rfl) ?_
          refine j_icmp_ne hC (tgt := 46) (by decide) (dOk_at dt_X9_replies 22 rfl) (fun q_12 => ?_) (fun q_12 => ?_)
          · refine j_iload_n hC 0 rfl rfl (dOk_at dt_X9_replies 25 rfl) ?_
            exact j_iret hC hret (dOk_at dt_X9_replies 26 rfl)
          · refine j_bipush hC (v := (-2 : Int32)) rfl (dOk_at dt_X9_replies 23 rfl) ?_
            refine j_goto hC (tgt := 47) (by decide) (dOk_at dt_X9_replies 24 rfl) ?_
            exact j_iret hC hret (dOk_at dt_X9_replies 26 rfl)
      · refine j_iconst hC (v := (-1 : Int32)) rfl (dOk_at dt_X9_replies 9 rfl) ?_
        exact j_iret hC hret (dOk_at dt_X9_replies 10 rfl)
def tb_X9_weaker : List (Nat × Instr × Nat) := [(0, .aload_n 0, 1), (1, .iload_n 1, 1), (2, .invokevirtual 128, 3), (5, .ifCond .eq 17, 3), (8, .aload_n 0, 1), (9, .getfield 10, 3), (12, .getfield 106, 3), (15, .iload_n 1, 1), (16, .invokevirtual 271, 3), (19, .goto 4, 3), (22, .iconst (-1), 1), (23, .ireturn, 1)]
theorem dt_X9_weaker : dOk cX9_weaker tb_X9_weaker = true := by decide +kernel
def fX9_weaker (h : Hp) (x1 : Int32) : Option (Int32 × Hp) := bnd (fX9_isClaim h x1) (fun v_1 h_2 => if v_1 = 0 then (some ((-1 : Int32), h_2)) else ((dref shp h_2 0 3 (7, 20)).bind (fun z_4 => bnd (fX0_weakerThan (rf z_4 0) h_2 x1) (fun v_6 h_7 => some (v_6, h_7)))))
set_option maxRecDepth 100000 in
set_option maxHeartbeats 4000000 in
theorem c_X9_weaker {l : Launch} {sb : State} {D : va_G} {ids : Nat → ClassId} {n : Nat} (hN : 152 ≤ n) (h : Hp) (x1 : Int32) (r : Int32 × Hp) (hr : fX9_weaker h x1 = some r) : jM l yX9_weaker cX9_weaker 2 (some .int) 2 sb D ids shp St n [.ref 0, .int x1] h (jQi sb D ids shp St n r) := by
  refine jM_of hr rfl (Nat.le_of_ble_eq_true rfl) ?_
  intro p e s m args below meth c hC hret
  unfold fX9_weaker
  refine j_aload_n hC 0 rfl rfl (dOk_at dt_X9_weaker 0 rfl) ?_
  refine j_iload_n hC 1 rfl rfl (dOk_at dt_X9_weaker 1 rfl) ?_
  refine j_callVi hC clX9_128 (fun rz hrz => c_X9_isClaim hN _ _ rz hrz) (show shp 0 = (9, 12) from rfl) (Nat.lt_of_lt_of_le (Nat.le_of_ble_eq_true rfl : 0 < 152) hN) (by decide) rfl rfl ⟨Nat.le_of_ble_eq_true rfl, Nat.le_of_ble_eq_true rfl⟩ ⟨Nat.le_refl 0, Nat.le_refl 0⟩ (As := [.int x1]) (st := []) rfl (Nat.le_of_ble_eq_true rfl) (dOk_at dt_X9_weaker 2 rfl) (fun v_1 h_2 _ => ?_)
  refine j_if_eq hC (tgt := 22) (by decide) (dOk_at dt_X9_weaker 3 rfl) (fun q_3 => ?_) (fun q_3 => ?_)
  · refine j_iconst hC (v := (-1 : Int32)) rfl (dOk_at dt_X9_weaker 10 rfl) ?_
    exact j_iret hC hret (dOk_at dt_X9_weaker 11 rfl)
  · refine j_aload_n hC 0 rfl rfl (dOk_at dt_X9_weaker 4 rfl) ?_
    refine j_getD (q := (7, 20)) hC flX9_10 (show shp 0 = (9, 12) from rfl) (Nat.lt_of_lt_of_le (Nat.le_of_ble_eq_true rfl : 0 < 152) hN) (by decide) (by decide) (fun _ _ _ => rfl) (dOk_at dt_X9_weaker 5 rfl) (fun z_4 _ g_5 => ?_)
    refine j_getR hC flX9_106 g_5 (jlt hN g_5 (by decide)) (by decide) (by decide) (fun _ _ _ => rfl) (fun hs => hs _ _ _ (sf_7_0 g_5).1) (dOk_at dt_X9_weaker 6 rfl) ?_
    refine j_iload_n hC 1 rfl rfl (dOk_at dt_X9_weaker 7 rfl) ?_
    refine j_callVi hC clX9_271 (fun rz hrz => c_X0_weakerThan hN ((sf_7_0 g_5).2.1) _ _ rz hrz) (sf_7_0 g_5).2.1 (Nat.lt_of_lt_of_le (sf_7_0 g_5).2.2 hN) (by decide) rfl rfl ⟨Nat.le_of_ble_eq_true rfl, Nat.le_of_ble_eq_true rfl⟩ ⟨Nat.le_refl 0, Nat.le_refl 0⟩ (As := [.int x1]) (st := []) rfl (Nat.le_of_ble_eq_true rfl) (dOk_at dt_X9_weaker 8 rfl) (fun v_6 h_7 _ => ?_)
    refine j_goto hC (tgt := 23) (by decide) (dOk_at dt_X9_weaker 9 rfl) ?_
    exact j_iret hC hret (dOk_at dt_X9_weaker 11 rfl)
def tb_X9_dropFor : List (Nat × Instr × Nat) := [(0, .aload_n 0, 1), (1, .iload_n 1, 1), (2, .invokevirtual 128, 3), (5, .ifCond .eq 12, 3), (8, .iload_n 2, 1), (9, .ifCond .lt 8, 3), (12, .iload_n 2, 1), (13, .iconst 2, 1), (14, .if_icmp .le 5, 3), (17, .iconst (-1), 1), (18, .ireturn, 1), (19, .aload_n 0, 1), (20, .getfield 10, 3), (23, .getfield 106, 3), (26, .iload_n 1, 1), (27, .iload_n 2, 1), (28, .invokevirtual 274, 3), (31, .ireturn, 1)]
theorem dt_X9_dropFor : dOk cX9_dropFor tb_X9_dropFor = true := by decide +kernel
def fX9_dropFor (h : Hp) (x1 : Int32) (x2 : Int32) : Option (Int32 × Hp) := bnd (fX9_isClaim h x1) (fun v_1 h_2 => if v_1 = 0 then (some ((-1 : Int32), h_2)) else (if x2 < 0 then (some ((-1 : Int32), h_2)) else (if x2 ≤ (2 : Int32) then ((dref shp h_2 0 3 (7, 20)).bind (fun z_6 => bnd (fX0_dropped (rf z_6 0) h_2 x1 x2) (fun v_8 h_9 => some (v_8, h_9)))) else (some ((-1 : Int32), h_2)))))
set_option maxRecDepth 100000 in
set_option maxHeartbeats 4000000 in
theorem c_X9_dropFor {l : Launch} {sb : State} {D : va_G} {ids : Nat → ClassId} {n : Nat} (hN : 152 ≤ n) (h : Hp) (x1 : Int32) (x2 : Int32) (r : Int32 × Hp) (hr : fX9_dropFor h x1 x2 = some r) : jM l yX9_dropFor cX9_dropFor 3 (some .int) 6 sb D ids shp St n [.ref 0, .int x1, .int x2] h (jQi sb D ids shp St n r) := by
  refine jM_of hr rfl (Nat.le_of_ble_eq_true rfl) ?_
  intro p e s m args below meth c hC hret
  unfold fX9_dropFor
  refine j_aload_n hC 0 rfl rfl (dOk_at dt_X9_dropFor 0 rfl) ?_
  refine j_iload_n hC 1 rfl rfl (dOk_at dt_X9_dropFor 1 rfl) ?_
  refine j_callVi hC clX9_128 (fun rz hrz => c_X9_isClaim hN _ _ rz hrz) (show shp 0 = (9, 12) from rfl) (Nat.lt_of_lt_of_le (Nat.le_of_ble_eq_true rfl : 0 < 152) hN) (by decide) rfl rfl ⟨Nat.le_of_ble_eq_true rfl, Nat.le_of_ble_eq_true rfl⟩ ⟨Nat.le_refl 0, Nat.le_refl 0⟩ (As := [.int x1]) (st := []) rfl (Nat.le_of_ble_eq_true rfl) (dOk_at dt_X9_dropFor 2 rfl) (fun v_1 h_2 _ => ?_)
  refine j_if_eq hC (tgt := 17) (by decide) (dOk_at dt_X9_dropFor 3 rfl) (fun q_3 => ?_) (fun q_3 => ?_)
  · refine j_iconst hC (v := (-1 : Int32)) rfl (dOk_at dt_X9_dropFor 9 rfl) ?_
    exact j_iret hC hret (dOk_at dt_X9_dropFor 10 rfl)
  · refine j_iload_n hC 2 rfl rfl (dOk_at dt_X9_dropFor 4 rfl) ?_
    refine j_if_lt hC (tgt := 17) (by decide) (dOk_at dt_X9_dropFor 5 rfl) (fun q_4 => ?_) (fun q_4 => ?_)
    · refine j_iconst hC (v := (-1 : Int32)) rfl (dOk_at dt_X9_dropFor 9 rfl) ?_
      exact j_iret hC hret (dOk_at dt_X9_dropFor 10 rfl)
    · refine j_iload_n hC 2 rfl rfl (dOk_at dt_X9_dropFor 6 rfl) ?_
      refine j_iconst hC (v := (2 : Int32)) rfl (dOk_at dt_X9_dropFor 7 rfl) ?_
      refine j_icmp_le hC (tgt := 19) (by decide) (dOk_at dt_X9_dropFor 8 rfl) (fun q_5 => ?_) (fun q_5 => ?_)
      · refine j_aload_n hC 0 rfl rfl (dOk_at dt_X9_dropFor 11 rfl) ?_
        refine j_getD (q := (7, 20)) hC flX9_10 (show shp 0 = (9, 12) from rfl) (Nat.lt_of_lt_of_le (Nat.le_of_ble_eq_true rfl : 0 < 152) hN) (by decide) (by decide) (fun _ _ _ => rfl) (dOk_at dt_X9_dropFor 12 rfl) (fun z_6 _ g_7 => ?_)
        refine j_getR hC flX9_106 g_7 (jlt hN g_7 (by decide)) (by decide) (by decide) (fun _ _ _ => rfl) (fun hs => hs _ _ _ (sf_7_0 g_7).1) (dOk_at dt_X9_dropFor 13 rfl) ?_
        refine j_iload_n hC 1 rfl rfl (dOk_at dt_X9_dropFor 14 rfl) ?_
        refine j_iload_n hC 2 rfl rfl (dOk_at dt_X9_dropFor 15 rfl) ?_
        refine j_callVi hC clX9_274 (fun rz hrz => c_X0_dropped hN ((sf_7_0 g_7).2.1) _ _ _ rz hrz) (sf_7_0 g_7).2.1 (Nat.lt_of_lt_of_le (sf_7_0 g_7).2.2 hN) (by decide) rfl rfl ⟨Nat.le_of_ble_eq_true rfl, Nat.le_of_ble_eq_true rfl⟩ ⟨Nat.le_refl 0, Nat.le_refl 0⟩ (As := [.int x1, .int x2]) (st := []) rfl (Nat.le_of_ble_eq_true rfl) (dOk_at dt_X9_dropFor 16 rfl) (fun v_8 h_9 _ => ?_)
        exact j_iret hC hret (dOk_at dt_X9_dropFor 17 rfl)
      · refine j_iconst hC (v := (-1 : Int32)) rfl (dOk_at dt_X9_dropFor 9 rfl) ?_
        exact j_iret hC hret (dOk_at dt_X9_dropFor 10 rfl)
def tb_X9_areTwo : List (Nat × Instr × Nat) := [(0, .aload_n 0, 1), (1, .iload_n 1, 1), (2, .invokevirtual 168, 3), (5, .ifCond .eq 20, 3), (8, .aload_n 0, 1), (9, .iload_n 2, 1), (10, .invokevirtual 168, 3), (13, .ifCond .eq 12, 3), (16, .iload_n 1, 1), (17, .iload_n 2, 1), (18, .if_icmp .eq 7, 3), (21, .iconst 1, 1), (22, .goto 4, 3), (25, .iconst 0, 1), (26, .ireturn, 1)]
theorem dt_X9_areTwo : dOk cX9_areTwo tb_X9_areTwo = true := by decide +kernel
def fX9_areTwo (h : Hp) (x1 : Int32) (x2 : Int32) : Option (Int32 × Hp) := bnd (fX9_isMember h x1) (fun v_1 h_2 => if v_1 = 0 then (some ((0 : Int32), h_2)) else (bnd (fX9_isMember h_2 x2) (fun v_4 h_5 => if v_4 = 0 then (some ((0 : Int32), h_5)) else (if x1 = x2 then (some ((0 : Int32), h_5)) else (some ((1 : Int32), h_5))))))
set_option maxRecDepth 100000 in
set_option maxHeartbeats 4000000 in
theorem c_X9_areTwo {l : Launch} {sb : State} {D : va_G} {ids : Nat → ClassId} {n : Nat} (hN : 152 ≤ n) (h : Hp) (x1 : Int32) (x2 : Int32) (r : Int32 × Hp) (hr : fX9_areTwo h x1 x2 = some r) : jM l yX9_areTwo cX9_areTwo 3 (some .boolean) 1 sb D ids shp St n [.ref 0, .int x1, .int x2] h (jQi sb D ids shp St n r) := by
  refine jM_of hr rfl (Nat.le_of_ble_eq_true rfl) ?_
  intro p e s m args below meth c hC hret
  unfold fX9_areTwo
  refine j_aload_n hC 0 rfl rfl (dOk_at dt_X9_areTwo 0 rfl) ?_
  refine j_iload_n hC 1 rfl rfl (dOk_at dt_X9_areTwo 1 rfl) ?_
  refine j_callVi hC clX9_168 (fun rz hrz => c_X9_isMember hN _ _ rz hrz) (show shp 0 = (9, 12) from rfl) (Nat.lt_of_lt_of_le (Nat.le_of_ble_eq_true rfl : 0 < 152) hN) (by decide) rfl rfl ⟨Nat.le_of_ble_eq_true rfl, Nat.le_of_ble_eq_true rfl⟩ ⟨Nat.le_refl 0, Nat.le_refl 0⟩ (As := [.int x1]) (st := []) rfl (Nat.le_of_ble_eq_true rfl) (dOk_at dt_X9_areTwo 2 rfl) (fun v_1 h_2 _ => ?_)
  refine j_if_eq hC (tgt := 25) (by decide) (dOk_at dt_X9_areTwo 3 rfl) (fun q_3 => ?_) (fun q_3 => ?_)
  · refine j_iconst hC (v := (0 : Int32)) rfl (dOk_at dt_X9_areTwo 13 rfl) ?_
    exact j_zretK hC hret rfl (dOk_at dt_X9_areTwo 14 rfl)
  · refine j_aload_n hC 0 rfl rfl (dOk_at dt_X9_areTwo 4 rfl) ?_
    refine j_iload_n hC 2 rfl rfl (dOk_at dt_X9_areTwo 5 rfl) ?_
    refine j_callVi hC clX9_168 (fun rz hrz => c_X9_isMember hN _ _ rz hrz) (show shp 0 = (9, 12) from rfl) (Nat.lt_of_lt_of_le (Nat.le_of_ble_eq_true rfl : 0 < 152) hN) (by decide) rfl rfl ⟨Nat.le_of_ble_eq_true rfl, Nat.le_of_ble_eq_true rfl⟩ ⟨Nat.le_refl 0, Nat.le_refl 0⟩ (As := [.int x2]) (st := []) rfl (Nat.le_of_ble_eq_true rfl) (dOk_at dt_X9_areTwo 6 rfl) (fun v_4 h_5 _ => ?_)
    refine j_if_eq hC (tgt := 25) (by decide) (dOk_at dt_X9_areTwo 7 rfl) (fun q_6 => ?_) (fun q_6 => ?_)
    · refine j_iconst hC (v := (0 : Int32)) rfl (dOk_at dt_X9_areTwo 13 rfl) ?_
      exact j_zretK hC hret rfl (dOk_at dt_X9_areTwo 14 rfl)
    · refine j_iload_n hC 1 rfl rfl (dOk_at dt_X9_areTwo 8 rfl) ?_
      refine j_iload_n hC 2 rfl rfl (dOk_at dt_X9_areTwo 9 rfl) ?_
      refine j_icmp_eq hC (tgt := 25) (by decide) (dOk_at dt_X9_areTwo 10 rfl) (fun q_7 => ?_) (fun q_7 => ?_)
      · refine j_iconst hC (v := (0 : Int32)) rfl (dOk_at dt_X9_areTwo 13 rfl) ?_
        exact j_zretK hC hret rfl (dOk_at dt_X9_areTwo 14 rfl)
      · refine j_iconst hC (v := (1 : Int32)) rfl (dOk_at dt_X9_areTwo 11 rfl) ?_
        refine j_goto hC (tgt := 26) (by decide) (dOk_at dt_X9_areTwo 12 rfl) ?_
        exact j_zretK hC hret rfl (dOk_at dt_X9_areTwo 14 rfl)
def tb_X9_pointsOf : List (Nat × Instr × Nat) := [(0, .aload_n 0, 1), (1, .getfield 10, 3), (4, .getfield 106, 3), (7, .aload_n 0, 1), (8, .getfield 38, 3), (11, .iload_n 1, 1), (12, .invokevirtual 171, 3), (15, .aload_n 0, 1), (16, .getfield 38, 3), (19, .iload_n 2, 1), (20, .invokevirtual 171, 3), (23, .invokevirtual 364, 3), (26, .ireturn, 1)]
theorem dt_X9_pointsOf : dOk cX9_pointsOf tb_X9_pointsOf = true := by decide +kernel
def fX9_pointsOf (h : Hp) (x1 : Int32) (x2 : Int32) : Option (Int32 × Hp) := (dref shp h 0 3 (7, 20)).bind (fun z_1 => bnd (fX8_holdsOf 72 h x1) (fun v_3 h_4 => bnd (fX8_holdsOf 72 h_4 x2) (fun v_5 h_6 => bnd (fX0_contrasBetween (rf z_1 0) h_6 v_3 v_5) (fun v_7 h_8 => some (v_7, h_8)))))
set_option maxRecDepth 100000 in
set_option maxHeartbeats 4000000 in
theorem c_X9_pointsOf {l : Launch} {sb : State} {D : va_G} {ids : Nat → ClassId} {n : Nat} (hN : 152 ≤ n) (h : Hp) (x1 : Int32) (x2 : Int32) (r : Int32 × Hp) (hr : fX9_pointsOf h x1 x2 = some r) : jM l yX9_pointsOf cX9_pointsOf 3 (some .int) 1 sb D ids shp St n [.ref 0, .int x1, .int x2] h (jQi sb D ids shp St n r) := by
  refine jM_of hr rfl (Nat.le_of_ble_eq_true rfl) ?_
  intro p e s m args below meth c hC hret
  unfold fX9_pointsOf
  refine j_aload_n hC 0 rfl rfl (dOk_at dt_X9_pointsOf 0 rfl) ?_
  refine j_getD (q := (7, 20)) hC flX9_10 (show shp 0 = (9, 12) from rfl) (Nat.lt_of_lt_of_le (Nat.le_of_ble_eq_true rfl : 0 < 152) hN) (by decide) (by decide) (fun _ _ _ => rfl) (dOk_at dt_X9_pointsOf 1 rfl) (fun z_1 _ g_2 => ?_)
  refine j_getR hC flX9_106 g_2 (jlt hN g_2 (by decide)) (by decide) (by decide) (fun _ _ _ => rfl) (fun hs => hs _ _ _ (sf_7_0 g_2).1) (dOk_at dt_X9_pointsOf 2 rfl) ?_
  refine j_aload_n hC 0 rfl rfl (dOk_at dt_X9_pointsOf 3 rfl) ?_
  refine j_getR hC flX9_38 (show shp 0 = (9, 12) from rfl) (Nat.lt_of_lt_of_le (Nat.le_of_ble_eq_true rfl : 0 < 152) hN) (by decide) (by decide) (fun _ _ _ => rfl) (fun hs => hs 0 5 72 rfl) (dOk_at dt_X9_pointsOf 4 rfl) ?_
  refine j_iload_n hC 1 rfl rfl (dOk_at dt_X9_pointsOf 5 rfl) ?_
  refine j_callVi hC clX9_171 (fun rz hrz => c_X8_holdsOf hN ((show shp 72 = (8, 15) from rfl)) _ _ rz hrz) (show shp 72 = (8, 15) from rfl) (Nat.lt_of_lt_of_le (Nat.le_of_ble_eq_true rfl : 72 < 152) hN) (by decide) rfl rfl ⟨Nat.le_of_ble_eq_true rfl, Nat.le_of_ble_eq_true rfl⟩ ⟨Nat.le_refl 0, Nat.le_refl 0⟩ (As := [.int x1]) (st := [.ref (rf z_1 0)]) rfl (Nat.le_of_ble_eq_true rfl) (dOk_at dt_X9_pointsOf 6 rfl) (fun v_3 h_4 _ => ?_)
  refine j_aload_n hC 0 rfl rfl (dOk_at dt_X9_pointsOf 7 rfl) ?_
  refine j_getR hC flX9_38 (show shp 0 = (9, 12) from rfl) (Nat.lt_of_lt_of_le (Nat.le_of_ble_eq_true rfl : 0 < 152) hN) (by decide) (by decide) (fun _ _ _ => rfl) (fun hs => hs 0 5 72 rfl) (dOk_at dt_X9_pointsOf 8 rfl) ?_
  refine j_iload_n hC 2 rfl rfl (dOk_at dt_X9_pointsOf 9 rfl) ?_
  refine j_callVi hC clX9_171 (fun rz hrz => c_X8_holdsOf hN ((show shp 72 = (8, 15) from rfl)) _ _ rz hrz) (show shp 72 = (8, 15) from rfl) (Nat.lt_of_lt_of_le (Nat.le_of_ble_eq_true rfl : 72 < 152) hN) (by decide) rfl rfl ⟨Nat.le_of_ble_eq_true rfl, Nat.le_of_ble_eq_true rfl⟩ ⟨Nat.le_refl 0, Nat.le_refl 0⟩ (As := [.int x2]) (st := [.int v_3, .ref (rf z_1 0)]) rfl (Nat.le_of_ble_eq_true rfl) (dOk_at dt_X9_pointsOf 10 rfl) (fun v_5 h_6 _ => ?_)
  refine j_callVi hC clX9_364 (fun rz hrz => c_X0_contrasBetween hN ((sf_7_0 g_2).2.1) _ _ _ rz hrz) (sf_7_0 g_2).2.1 (Nat.lt_of_lt_of_le (sf_7_0 g_2).2.2 hN) (by decide) rfl rfl ⟨Nat.le_of_ble_eq_true rfl, Nat.le_of_ble_eq_true rfl⟩ ⟨Nat.le_refl 0, Nat.le_refl 0⟩ (As := [.int v_3, .int v_5]) (st := []) rfl (Nat.le_of_ble_eq_true rfl) (dOk_at dt_X9_pointsOf 11 rfl) (fun v_7 h_8 _ => ?_)
  exact j_iret hC hret (dOk_at dt_X9_pointsOf 12 rfl)
def tb_X9_points : List (Nat × Instr × Nat) := [(0, .aload_n 0, 1), (1, .iload_n 1, 1), (2, .iload_n 2, 1), (3, .invokevirtual 277, 3), (6, .ifCond .ne 5, 3), (9, .iconst (-1), 1), (10, .ireturn, 1), (11, .aload_n 0, 1), (12, .iload_n 1, 1), (13, .iload_n 2, 1), (14, .invokevirtual 280, 3), (17, .ireturn, 1)]
theorem dt_X9_points : dOk cX9_points tb_X9_points = true := by decide +kernel
def fX9_points (h : Hp) (x1 : Int32) (x2 : Int32) : Option (Int32 × Hp) := bnd (fX9_areTwo h x1 x2) (fun v_1 h_2 => if v_1 = 0 then (some ((-1 : Int32), h_2)) else (bnd (fX9_pointsOf h_2 x1 x2) (fun v_4 h_5 => some (v_4, h_5))))
set_option maxRecDepth 100000 in
set_option maxHeartbeats 4000000 in
theorem c_X9_points {l : Launch} {sb : State} {D : va_G} {ids : Nat → ClassId} {n : Nat} (hN : 152 ≤ n) (h : Hp) (x1 : Int32) (x2 : Int32) (r : Int32 × Hp) (hr : fX9_points h x1 x2 = some r) : jM l yX9_points cX9_points 3 (some .int) 2 sb D ids shp St n [.ref 0, .int x1, .int x2] h (jQi sb D ids shp St n r) := by
  refine jM_of hr rfl (Nat.le_of_ble_eq_true rfl) ?_
  intro p e s m args below meth c hC hret
  unfold fX9_points
  refine j_aload_n hC 0 rfl rfl (dOk_at dt_X9_points 0 rfl) ?_
  refine j_iload_n hC 1 rfl rfl (dOk_at dt_X9_points 1 rfl) ?_
  refine j_iload_n hC 2 rfl rfl (dOk_at dt_X9_points 2 rfl) ?_
  refine j_callVi hC clX9_277 (fun rz hrz => c_X9_areTwo hN _ _ _ rz hrz) (show shp 0 = (9, 12) from rfl) (Nat.lt_of_lt_of_le (Nat.le_of_ble_eq_true rfl : 0 < 152) hN) (by decide) rfl rfl ⟨Nat.le_of_ble_eq_true rfl, Nat.le_of_ble_eq_true rfl⟩ ⟨Nat.le_refl 0, Nat.le_refl 0⟩ (As := [.int x1, .int x2]) (st := []) rfl (Nat.le_of_ble_eq_true rfl) (dOk_at dt_X9_points 3 rfl) (fun v_1 h_2 _ => ?_)
  refine j_if_ne hC (tgt := 11) (by decide) (dOk_at dt_X9_points 4 rfl) (fun q_3 => ?_) (fun q_3 => ?_)
  · refine j_aload_n hC 0 rfl rfl (dOk_at dt_X9_points 7 rfl) ?_
    refine j_iload_n hC 1 rfl rfl (dOk_at dt_X9_points 8 rfl) ?_
    refine j_iload_n hC 2 rfl rfl (dOk_at dt_X9_points 9 rfl) ?_
    refine j_callVi hC clX9_280 (fun rz hrz => c_X9_pointsOf hN _ _ _ rz hrz) (show shp 0 = (9, 12) from rfl) (Nat.lt_of_lt_of_le (Nat.le_of_ble_eq_true rfl : 0 < 152) hN) (by decide) rfl rfl ⟨Nat.le_of_ble_eq_true rfl, Nat.le_of_ble_eq_true rfl⟩ ⟨Nat.le_refl 0, Nat.le_refl 0⟩ (As := [.int x1, .int x2]) (st := []) rfl (Nat.le_of_ble_eq_true rfl) (dOk_at dt_X9_points 10 rfl) (fun v_4 h_5 _ => ?_)
    exact j_iret hC hret (dOk_at dt_X9_points 11 rfl)
  · refine j_iconst hC (v := (-1 : Int32)) rfl (dOk_at dt_X9_points 5 rfl) ?_
    exact j_iret hC hret (dOk_at dt_X9_points 6 rfl)
def tb_X9_agreed : List (Nat × Instr × Nat) := [(0, .aload_n 0, 1), (1, .iload_n 1, 1), (2, .iload_n 2, 1), (3, .invokevirtual 277, 3), (6, .ifCond .ne 5, 3), (9, .iconst (-1), 1), (10, .ireturn, 1), (11, .aload_n 0, 1), (12, .getfield 38, 3), (15, .iload_n 1, 1), (16, .invokevirtual 171, 3), (19, .aload_n 0, 1), (20, .getfield 38, 3), (23, .iload_n 2, 1), (24, .invokevirtual 171, 3), (27, .iand, 1), (28, .ireturn, 1)]
theorem dt_X9_agreed : dOk cX9_agreed tb_X9_agreed = true := by decide +kernel
def fX9_agreed (h : Hp) (x1 : Int32) (x2 : Int32) : Option (Int32 × Hp) := bnd (fX9_areTwo h x1 x2) (fun v_1 h_2 => if v_1 = 0 then (some ((-1 : Int32), h_2)) else (bnd (fX8_holdsOf 72 h_2 x1) (fun v_4 h_5 => bnd (fX8_holdsOf 72 h_5 x2) (fun v_6 h_7 => some ((v_4 &&& v_6), h_7)))))
set_option maxRecDepth 100000 in
set_option maxHeartbeats 4000000 in
theorem c_X9_agreed {l : Launch} {sb : State} {D : va_G} {ids : Nat → ClassId} {n : Nat} (hN : 152 ≤ n) (h : Hp) (x1 : Int32) (x2 : Int32) (r : Int32 × Hp) (hr : fX9_agreed h x1 x2 = some r) : jM l yX9_agreed cX9_agreed 3 (some .int) 2 sb D ids shp St n [.ref 0, .int x1, .int x2] h (jQi sb D ids shp St n r) := by
  refine jM_of hr rfl (Nat.le_of_ble_eq_true rfl) ?_
  intro p e s m args below meth c hC hret
  unfold fX9_agreed
  refine j_aload_n hC 0 rfl rfl (dOk_at dt_X9_agreed 0 rfl) ?_
  refine j_iload_n hC 1 rfl rfl (dOk_at dt_X9_agreed 1 rfl) ?_
  refine j_iload_n hC 2 rfl rfl (dOk_at dt_X9_agreed 2 rfl) ?_
  refine j_callVi hC clX9_277 (fun rz hrz => c_X9_areTwo hN _ _ _ rz hrz) (show shp 0 = (9, 12) from rfl) (Nat.lt_of_lt_of_le (Nat.le_of_ble_eq_true rfl : 0 < 152) hN) (by decide) rfl rfl ⟨Nat.le_of_ble_eq_true rfl, Nat.le_of_ble_eq_true rfl⟩ ⟨Nat.le_refl 0, Nat.le_refl 0⟩ (As := [.int x1, .int x2]) (st := []) rfl (Nat.le_of_ble_eq_true rfl) (dOk_at dt_X9_agreed 3 rfl) (fun v_1 h_2 _ => ?_)
  refine j_if_ne hC (tgt := 11) (by decide) (dOk_at dt_X9_agreed 4 rfl) (fun q_3 => ?_) (fun q_3 => ?_)
  · refine j_aload_n hC 0 rfl rfl (dOk_at dt_X9_agreed 7 rfl) ?_
    refine j_getR hC flX9_38 (show shp 0 = (9, 12) from rfl) (Nat.lt_of_lt_of_le (Nat.le_of_ble_eq_true rfl : 0 < 152) hN) (by decide) (by decide) (fun _ _ _ => rfl) (fun hs => hs 0 5 72 rfl) (dOk_at dt_X9_agreed 8 rfl) ?_
    refine j_iload_n hC 1 rfl rfl (dOk_at dt_X9_agreed 9 rfl) ?_
    refine j_callVi hC clX9_171 (fun rz hrz => c_X8_holdsOf hN ((show shp 72 = (8, 15) from rfl)) _ _ rz hrz) (show shp 72 = (8, 15) from rfl) (Nat.lt_of_lt_of_le (Nat.le_of_ble_eq_true rfl : 72 < 152) hN) (by decide) rfl rfl ⟨Nat.le_of_ble_eq_true rfl, Nat.le_of_ble_eq_true rfl⟩ ⟨Nat.le_refl 0, Nat.le_refl 0⟩ (As := [.int x1]) (st := []) rfl (Nat.le_of_ble_eq_true rfl) (dOk_at dt_X9_agreed 10 rfl) (fun v_4 h_5 _ => ?_)
    refine j_aload_n hC 0 rfl rfl (dOk_at dt_X9_agreed 11 rfl) ?_
    refine j_getR hC flX9_38 (show shp 0 = (9, 12) from rfl) (Nat.lt_of_lt_of_le (Nat.le_of_ble_eq_true rfl : 0 < 152) hN) (by decide) (by decide) (fun _ _ _ => rfl) (fun hs => hs 0 5 72 rfl) (dOk_at dt_X9_agreed 12 rfl) ?_
    refine j_iload_n hC 2 rfl rfl (dOk_at dt_X9_agreed 13 rfl) ?_
    refine j_callVi hC clX9_171 (fun rz hrz => c_X8_holdsOf hN ((show shp 72 = (8, 15) from rfl)) _ _ rz hrz) (show shp 72 = (8, 15) from rfl) (Nat.lt_of_lt_of_le (Nat.le_of_ble_eq_true rfl : 72 < 152) hN) (by decide) rfl rfl ⟨Nat.le_of_ble_eq_true rfl, Nat.le_of_ble_eq_true rfl⟩ ⟨Nat.le_refl 0, Nat.le_refl 0⟩ (As := [.int x2]) (st := [.int v_4]) rfl (Nat.le_of_ble_eq_true rfl) (dOk_at dt_X9_agreed 14 rfl) (fun v_6 h_7 _ => ?_)
    refine j_iand hC (dOk_at dt_X9_agreed 15 rfl) ?_
    exact j_iret hC hret (dOk_at dt_X9_agreed 16 rfl)
  · refine j_iconst hC (v := (-1 : Int32)) rfl (dOk_at dt_X9_agreed 5 rfl) ?_
    exact j_iret hC hret (dOk_at dt_X9_agreed 6 rfl)
def tb_X9_match : List (Nat × Instr × Nat) := [(0, .iload_n 1, 1), (1, .ifCond .lt 8, 3), (4, .iload_n 1, 1), (5, .iconst 5, 1), (6, .if_icmp .le 5, 3), (9, .iconst (-1), 1), (10, .ireturn, 1), (11, .aload_n 0, 1), (12, .getfield 69, 3), (15, .aload_n 0, 1), (16, .getfield 38, 3), (19, .invokevirtual 283, 3), (22, .iload_n 1, 1), (23, .iconst 5, 1), (24, .if_icmp .ne 13, 3), (27, .aload_n 0, 1), (28, .getfield 69, 3), (31, .getfield 287, 3), (34, .goto 11, 3), (37, .aload_n 0, 1), (38, .getfield 69, 3), (41, .iload_n 1, 1), (42, .invokevirtual 290, 3), (45, .ireturn, 1)]
theorem dt_X9_match : dOk cX9_match tb_X9_match = true := by decide +kernel
def fX9_match (h : Hp) (x1 : Int32) : Option (Int32 × Hp) := if x1 < 0 then (some ((-1 : Int32), h)) else (if x1 ≤ (5 : Int32) then ((fX3_pair 72 h).bind (fun h_4 => if x1 = (5 : Int32) then (some ((hI h_4 103 0), h_4)) else (bnd (fX3_strawOf h_4 x1) (fun v_6 h_7 => some (v_6, h_7))))) else (some ((-1 : Int32), h)))
set_option maxRecDepth 100000 in
set_option maxHeartbeats 4000000 in
theorem c_X9_match {l : Launch} {sb : State} {D : va_G} {ids : Nat → ClassId} {n : Nat} (hN : 152 ≤ n) (h : Hp) (x1 : Int32) (r : Int32 × Hp) (hr : fX9_match h x1 = some r) : jM l yX9_match cX9_match 2 (some .int) 6 sb D ids shp St n [.ref 0, .int x1] h (jQi sb D ids shp St n r) := by
  refine jM_of hr rfl (Nat.le_of_ble_eq_true rfl) ?_
  intro p e s m args below meth c hC hret
  unfold fX9_match
  refine j_iload_n hC 1 rfl rfl (dOk_at dt_X9_match 0 rfl) ?_
  refine j_if_lt hC (tgt := 9) (by decide) (dOk_at dt_X9_match 1 rfl) (fun q_1 => ?_) (fun q_1 => ?_)
  · refine j_iconst hC (v := (-1 : Int32)) rfl (dOk_at dt_X9_match 5 rfl) ?_
    exact j_iret hC hret (dOk_at dt_X9_match 6 rfl)
  · refine j_iload_n hC 1 rfl rfl (dOk_at dt_X9_match 2 rfl) ?_
    refine j_iconst hC (v := (5 : Int32)) rfl (dOk_at dt_X9_match 3 rfl) ?_
    refine j_icmp_le hC (tgt := 11) (by decide) (dOk_at dt_X9_match 4 rfl) (fun q_2 => ?_) (fun q_2 => ?_)
    · refine j_aload_n hC 0 rfl rfl (dOk_at dt_X9_match 7 rfl) ?_
      refine j_getR hC flX9_69 (show shp 0 = (9, 12) from rfl) (Nat.lt_of_lt_of_le (Nat.le_of_ble_eq_true rfl : 0 < 152) hN) (by decide) (by decide) (fun _ _ _ => rfl) (fun hs => hs 0 11 103 rfl) (dOk_at dt_X9_match 8 rfl) ?_
      refine j_aload_n hC 0 rfl rfl (dOk_at dt_X9_match 9 rfl) ?_
      refine j_getR hC flX9_38 (show shp 0 = (9, 12) from rfl) (Nat.lt_of_lt_of_le (Nat.le_of_ble_eq_true rfl : 0 < 152) hN) (by decide) (by decide) (fun _ _ _ => rfl) (fun hs => hs 0 5 72 rfl) (dOk_at dt_X9_match 10 rfl) ?_
      refine j_callVv hC clX9_283 (fun rz hrz => c_X3_pair hN ((show shp 72 = (8, 15) from rfl)) _ rz hrz) (show shp 103 = (3, 4) from rfl) (Nat.lt_of_lt_of_le (Nat.le_of_ble_eq_true rfl : 103 < 152) hN) (by decide) rfl rfl ⟨Nat.le_of_ble_eq_true rfl, Nat.le_of_ble_eq_true rfl⟩ ⟨Nat.le_refl 0, Nat.le_refl 0⟩ (As := [.ref 72]) (st := []) rfl (Nat.le_of_ble_eq_true rfl) (dOk_at dt_X9_match 11 rfl) (fun h_4 _ => ?_)
      refine j_iload_n hC 1 rfl rfl (dOk_at dt_X9_match 12 rfl) ?_
      refine j_iconst hC (v := (5 : Int32)) rfl (dOk_at dt_X9_match 13 rfl) ?_
      refine j_icmp_ne hC (tgt := 37) (by decide) (dOk_at dt_X9_match 14 rfl) (fun q_5 => ?_) (fun q_5 => ?_)
      · refine j_aload_n hC 0 rfl rfl (dOk_at dt_X9_match 19 rfl) ?_
        refine j_getR hC flX9_69 (show shp 0 = (9, 12) from rfl) (Nat.lt_of_lt_of_le (Nat.le_of_ble_eq_true rfl : 0 < 152) hN) (by decide) (by decide) (fun _ _ _ => rfl) (fun hs => hs 0 11 103 rfl) (dOk_at dt_X9_match 20 rfl) ?_
        refine j_iload_n hC 1 rfl rfl (dOk_at dt_X9_match 21 rfl) ?_
        refine j_callVi hC clX9_290 (fun rz hrz => c_X3_strawOf hN _ _ rz hrz) (show shp 103 = (3, 4) from rfl) (Nat.lt_of_lt_of_le (Nat.le_of_ble_eq_true rfl : 103 < 152) hN) (by decide) rfl rfl ⟨Nat.le_of_ble_eq_true rfl, Nat.le_of_ble_eq_true rfl⟩ ⟨Nat.le_refl 0, Nat.le_refl 0⟩ (As := [.int x1]) (st := []) rfl (Nat.le_of_ble_eq_true rfl) (dOk_at dt_X9_match 22 rfl) (fun v_6 h_7 _ => ?_)
        exact j_iret hC hret (dOk_at dt_X9_match 23 rfl)
      · refine j_aload_n hC 0 rfl rfl (dOk_at dt_X9_match 15 rfl) ?_
        refine j_getR hC flX9_69 (show shp 0 = (9, 12) from rfl) (Nat.lt_of_lt_of_le (Nat.le_of_ble_eq_true rfl : 0 < 152) hN) (by decide) (by decide) (fun _ _ _ => rfl) (fun hs => hs 0 11 103 rfl) (dOk_at dt_X9_match 16 rfl) ?_
        refine j_getI hC flX9_287 (show shp 103 = (3, 4) from rfl) (Nat.lt_of_lt_of_le (Nat.le_of_ble_eq_true rfl : 103 < 152) hN) (by decide) (by decide) (fun _ _ _ => rfl) (dOk_at dt_X9_match 17 rfl) ?_
        refine j_goto hC (tgt := 45) (by decide) (dOk_at dt_X9_match 18 rfl) ?_
        exact j_iret hC hret (dOk_at dt_X9_match 23 rfl)
    · refine j_iconst hC (v := (-1 : Int32)) rfl (dOk_at dt_X9_match 5 rfl) ?_
      exact j_iret hC hret (dOk_at dt_X9_match 6 rfl)
def tb_X9_gain : List (Nat × Instr × Nat) := [(0, .aload_n 0, 1), (1, .iload_n 1, 1), (2, .iload_n 2, 1), (3, .invokevirtual 280, 3), (6, .istore 5, 2), (8, .aload_n 0, 1), (9, .getfield 38, 3), (12, .iload_n 1, 1), (13, .invokevirtual 171, 3), (16, .aload_n 0, 1), (17, .getfield 38, 3), (20, .iload_n 2, 1), (21, .invokevirtual 171, 3), (24, .iand, 1), (25, .invokestatic 208, 3), (28, .istore 6, 2), (30, .iload_n 3, 1), (31, .ifCond .ne 28, 3), (34, .iload 4, 2), (36, .ifCond .ne 20, 3), (39, .aload_n 0, 1), (40, .getfield 38, 3), (43, .iload_n 1, 1), (44, .invokevirtual 171, 3), (47, .invokestatic 208, 3), (50, .iload 5, 2), (52, .isub, 1), (53, .goto 5, 3), (56, .iload 5, 2), (58, .ireturn, 1), (59, .iload 4, 2), (61, .ifCond .ne 8, 3), (64, .iload 6, 2), (66, .goto 7, 3), (69, .iconst 2, 1), (70, .iload 6, 2), (72, .imul, 1), (73, .ireturn, 1)]
theorem dt_X9_gain : dOk cX9_gain tb_X9_gain = true := by decide +kernel
def fX9_gain (h : Hp) (x1 : Int32) (x2 : Int32) (x3 : Int32) (x4 : Int32) : Option (Int32 × Hp) := bnd (fX9_pointsOf h x1 x2) (fun v_1 h_2 => bnd (fX8_holdsOf 72 h_2 x1) (fun v_3 h_4 => bnd (fX8_holdsOf 72 h_4 x2) (fun v_5 h_6 => bnd (fJ6_bitCount_0f7a4 h_6 (v_3 &&& v_5)) (fun v_7 h_8 => if x3 = 0 then (if x4 = 0 then (bnd (fX8_holdsOf 72 h_8 x1) (fun v_12 h_13 => bnd (fJ6_bitCount_0f7a4 h_13 v_12) (fun v_14 h_15 => some ((v_14 - v_1), h_15)))) else (some (v_1, h_8))) else (if x4 = 0 then (some (v_7, h_8)) else (some (((2 : Int32) * v_7), h_8)))))))
set_option maxRecDepth 100000 in
set_option maxHeartbeats 4000000 in
theorem c_X9_gain {l : Launch} {sb : State} {D : va_G} {ids : Nat → ClassId} {n : Nat} (hN : 152 ≤ n) (h : Hp) (x1 : Int32) (x2 : Int32) (x3 : Int32) (x4 : Int32) (r : Int32 × Hp) (hr : fX9_gain h x1 x2 x3 x4 = some r) : jM l yX9_gain cX9_gain 7 (some .int) 2 sb D ids shp St n [.ref 0, .int x1, .int x2, .int x3, .int x4] h (jQi sb D ids shp St n r) := by
  refine jM_of hr rfl (Nat.le_of_ble_eq_true rfl) ?_
  intro p e s m args below meth c hC hret
  unfold fX9_gain
  refine j_aload_n hC 0 rfl rfl (dOk_at dt_X9_gain 0 rfl) ?_
  refine j_iload_n hC 1 rfl rfl (dOk_at dt_X9_gain 1 rfl) ?_
  refine j_iload_n hC 2 rfl rfl (dOk_at dt_X9_gain 2 rfl) ?_
  refine j_callVi hC clX9_280 (fun rz hrz => c_X9_pointsOf hN _ _ _ rz hrz) (show shp 0 = (9, 12) from rfl) (Nat.lt_of_lt_of_le (Nat.le_of_ble_eq_true rfl : 0 < 152) hN) (by decide) rfl rfl ⟨Nat.le_of_ble_eq_true rfl, Nat.le_of_ble_eq_true rfl⟩ ⟨Nat.le_refl 0, Nat.le_refl 0⟩ (As := [.int x1, .int x2]) (st := []) rfl (Nat.le_of_ble_eq_true rfl) (dOk_at dt_X9_gain 3 rfl) (fun v_1 h_2 _ => ?_)
  refine j_istore hC (lv' := [(5, .int v_1), (0, .ref 0), (1, .int x1), (2, .int x2), (3, .int x3), (4, .int x4)]) (by decide) rfl (dOk_at dt_X9_gain 4 rfl) ?_
  refine j_aload_n hC 1 rfl rfl (dOk_at dt_X9_gain 5 rfl) ?_
  refine j_getR hC flX9_38 (show shp 0 = (9, 12) from rfl) (Nat.lt_of_lt_of_le (Nat.le_of_ble_eq_true rfl : 0 < 152) hN) (by decide) (by decide) (fun _ _ _ => rfl) (fun hs => hs 0 5 72 rfl) (dOk_at dt_X9_gain 6 rfl) ?_
  refine j_iload_n hC 2 rfl rfl (dOk_at dt_X9_gain 7 rfl) ?_
  refine j_callVi hC clX9_171 (fun rz hrz => c_X8_holdsOf hN ((show shp 72 = (8, 15) from rfl)) _ _ rz hrz) (show shp 72 = (8, 15) from rfl) (Nat.lt_of_lt_of_le (Nat.le_of_ble_eq_true rfl : 72 < 152) hN) (by decide) rfl rfl ⟨Nat.le_of_ble_eq_true rfl, Nat.le_of_ble_eq_true rfl⟩ ⟨Nat.le_refl 0, Nat.le_refl 0⟩ (As := [.int x1]) (st := []) rfl (Nat.le_of_ble_eq_true rfl) (dOk_at dt_X9_gain 8 rfl) (fun v_3 h_4 _ => ?_)
  refine j_aload_n hC 1 rfl rfl (dOk_at dt_X9_gain 9 rfl) ?_
  refine j_getR hC flX9_38 (show shp 0 = (9, 12) from rfl) (Nat.lt_of_lt_of_le (Nat.le_of_ble_eq_true rfl : 0 < 152) hN) (by decide) (by decide) (fun _ _ _ => rfl) (fun hs => hs 0 5 72 rfl) (dOk_at dt_X9_gain 10 rfl) ?_
  refine j_iload_n hC 3 rfl rfl (dOk_at dt_X9_gain 11 rfl) ?_
  refine j_callVi hC clX9_171 (fun rz hrz => c_X8_holdsOf hN ((show shp 72 = (8, 15) from rfl)) _ _ rz hrz) (show shp 72 = (8, 15) from rfl) (Nat.lt_of_lt_of_le (Nat.le_of_ble_eq_true rfl : 72 < 152) hN) (by decide) rfl rfl ⟨Nat.le_of_ble_eq_true rfl, Nat.le_of_ble_eq_true rfl⟩ ⟨Nat.le_refl 0, Nat.le_refl 0⟩ (As := [.int x2]) (st := [.int v_3]) rfl (Nat.le_of_ble_eq_true rfl) (dOk_at dt_X9_gain 12 rfl) (fun v_5 h_6 _ => ?_)
  refine j_iand hC (dOk_at dt_X9_gain 13 rfl) ?_
  refine j_callSi hC clX9_208 (fun rz hrz => c_J6_bitCount_0f7a4 hN _ _ rz hrz) rfl ⟨Nat.le_of_ble_eq_true rfl, Nat.le_of_ble_eq_true rfl⟩ ⟨Nat.le_refl 0, Nat.le_refl 0⟩ (As := [.int (v_3 &&& v_5)]) (st := []) rfl (Nat.le_of_ble_eq_true rfl) (dOk_at dt_X9_gain 14 rfl) (fun v_7 h_8 _ => ?_)
  refine j_istore hC (lv' := [(6, .int v_7), (5, .int v_1), (0, .ref 0), (1, .int x1), (2, .int x2), (3, .int x3), (4, .int x4)]) (by decide) rfl (dOk_at dt_X9_gain 15 rfl) ?_
  refine j_iload_n hC 5 rfl rfl (dOk_at dt_X9_gain 16 rfl) ?_
  refine j_if_ne hC (tgt := 59) (by decide) (dOk_at dt_X9_gain 17 rfl) (fun q_9 => ?_) (fun q_9 => ?_)
  · refine j_iload hC 6 rfl (dOk_at dt_X9_gain 30 rfl) ?_
    refine j_if_ne hC (tgt := 69) (by decide) (dOk_at dt_X9_gain 31 rfl) (fun q_10 => ?_) (fun q_10 => ?_)
    · refine j_iconst hC (v := (2 : Int32)) rfl (dOk_at dt_X9_gain 34 rfl) ?_
      refine j_iload hC 0 rfl (dOk_at dt_X9_gain 35 rfl) ?_
      refine j_imul hC (dOk_at dt_X9_gain 36 rfl) ?_
      exact j_iret hC hret (dOk_at dt_X9_gain 37 rfl)
    · refine j_iload hC 0 rfl (dOk_at dt_X9_gain 32 rfl) ?_
      refine j_goto hC (tgt := 73) (by decide) (dOk_at dt_X9_gain 33 rfl) ?_
      exact j_iret hC hret (dOk_at dt_X9_gain 37 rfl)
  · refine j_iload hC 6 rfl (dOk_at dt_X9_gain 18 rfl) ?_
    refine j_if_ne hC (tgt := 56) (by decide) (dOk_at dt_X9_gain 19 rfl) (fun q_11 => ?_) (fun q_11 => ?_)
    · refine j_iload hC 1 rfl (dOk_at dt_X9_gain 28 rfl) ?_
      exact j_iret hC hret (dOk_at dt_X9_gain 29 rfl)
    · refine j_aload_n hC 2 rfl rfl (dOk_at dt_X9_gain 20 rfl) ?_
      refine j_getR hC flX9_38 (show shp 0 = (9, 12) from rfl) (Nat.lt_of_lt_of_le (Nat.le_of_ble_eq_true rfl : 0 < 152) hN) (by decide) (by decide) (fun _ _ _ => rfl) (fun hs => hs 0 5 72 rfl) (dOk_at dt_X9_gain 21 rfl) ?_
      refine j_iload_n hC 3 rfl rfl (dOk_at dt_X9_gain 22 rfl) ?_
      refine j_callVi hC clX9_171 (fun rz hrz => c_X8_holdsOf hN ((show shp 72 = (8, 15) from rfl)) _ _ rz hrz) (show shp 72 = (8, 15) from rfl) (Nat.lt_of_lt_of_le (Nat.le_of_ble_eq_true rfl : 72 < 152) hN) (by decide) rfl rfl ⟨Nat.le_of_ble_eq_true rfl, Nat.le_of_ble_eq_true rfl⟩ ⟨Nat.le_refl 0, Nat.le_refl 0⟩ (As := [.int x1]) (st := []) rfl (Nat.le_of_ble_eq_true rfl) (dOk_at dt_X9_gain 23 rfl) (fun v_12 h_13 _ => ?_)
      refine j_callSi hC clX9_208 (fun rz hrz => c_J6_bitCount_0f7a4 hN _ _ rz hrz) rfl ⟨Nat.le_of_ble_eq_true rfl, Nat.le_of_ble_eq_true rfl⟩ ⟨Nat.le_refl 0, Nat.le_refl 0⟩ (As := [.int v_12]) (st := []) rfl (Nat.le_of_ble_eq_true rfl) (dOk_at dt_X9_gain 24 rfl) (fun v_14 h_15 _ => ?_)
      refine j_iload hC 1 rfl (dOk_at dt_X9_gain 25 rfl) ?_
      refine j_isub hC (dOk_at dt_X9_gain 26 rfl) ?_
      refine j_goto hC (tgt := 58) (by decide) (dOk_at dt_X9_gain 27 rfl) ?_
      exact j_iret hC hret (dOk_at dt_X9_gain 29 rfl)
def tb_X9_staysWith : List (Nat × Instr × Nat) := [(0, .aload_n 0, 1), (1, .iload_n 1, 1), (2, .iload_n 2, 1), (3, .iload_n 3, 1), (4, .iload 4, 2), (6, .invokevirtual 371, 3), (9, .aload_n 0, 1), (10, .iload_n 1, 1), (11, .iload_n 2, 1), (12, .iconst 1, 1), (13, .iload_n 3, 1), (14, .isub, 1), (15, .iload 4, 2), (17, .invokevirtual 371, 3), (20, .if_icmp .lt 7, 3), (23, .iconst 1, 1), (24, .goto 4, 3), (27, .iconst 0, 1), (28, .ireturn, 1)]
theorem dt_X9_staysWith : dOk cX9_staysWith tb_X9_staysWith = true := by decide +kernel
def fX9_staysWith (h : Hp) (x1 : Int32) (x2 : Int32) (x3 : Int32) (x4 : Int32) : Option (Int32 × Hp) := bnd (fX9_gain h x1 x2 x3 x4) (fun v_1 h_2 => bnd (fX9_gain h_2 x1 x2 ((1 : Int32) - x3) x4) (fun v_3 h_4 => if v_1 < v_3 then (some ((0 : Int32), h_4)) else (some ((1 : Int32), h_4))))
set_option maxRecDepth 100000 in
set_option maxHeartbeats 4000000 in
theorem c_X9_staysWith {l : Launch} {sb : State} {D : va_G} {ids : Nat → ClassId} {n : Nat} (hN : 152 ≤ n) (h : Hp) (x1 : Int32) (x2 : Int32) (x3 : Int32) (x4 : Int32) (r : Int32 × Hp) (hr : fX9_staysWith h x1 x2 x3 x4 = some r) : jM l yX9_staysWith cX9_staysWith 5 (some .boolean) 3 sb D ids shp St n [.ref 0, .int x1, .int x2, .int x3, .int x4] h (jQi sb D ids shp St n r) := by
  refine jM_of hr rfl (Nat.le_of_ble_eq_true rfl) ?_
  intro p e s m args below meth c hC hret
  unfold fX9_staysWith
  refine j_aload_n hC 0 rfl rfl (dOk_at dt_X9_staysWith 0 rfl) ?_
  refine j_iload_n hC 1 rfl rfl (dOk_at dt_X9_staysWith 1 rfl) ?_
  refine j_iload_n hC 2 rfl rfl (dOk_at dt_X9_staysWith 2 rfl) ?_
  refine j_iload_n hC 3 rfl rfl (dOk_at dt_X9_staysWith 3 rfl) ?_
  refine j_iload hC 4 rfl (dOk_at dt_X9_staysWith 4 rfl) ?_
  refine j_callVi hC clX9_371 (fun rz hrz => c_X9_gain hN _ _ _ _ _ rz hrz) (show shp 0 = (9, 12) from rfl) (Nat.lt_of_lt_of_le (Nat.le_of_ble_eq_true rfl : 0 < 152) hN) (by decide) rfl rfl ⟨Nat.le_of_ble_eq_true rfl, Nat.le_of_ble_eq_true rfl⟩ ⟨Nat.le_refl 0, Nat.le_refl 0⟩ (As := [.int x1, .int x2, .int x3, .int x4]) (st := []) rfl (Nat.le_of_ble_eq_true rfl) (dOk_at dt_X9_staysWith 5 rfl) (fun v_1 h_2 _ => ?_)
  refine j_aload_n hC 0 rfl rfl (dOk_at dt_X9_staysWith 6 rfl) ?_
  refine j_iload_n hC 1 rfl rfl (dOk_at dt_X9_staysWith 7 rfl) ?_
  refine j_iload_n hC 2 rfl rfl (dOk_at dt_X9_staysWith 8 rfl) ?_
  refine j_iconst hC (v := (1 : Int32)) rfl (dOk_at dt_X9_staysWith 9 rfl) ?_
  refine j_iload_n hC 3 rfl rfl (dOk_at dt_X9_staysWith 10 rfl) ?_
  refine j_isub hC (dOk_at dt_X9_staysWith 11 rfl) ?_
  refine j_iload hC 4 rfl (dOk_at dt_X9_staysWith 12 rfl) ?_
  refine j_callVi hC clX9_371 (fun rz hrz => c_X9_gain hN _ _ _ _ _ rz hrz) (show shp 0 = (9, 12) from rfl) (Nat.lt_of_lt_of_le (Nat.le_of_ble_eq_true rfl : 0 < 152) hN) (by decide) rfl rfl ⟨Nat.le_of_ble_eq_true rfl, Nat.le_of_ble_eq_true rfl⟩ ⟨Nat.le_refl 0, Nat.le_refl 0⟩ (As := [.int x1, .int x2, .int ((1 : Int32) - x3), .int x4]) (st := [.int v_1]) rfl (Nat.le_of_ble_eq_true rfl) (dOk_at dt_X9_staysWith 13 rfl) (fun v_3 h_4 _ => ?_)
  refine j_icmp_lt hC (tgt := 27) (by decide) (dOk_at dt_X9_staysWith 14 rfl) (fun q_5 => ?_) (fun q_5 => ?_)
  · refine j_iconst hC (v := (0 : Int32)) rfl (dOk_at dt_X9_staysWith 17 rfl) ?_
    exact j_zretK hC hret rfl (dOk_at dt_X9_staysWith 18 rfl)
  · refine j_iconst hC (v := (1 : Int32)) rfl (dOk_at dt_X9_staysWith 15 rfl) ?_
    refine j_goto hC (tgt := 28) (by decide) (dOk_at dt_X9_staysWith 16 rfl) ?_
    exact j_zretK hC hret rfl (dOk_at dt_X9_staysWith 18 rfl)
def tb_X9_isRest : List (Nat × Instr × Nat) := [(0, .iload_n 3, 1), (1, .iconst 1, 1), (2, .ishr, 1), (3, .istore 4, 2), (5, .iload_n 3, 1), (6, .iconst 1, 1), (7, .iand, 1), (8, .istore 5, 2), (10, .aload_n 0, 1), (11, .iload_n 1, 1), (12, .iload_n 2, 1), (13, .iload 4, 2), (15, .iload 5, 2), (17, .invokevirtual 367, 3), (20, .ifCond .eq 20, 3), (23, .aload_n 0, 1), (24, .iload_n 2, 1), (25, .iload_n 1, 1), (26, .iload 5, 2), (28, .iload 4, 2), (30, .invokevirtual 367, 3), (33, .ifCond .eq 7, 3), (36, .iconst 1, 1), (37, .goto 4, 3), (40, .iconst 0, 1), (41, .ireturn, 1)]
theorem dt_X9_isRest : dOk cX9_isRest tb_X9_isRest = true := by decide +kernel
def fX9_isRest (h : Hp) (x1 : Int32) (x2 : Int32) (x3 : Int32) : Option (Int32 × Hp) := bnd (fX9_staysWith h x1 x2 (x3 >>> ((1 : Int32) &&& 31)) (x3 &&& (1 : Int32))) (fun v_1 h_2 => if v_1 = 0 then (some ((0 : Int32), h_2)) else (bnd (fX9_staysWith h_2 x2 x1 (x3 &&& (1 : Int32)) (x3 >>> ((1 : Int32) &&& 31))) (fun v_4 h_5 => if v_4 = 0 then (some ((0 : Int32), h_5)) else (some ((1 : Int32), h_5)))))
set_option maxRecDepth 100000 in
set_option maxHeartbeats 4000000 in
theorem c_X9_isRest {l : Launch} {sb : State} {D : va_G} {ids : Nat → ClassId} {n : Nat} (hN : 152 ≤ n) (h : Hp) (x1 : Int32) (x2 : Int32) (x3 : Int32) (r : Int32 × Hp) (hr : fX9_isRest h x1 x2 x3 = some r) : jM l yX9_isRest cX9_isRest 6 (some .boolean) 4 sb D ids shp St n [.ref 0, .int x1, .int x2, .int x3] h (jQi sb D ids shp St n r) := by
  refine jM_of hr rfl (Nat.le_of_ble_eq_true rfl) ?_
  intro p e s m args below meth c hC hret
  unfold fX9_isRest
  refine j_iload_n hC 3 rfl rfl (dOk_at dt_X9_isRest 0 rfl) ?_
  refine j_iconst hC (v := (1 : Int32)) rfl (dOk_at dt_X9_isRest 1 rfl) ?_
  refine j_ishr hC (dOk_at dt_X9_isRest 2 rfl) ?_
  refine j_istore hC (lv' := [(4, .int (x3 >>> ((1 : Int32) &&& 31))), (0, .ref 0), (1, .int x1), (2, .int x2), (3, .int x3)]) (by decide) rfl (dOk_at dt_X9_isRest 3 rfl) ?_
  refine j_iload_n hC 4 rfl rfl (dOk_at dt_X9_isRest 4 rfl) ?_
  refine j_iconst hC (v := (1 : Int32)) rfl (dOk_at dt_X9_isRest 5 rfl) ?_
  refine j_iand hC (dOk_at dt_X9_isRest 6 rfl) ?_
  refine j_istore hC (lv' := [(5, .int (x3 &&& (1 : Int32))), (4, .int (x3 >>> ((1 : Int32) &&& 31))), (0, .ref 0), (1, .int x1), (2, .int x2), (3, .int x3)]) (by decide) rfl (dOk_at dt_X9_isRest 7 rfl) ?_
  refine j_aload_n hC 2 rfl rfl (dOk_at dt_X9_isRest 8 rfl) ?_
  refine j_iload_n hC 3 rfl rfl (dOk_at dt_X9_isRest 9 rfl) ?_
  refine j_iload_n hC 4 rfl rfl (dOk_at dt_X9_isRest 10 rfl) ?_
  refine j_iload hC 1 rfl (dOk_at dt_X9_isRest 11 rfl) ?_
  refine j_iload hC 0 rfl (dOk_at dt_X9_isRest 12 rfl) ?_
  refine j_callVi hC clX9_367 (fun rz hrz => c_X9_staysWith hN _ _ _ _ _ rz hrz) (show shp 0 = (9, 12) from rfl) (Nat.lt_of_lt_of_le (Nat.le_of_ble_eq_true rfl : 0 < 152) hN) (by decide) rfl rfl ⟨Nat.le_of_ble_eq_true rfl, Nat.le_of_ble_eq_true rfl⟩ ⟨Nat.le_refl 0, Nat.le_refl 0⟩ (As := [.int x1, .int x2, .int (x3 >>> ((1 : Int32) &&& 31)), .int (x3 &&& (1 : Int32))]) (st := []) rfl (Nat.le_of_ble_eq_true rfl) (dOk_at dt_X9_isRest 13 rfl) (fun v_1 h_2 _ => ?_)
  refine j_if_eq hC (tgt := 40) (by decide) (dOk_at dt_X9_isRest 14 rfl) (fun q_3 => ?_) (fun q_3 => ?_)
  · refine j_iconst hC (v := (0 : Int32)) rfl (dOk_at dt_X9_isRest 24 rfl) ?_
    exact j_zretK hC hret rfl (dOk_at dt_X9_isRest 25 rfl)
  · refine j_aload_n hC 2 rfl rfl (dOk_at dt_X9_isRest 15 rfl) ?_
    refine j_iload_n hC 4 rfl rfl (dOk_at dt_X9_isRest 16 rfl) ?_
    refine j_iload_n hC 3 rfl rfl (dOk_at dt_X9_isRest 17 rfl) ?_
    refine j_iload hC 0 rfl (dOk_at dt_X9_isRest 18 rfl) ?_
    refine j_iload hC 1 rfl (dOk_at dt_X9_isRest 19 rfl) ?_
    refine j_callVi hC clX9_367 (fun rz hrz => c_X9_staysWith hN _ _ _ _ _ rz hrz) (show shp 0 = (9, 12) from rfl) (Nat.lt_of_lt_of_le (Nat.le_of_ble_eq_true rfl : 0 < 152) hN) (by decide) rfl rfl ⟨Nat.le_of_ble_eq_true rfl, Nat.le_of_ble_eq_true rfl⟩ ⟨Nat.le_refl 0, Nat.le_refl 0⟩ (As := [.int x2, .int x1, .int (x3 &&& (1 : Int32)), .int (x3 >>> ((1 : Int32) &&& 31))]) (st := []) rfl (Nat.le_of_ble_eq_true rfl) (dOk_at dt_X9_isRest 20 rfl) (fun v_4 h_5 _ => ?_)
    refine j_if_eq hC (tgt := 40) (by decide) (dOk_at dt_X9_isRest 21 rfl) (fun q_6 => ?_) (fun q_6 => ?_)
    · refine j_iconst hC (v := (0 : Int32)) rfl (dOk_at dt_X9_isRest 24 rfl) ?_
      exact j_zretK hC hret rfl (dOk_at dt_X9_isRest 25 rfl)
    · refine j_iconst hC (v := (1 : Int32)) rfl (dOk_at dt_X9_isRest 22 rfl) ?_
      refine j_goto hC (tgt := 41) (by decide) (dOk_at dt_X9_isRest 23 rfl) ?_
      exact j_zretK hC hret rfl (dOk_at dt_X9_isRest 25 rfl)
def tb_X9_rests : List (Nat × Instr × Nat) := [(0, .aload_n 0, 1), (1, .iload_n 1, 1), (2, .iload_n 2, 1), (3, .invokevirtual 277, 3), (6, .ifCond .ne 5, 3), (9, .iconst (-1), 1), (10, .ireturn, 1), (11, .iconst 0, 1), (12, .istore_n 3, 1), (13, .iconst 0, 1), (14, .istore 4, 2), (16, .iload 4, 2), (18, .iconst 4, 1), (19, .if_icmp .ge 23, 3), (22, .aload_n 0, 1), (23, .iload_n 1, 1), (24, .iload_n 2, 1), (25, .iload 4, 2), (27, .invokevirtual 293, 3), (30, .ifCond .eq 6, 3), (33, .iinc 3 1, 3), (36, .iinc 4 1, 3), (39, .goto (-23), 3), (42, .iload_n 3, 1), (43, .ireturn, 1)]
theorem dt_X9_rests : dOk cX9_rests tb_X9_rests = true := by decide +kernel
def fX9_rests_36 (rec16 : Hp → Int32 → Int32 → Int32 → Int32 → Option (Int32 × Hp)) (h : Hp) (x1 : Int32) (x2 : Int32) (x3 : Int32) (x4 : Int32) : Option (Int32 × Hp) := rec16 h x1 x2 x3 (x4 + (1 : Int32))
def fX9_rests_16 : Nat → Hp → Int32 → Int32 → Int32 → Int32 → Option (Int32 × Hp)
  | 0, _, _, _, _, _ => none
  | fu + 1, h, x1, x2, x3, x4 => if (4 : Int32) ≤ x4 then (some (x3, h)) else (bnd (fX9_isRest h x1 x2 x4) (fun v_5 h_6 => if v_5 = 0 then (fX9_rests_36 (fX9_rests_16 fu) h_6 x1 x2 x3 x4) else (fX9_rests_36 (fX9_rests_16 fu) h_6 x1 x2 (x3 + (1 : Int32)) x4)))
def fX9_rests (h : Hp) (x1 : Int32) (x2 : Int32) : Option (Int32 × Hp) := bnd (fX9_areTwo h x1 x2) (fun v_1 h_2 => if v_1 = 0 then (some ((-1 : Int32), h_2)) else (fX9_rests_16 FU h_2 x1 x2 (0 : Int32) (0 : Int32)))
set_option maxRecDepth 100000 in
set_option maxHeartbeats 4000000 in
theorem c_X9_rests {l : Launch} {sb : State} {D : va_G} {ids : Nat → ClassId} {n : Nat} (hN : 152 ≤ n) (h : Hp) (x1 : Int32) (x2 : Int32) (r : Int32 × Hp) (hr : fX9_rests h x1 x2 = some r) : jM l yX9_rests cX9_rests 5 (some .int) 5 sb D ids shp St n [.ref 0, .int x1, .int x2] h (jQi sb D ids shp St n r) := by
  refine jM_of hr rfl (Nat.le_of_ble_eq_true rfl) ?_
  intro p e s m args below meth c hC hret
  have b36 : ∀ (rec16 : Hp → Int32 → Int32 → Int32 → Int32 → Option (Int32 × Hp)) (hrec16 : ∀ (h : Hp) (x1 : Int32) (x2 : Int32) (x3 : Int32) (x4 : Int32) , jJ p l e (rmD 5) s m args below meth c 5 sb D ids shp St (fun r => MQ below (jQi sb D ids shp St n r) args s 0 0 (jA sb)) n 0 0 h 16 [(0, .ref 0), (1, .int x1), (2, .int x2), (3, .int x3), (4, .int x4)] [] (rec16 h x1 x2 x3 x4)) (h : Hp) (x1 : Int32) (x2 : Int32) (x3 : Int32) (x4 : Int32) , jJ p l e (rmD 5) s m args below meth c 5 sb D ids shp St (fun r => MQ below (jQi sb D ids shp St n r) args s 0 0 (jA sb)) n 0 0 h 36 [(0, .ref 0), (1, .int x1), (2, .int x2), (3, .int x3), (4, .int x4)] [] (fX9_rests_36 rec16 h x1 x2 x3 x4) := by
    intro rec16 hrec16 h x1 x2 x3 x4 
    unfold fX9_rests_36
    refine j_iinc hC (v := (x4 + (1 : Int32))) (lv' := [(4, .int (x4 + (1 : Int32))), (0, .ref 0), (1, .int x1), (2, .int x2), (3, .int x3)]) 4 rfl (congrArg (fun z => x4 + z) (show Int32.ofInt (1) = (1 : Int32) from by decide)) (by decide) rfl (dOk_at dt_X9_rests 21 rfl) ?_
    refine j_goto hC (tgt := 16) (by decide) (dOk_at dt_X9_rests 22 rfl) ?_
    refine j_sub [1, 2, 3, 4, 0] rfl ?_
    exact hrec16 h x1 x2 x3 (x4 + (1 : Int32)) 
  have b16 : ∀ (fu : Nat) (h : Hp) (x1 : Int32) (x2 : Int32) (x3 : Int32) (x4 : Int32) , jJ p l e (rmD 5) s m args below meth c 5 sb D ids shp St (fun r => MQ below (jQi sb D ids shp St n r) args s 0 0 (jA sb)) n 0 0 h 16 [(0, .ref 0), (1, .int x1), (2, .int x2), (3, .int x3), (4, .int x4)] [] (fX9_rests_16 fu h x1 x2 x3 x4) := by
    intro fu 
    induction fu with
    | zero => intro h x1 x2 x3 x4 ; exact j_none
    | succ fu ih =>
    intro h x1 x2 x3 x4 
    rw [fX9_rests_16]
    refine j_iload hC 4 rfl (dOk_at dt_X9_rests 11 rfl) ?_
    refine j_iconst hC (v := (4 : Int32)) rfl (dOk_at dt_X9_rests 12 rfl) ?_
    refine j_icmp_ge hC (tgt := 42) (by decide) (dOk_at dt_X9_rests 13 rfl) (fun q_4 => ?_) (fun q_4 => ?_)
    · refine j_iload_n hC 3 rfl rfl (dOk_at dt_X9_rests 23 rfl) ?_
      exact j_iret hC hret (dOk_at dt_X9_rests 24 rfl)
    · refine j_aload_n hC 0 rfl rfl (dOk_at dt_X9_rests 14 rfl) ?_
      refine j_iload_n hC 1 rfl rfl (dOk_at dt_X9_rests 15 rfl) ?_
      refine j_iload_n hC 2 rfl rfl (dOk_at dt_X9_rests 16 rfl) ?_
      refine j_iload hC 4 rfl (dOk_at dt_X9_rests 17 rfl) ?_
      refine j_callVi hC clX9_293 (fun rz hrz => c_X9_isRest hN _ _ _ _ rz hrz) (show shp 0 = (9, 12) from rfl) (Nat.lt_of_lt_of_le (Nat.le_of_ble_eq_true rfl : 0 < 152) hN) (by decide) rfl rfl ⟨Nat.le_of_ble_eq_true rfl, Nat.le_of_ble_eq_true rfl⟩ ⟨Nat.le_refl 0, Nat.le_refl 0⟩ (As := [.int x1, .int x2, .int x4]) (st := []) rfl (Nat.le_of_ble_eq_true rfl) (dOk_at dt_X9_rests 18 rfl) (fun v_5 h_6 _ => ?_)
      refine j_if_eq hC (tgt := 36) (by decide) (dOk_at dt_X9_rests 19 rfl) (fun q_7 => ?_) (fun q_7 => ?_)
      · exact b36 (fX9_rests_16 fu) ih h_6 x1 x2 x3 x4 
      · refine j_iinc hC (v := (x3 + (1 : Int32))) (lv' := [(3, .int (x3 + (1 : Int32))), (0, .ref 0), (1, .int x1), (2, .int x2), (4, .int x4)]) 3 rfl (congrArg (fun z => x3 + z) (show Int32.ofInt (1) = (1 : Int32) from by decide)) (by decide) rfl (dOk_at dt_X9_rests 20 rfl) ?_
        refine j_sub [1, 2, 3, 0, 4] rfl ?_
        exact b36 (fX9_rests_16 fu) ih h_6 x1 x2 (x3 + (1 : Int32)) x4 
  unfold fX9_rests
  refine j_aload_n hC 0 rfl rfl (dOk_at dt_X9_rests 0 rfl) ?_
  refine j_iload_n hC 1 rfl rfl (dOk_at dt_X9_rests 1 rfl) ?_
  refine j_iload_n hC 2 rfl rfl (dOk_at dt_X9_rests 2 rfl) ?_
  refine j_callVi hC clX9_277 (fun rz hrz => c_X9_areTwo hN _ _ _ rz hrz) (show shp 0 = (9, 12) from rfl) (Nat.lt_of_lt_of_le (Nat.le_of_ble_eq_true rfl : 0 < 152) hN) (by decide) rfl rfl ⟨Nat.le_of_ble_eq_true rfl, Nat.le_of_ble_eq_true rfl⟩ ⟨Nat.le_refl 0, Nat.le_refl 0⟩ (As := [.int x1, .int x2]) (st := []) rfl (Nat.le_of_ble_eq_true rfl) (dOk_at dt_X9_rests 3 rfl) (fun v_1 h_2 _ => ?_)
  refine j_if_ne hC (tgt := 11) (by decide) (dOk_at dt_X9_rests 4 rfl) (fun q_3 => ?_) (fun q_3 => ?_)
  · refine j_iconst hC (v := (0 : Int32)) rfl (dOk_at dt_X9_rests 7 rfl) ?_
    refine j_istore_n hC rfl (lv' := [(3, .int (0 : Int32)), (0, .ref 0), (1, .int x1), (2, .int x2)]) (by decide) rfl (dOk_at dt_X9_rests 8 rfl) ?_
    refine j_iconst hC (v := (0 : Int32)) rfl (dOk_at dt_X9_rests 9 rfl) ?_
    refine j_istore hC (lv' := [(4, .int (0 : Int32)), (3, .int (0 : Int32)), (0, .ref 0), (1, .int x1), (2, .int x2)]) (by decide) rfl (dOk_at dt_X9_rests 10 rfl) ?_
    refine j_sub [2, 3, 4, 1, 0] rfl ?_
    exact b16 FU h_2 x1 x2 (0 : Int32) (0 : Int32) 
  · refine j_iconst hC (v := (-1 : Int32)) rfl (dOk_at dt_X9_rests 5 rfl) ?_
    exact j_iret hC hret (dOk_at dt_X9_rests 6 rfl)
def tb_X9_rest : List (Nat × Instr × Nat) := [(0, .aload_n 0, 1), (1, .iload_n 1, 1), (2, .iload_n 2, 1), (3, .invokevirtual 277, 3), (6, .ifCond .eq 7, 3), (9, .iload_n 3, 1), (10, .ifCond .ge 5, 3), (13, .iconst (-1), 1), (14, .ireturn, 1), (15, .iload_n 3, 1), (16, .istore 4, 2), (18, .iconst 0, 1), (19, .istore 5, 2), (21, .iload 5, 2), (23, .iconst 4, 1), (24, .if_icmp .ge 41, 3), (27, .aload_n 0, 1), (28, .iload_n 1, 1), (29, .iload_n 2, 1), (30, .iload 5, 2), (32, .invokevirtual 293, 3), (35, .ifCond .eq 24, 3), (38, .iload 4, 2), (40, .ifCond .ne 16, 3), (43, .bipush 10, 2), (45, .iload 5, 2), (47, .iconst 1, 1), (48, .ishr, 1), (49, .imul, 1), (50, .iload 5, 2), (52, .iconst 1, 1), (53, .iand, 1), (54, .iadd, 1), (55, .ireturn, 1), (56, .iinc 4 (-1), 3), (59, .iinc 5 1, 3), (62, .goto (-41), 3), (65, .bipush (-2), 2), (67, .ireturn, 1)]
theorem dt_X9_rest : dOk cX9_rest tb_X9_rest = true := by decide +kernel
def fX9_rest_59 (rec21 : Hp → Int32 → Int32 → Int32 → Int32 → Option (Int32 × Hp)) (h : Hp) (x1 : Int32) (x2 : Int32) (x4 : Int32) (x5 : Int32) : Option (Int32 × Hp) := rec21 h x1 x2 x4 (x5 + (1 : Int32))
def fX9_rest_21 : Nat → Hp → Int32 → Int32 → Int32 → Int32 → Option (Int32 × Hp)
  | 0, _, _, _, _, _ => none
  | fu + 1, h, x1, x2, x4, x5 => if (4 : Int32) ≤ x5 then (some ((-2 : Int32), h)) else (bnd (fX9_isRest h x1 x2 x5) (fun v_6 h_7 => if v_6 = 0 then (fX9_rest_59 (fX9_rest_21 fu) h_7 x1 x2 x4 x5) else (if x4 = 0 then (some ((((10 : Int32) * (x5 >>> ((1 : Int32) &&& 31))) + (x5 &&& (1 : Int32))), h_7)) else (fX9_rest_59 (fX9_rest_21 fu) h_7 x1 x2 (x4 + (-1 : Int32)) x5))))
def fX9_rest (h : Hp) (x1 : Int32) (x2 : Int32) (x3 : Int32) : Option (Int32 × Hp) := bnd (fX9_areTwo h x1 x2) (fun v_1 h_2 => if v_1 = 0 then (some ((-1 : Int32), h_2)) else (if 0 ≤ x3 then (fX9_rest_21 FU h_2 x1 x2 x3 (0 : Int32)) else (some ((-1 : Int32), h_2))))
set_option maxRecDepth 100000 in
set_option maxHeartbeats 4000000 in
theorem c_X9_rest {l : Launch} {sb : State} {D : va_G} {ids : Nat → ClassId} {n : Nat} (hN : 152 ≤ n) (h : Hp) (x1 : Int32) (x2 : Int32) (x3 : Int32) (r : Int32 × Hp) (hr : fX9_rest h x1 x2 x3 = some r) : jM l yX9_rest cX9_rest 6 (some .int) 5 sb D ids shp St n [.ref 0, .int x1, .int x2, .int x3] h (jQi sb D ids shp St n r) := by
  refine jM_of hr rfl (Nat.le_of_ble_eq_true rfl) ?_
  intro p e s m args below meth c hC hret
  have b59 : ∀ (rec21 : Hp → Int32 → Int32 → Int32 → Int32 → Option (Int32 × Hp)) (hrec21 : ∀ (h : Hp) (x1 : Int32) (x2 : Int32) (x4 : Int32) (x5 : Int32) , jJ p l e (rmD 5) s m args below meth c 6 sb D ids shp St (fun r => MQ below (jQi sb D ids shp St n r) args s 0 0 (jA sb)) n 0 0 h 21 [(0, .ref 0), (1, .int x1), (2, .int x2), (4, .int x4), (5, .int x5)] [] (rec21 h x1 x2 x4 x5)) (h : Hp) (x1 : Int32) (x2 : Int32) (x4 : Int32) (x5 : Int32) , jJ p l e (rmD 5) s m args below meth c 6 sb D ids shp St (fun r => MQ below (jQi sb D ids shp St n r) args s 0 0 (jA sb)) n 0 0 h 59 [(0, .ref 0), (1, .int x1), (2, .int x2), (4, .int x4), (5, .int x5)] [] (fX9_rest_59 rec21 h x1 x2 x4 x5) := by
    intro rec21 hrec21 h x1 x2 x4 x5 
    unfold fX9_rest_59
    refine j_iinc hC (v := (x5 + (1 : Int32))) (lv' := [(5, .int (x5 + (1 : Int32))), (0, .ref 0), (1, .int x1), (2, .int x2), (4, .int x4)]) 4 rfl (congrArg (fun z => x5 + z) (show Int32.ofInt (1) = (1 : Int32) from by decide)) (by decide) rfl (dOk_at dt_X9_rest 35 rfl) ?_
    refine j_goto hC (tgt := 21) (by decide) (dOk_at dt_X9_rest 36 rfl) ?_
    refine j_sub [1, 2, 3, 4, 0] rfl ?_
    exact hrec21 h x1 x2 x4 (x5 + (1 : Int32)) 
  have b21 : ∀ (fu : Nat) (h : Hp) (x1 : Int32) (x2 : Int32) (x4 : Int32) (x5 : Int32) , jJ p l e (rmD 5) s m args below meth c 6 sb D ids shp St (fun r => MQ below (jQi sb D ids shp St n r) args s 0 0 (jA sb)) n 0 0 h 21 [(0, .ref 0), (1, .int x1), (2, .int x2), (4, .int x4), (5, .int x5)] [] (fX9_rest_21 fu h x1 x2 x4 x5) := by
    intro fu 
    induction fu with
    | zero => intro h x1 x2 x4 x5 ; exact j_none
    | succ fu ih =>
    intro h x1 x2 x4 x5 
    rw [fX9_rest_21]
    refine j_iload hC 4 rfl (dOk_at dt_X9_rest 13 rfl) ?_
    refine j_iconst hC (v := (4 : Int32)) rfl (dOk_at dt_X9_rest 14 rfl) ?_
    refine j_icmp_ge hC (tgt := 65) (by decide) (dOk_at dt_X9_rest 15 rfl) (fun q_5 => ?_) (fun q_5 => ?_)
    · refine j_bipush hC (v := (-2 : Int32)) rfl (dOk_at dt_X9_rest 37 rfl) ?_
      exact j_iret hC hret (dOk_at dt_X9_rest 38 rfl)
    · refine j_aload_n hC 0 rfl rfl (dOk_at dt_X9_rest 16 rfl) ?_
      refine j_iload_n hC 1 rfl rfl (dOk_at dt_X9_rest 17 rfl) ?_
      refine j_iload_n hC 2 rfl rfl (dOk_at dt_X9_rest 18 rfl) ?_
      refine j_iload hC 4 rfl (dOk_at dt_X9_rest 19 rfl) ?_
      refine j_callVi hC clX9_293 (fun rz hrz => c_X9_isRest hN _ _ _ _ rz hrz) (show shp 0 = (9, 12) from rfl) (Nat.lt_of_lt_of_le (Nat.le_of_ble_eq_true rfl : 0 < 152) hN) (by decide) rfl rfl ⟨Nat.le_of_ble_eq_true rfl, Nat.le_of_ble_eq_true rfl⟩ ⟨Nat.le_refl 0, Nat.le_refl 0⟩ (As := [.int x1, .int x2, .int x5]) (st := []) rfl (Nat.le_of_ble_eq_true rfl) (dOk_at dt_X9_rest 20 rfl) (fun v_6 h_7 _ => ?_)
      refine j_if_eq hC (tgt := 59) (by decide) (dOk_at dt_X9_rest 21 rfl) (fun q_8 => ?_) (fun q_8 => ?_)
      · exact b59 (fX9_rest_21 fu) ih h_7 x1 x2 x4 x5 
      · refine j_iload hC 3 rfl (dOk_at dt_X9_rest 22 rfl) ?_
        refine j_if_ne hC (tgt := 56) (by decide) (dOk_at dt_X9_rest 23 rfl) (fun q_9 => ?_) (fun q_9 => ?_)
        · refine j_iinc hC (v := (x4 + (-1 : Int32))) (lv' := [(4, .int (x4 + (-1 : Int32))), (0, .ref 0), (1, .int x1), (2, .int x2), (5, .int x5)]) 3 rfl (congrArg (fun z => x4 + z) (show Int32.ofInt (-1) = (-1 : Int32) from by decide)) (by decide) rfl (dOk_at dt_X9_rest 34 rfl) ?_
          refine j_sub [1, 2, 3, 0, 4] rfl ?_
          exact b59 (fX9_rest_21 fu) ih h_7 x1 x2 (x4 + (-1 : Int32)) x5 
        · refine j_bipush hC (v := (10 : Int32)) rfl (dOk_at dt_X9_rest 24 rfl) ?_
          refine j_iload hC 4 rfl (dOk_at dt_X9_rest 25 rfl) ?_
          refine j_iconst hC (v := (1 : Int32)) rfl (dOk_at dt_X9_rest 26 rfl) ?_
          refine j_ishr hC (dOk_at dt_X9_rest 27 rfl) ?_
          refine j_imul hC (dOk_at dt_X9_rest 28 rfl) ?_
          refine j_iload hC 4 rfl (dOk_at dt_X9_rest 29 rfl) ?_
          refine j_iconst hC (v := (1 : Int32)) rfl (dOk_at dt_X9_rest 30 rfl) ?_
          refine j_iand hC (dOk_at dt_X9_rest 31 rfl) ?_
          refine j_iadd hC (dOk_at dt_X9_rest 32 rfl) ?_
          exact j_iret hC hret (dOk_at dt_X9_rest 33 rfl)
  unfold fX9_rest
  refine j_aload_n hC 0 rfl rfl (dOk_at dt_X9_rest 0 rfl) ?_
  refine j_iload_n hC 1 rfl rfl (dOk_at dt_X9_rest 1 rfl) ?_
  refine j_iload_n hC 2 rfl rfl (dOk_at dt_X9_rest 2 rfl) ?_
  refine j_callVi hC clX9_277 (fun rz hrz => c_X9_areTwo hN _ _ _ rz hrz) (show shp 0 = (9, 12) from rfl) (Nat.lt_of_lt_of_le (Nat.le_of_ble_eq_true rfl : 0 < 152) hN) (by decide) rfl rfl ⟨Nat.le_of_ble_eq_true rfl, Nat.le_of_ble_eq_true rfl⟩ ⟨Nat.le_refl 0, Nat.le_refl 0⟩ (As := [.int x1, .int x2]) (st := []) rfl (Nat.le_of_ble_eq_true rfl) (dOk_at dt_X9_rest 3 rfl) (fun v_1 h_2 _ => ?_)
  refine j_if_eq hC (tgt := 13) (by decide) (dOk_at dt_X9_rest 4 rfl) (fun q_3 => ?_) (fun q_3 => ?_)
  · refine j_iconst hC (v := (-1 : Int32)) rfl (dOk_at dt_X9_rest 7 rfl) ?_
    exact j_iret hC hret (dOk_at dt_X9_rest 8 rfl)
  · refine j_iload_n hC 3 rfl rfl (dOk_at dt_X9_rest 5 rfl) ?_
    refine j_if_ge hC (tgt := 15) (by decide) (dOk_at dt_X9_rest 6 rfl) (fun q_4 => ?_) (fun q_4 => ?_)
    · refine j_iload_n hC 3 rfl rfl (dOk_at dt_X9_rest 9 rfl) ?_
      refine j_istore hC (lv' := [(4, .int x3), (0, .ref 0), (1, .int x1), (2, .int x2), (3, .int x3)]) (by decide) rfl (dOk_at dt_X9_rest 10 rfl) ?_
      refine j_iconst hC (v := (0 : Int32)) rfl (dOk_at dt_X9_rest 11 rfl) ?_
      refine j_istore hC (lv' := [(5, .int (0 : Int32)), (4, .int x3), (0, .ref 0), (1, .int x1), (2, .int x2), (3, .int x3)]) (by decide) rfl (dOk_at dt_X9_rest 12 rfl) ?_
      refine j_sub [2, 3, 4, 1, 0] rfl ?_
      exact b21 FU h_2 x1 x2 x3 (0 : Int32) 
    · refine j_iconst hC (v := (-1 : Int32)) rfl (dOk_at dt_X9_rest 7 rfl) ?_
      exact j_iret hC hret (dOk_at dt_X9_rest 8 rfl)
def tb_X9_commonDivisor : List (Nat × Instr × Nat) := [(0, .iload_n 0, 1), (1, .istore_n 2, 1), (2, .iload_n 1, 1), (3, .istore_n 3, 1), (4, .iconst 0, 1), (5, .istore 4, 2), (7, .iload 4, 2), (9, .bipush 100, 2), (11, .if_icmp .ge 23, 3), (14, .iload_n 3, 1), (15, .ifCond .le 19, 3), (18, .iload_n 2, 1), (19, .iload_n 3, 1), (20, .irem, 1), (21, .istore 5, 2), (23, .iload_n 3, 1), (24, .istore_n 2, 1), (25, .iload 5, 2), (27, .istore_n 3, 1), (28, .iinc 4 1, 3), (31, .goto (-24), 3), (34, .iload_n 2, 1), (35, .ireturn, 1)]
theorem dt_X9_commonDivisor : dOk cX9_commonDivisor tb_X9_commonDivisor = true := by decide +kernel
def fX9_commonDivisor_7 : Nat → Hp → Int32 → Int32 → Int32 → Option (Int32 × Hp)
  | 0, _, _, _, _ => none
  | fu + 1, h, x2, x3, x4 => if (100 : Int32) ≤ x4 then (some (x2, h)) else (if x3 ≤ 0 then (some (x2, h)) else (if x3 = 0 then none else (fX9_commonDivisor_7 fu) h x3 (x2 - x2 / x3 * x3) (x4 + (1 : Int32))))
def fX9_commonDivisor (h : Hp) (x0 : Int32) (x1 : Int32) : Option (Int32 × Hp) := fX9_commonDivisor_7 FU h x0 x1 (0 : Int32)
set_option maxRecDepth 100000 in
set_option maxHeartbeats 4000000 in
theorem c_X9_commonDivisor {l : Launch} {sb : State} {D : va_G} {ids : Nat → ClassId} {n : Nat} (hN : 152 ≤ n) (h : Hp) (x0 : Int32) (x1 : Int32) (r : Int32 × Hp) (hr : fX9_commonDivisor h x0 x1 = some r) : jM l yX9_commonDivisor cX9_commonDivisor 6 (some .int) 0 sb D ids shp St n [.int x0, .int x1] h (jQi sb D ids shp St n r) := by
  refine jM_of hr rfl (Nat.le_of_ble_eq_true rfl) ?_
  intro p e s m args below meth c hC hret
  have b7 : ∀ (fu : Nat) (h : Hp) (x2 : Int32) (x3 : Int32) (x4 : Int32) , jJ p l e (rmD 0) s m args below meth c 6 sb D ids shp St (fun r => MQ below (jQi sb D ids shp St n r) args s 0 0 (jA sb)) n 0 0 h 7 [(2, .int x2), (3, .int x3), (4, .int x4)] [] (fX9_commonDivisor_7 fu h x2 x3 x4) := by
    intro fu 
    induction fu with
    | zero => intro h x2 x3 x4 ; exact j_none
    | succ fu ih =>
    intro h x2 x3 x4 
    rw [fX9_commonDivisor_7]
    refine j_iload hC 2 rfl (dOk_at dt_X9_commonDivisor 6 rfl) ?_
    refine j_bipush hC (v := (100 : Int32)) rfl (dOk_at dt_X9_commonDivisor 7 rfl) ?_
    refine j_icmp_ge hC (tgt := 34) (by decide) (dOk_at dt_X9_commonDivisor 8 rfl) (fun q_1 => ?_) (fun q_1 => ?_)
    · refine j_iload_n hC 0 rfl rfl (dOk_at dt_X9_commonDivisor 21 rfl) ?_
      exact j_iret hC hret (dOk_at dt_X9_commonDivisor 22 rfl)
    · refine j_iload_n hC 1 rfl rfl (dOk_at dt_X9_commonDivisor 9 rfl) ?_
      refine j_if_le hC (tgt := 34) (by decide) (dOk_at dt_X9_commonDivisor 10 rfl) (fun q_2 => ?_) (fun q_2 => ?_)
      · refine j_iload_n hC 0 rfl rfl (dOk_at dt_X9_commonDivisor 21 rfl) ?_
        exact j_iret hC hret (dOk_at dt_X9_commonDivisor 22 rfl)
      · refine j_iload_n hC 0 rfl rfl (dOk_at dt_X9_commonDivisor 11 rfl) ?_
        refine j_iload_n hC 1 rfl rfl (dOk_at dt_X9_commonDivisor 12 rfl) ?_
        refine j_irem hC (dOk_at dt_X9_commonDivisor 13 rfl) ?_
        refine j_istore hC (lv' := [(5, .int (x2 - x2 / x3 * x3)), (2, .int x2), (3, .int x3), (4, .int x4)]) (by decide) rfl (dOk_at dt_X9_commonDivisor 14 rfl) ?_
        refine j_iload_n hC 2 rfl rfl (dOk_at dt_X9_commonDivisor 15 rfl) ?_
        refine j_istore_n hC rfl (lv' := [(2, .int x3), (5, .int (x2 - x2 / x3 * x3)), (3, .int x3), (4, .int x4)]) (by decide) rfl (dOk_at dt_X9_commonDivisor 16 rfl) ?_
        refine j_iload hC 1 rfl (dOk_at dt_X9_commonDivisor 17 rfl) ?_
        refine j_istore_n hC rfl (lv' := [(3, .int (x2 - x2 / x3 * x3)), (2, .int x3), (5, .int (x2 - x2 / x3 * x3)), (4, .int x4)]) (by decide) rfl (dOk_at dt_X9_commonDivisor 18 rfl) ?_
        refine j_iinc hC (v := (x4 + (1 : Int32))) (lv' := [(4, .int (x4 + (1 : Int32))), (3, .int (x2 - x2 / x3 * x3)), (2, .int x3), (5, .int (x2 - x2 / x3 * x3))]) 3 rfl (congrArg (fun z => x4 + z) (show Int32.ofInt (1) = (1 : Int32) from by decide)) (by decide) rfl (dOk_at dt_X9_commonDivisor 19 rfl) ?_
        refine j_goto hC (tgt := 7) (by decide) (dOk_at dt_X9_commonDivisor 20 rfl) ?_
        refine j_sub [2, 1, 0] rfl ?_
        exact ih h x3 (x2 - x2 / x3 * x3) (x4 + (1 : Int32)) 
  unfold fX9_commonDivisor
  refine j_iload_n hC 0 rfl rfl (dOk_at dt_X9_commonDivisor 0 rfl) ?_
  refine j_istore_n hC rfl (lv' := [(2, .int x0), (0, .int x0), (1, .int x1)]) (by decide) rfl (dOk_at dt_X9_commonDivisor 1 rfl) ?_
  refine j_iload_n hC 2 rfl rfl (dOk_at dt_X9_commonDivisor 2 rfl) ?_
  refine j_istore_n hC rfl (lv' := [(3, .int x1), (2, .int x0), (0, .int x0), (1, .int x1)]) (by decide) rfl (dOk_at dt_X9_commonDivisor 3 rfl) ?_
  refine j_iconst hC (v := (0 : Int32)) rfl (dOk_at dt_X9_commonDivisor 4 rfl) ?_
  refine j_istore hC (lv' := [(4, .int (0 : Int32)), (3, .int x1), (2, .int x0), (0, .int x0), (1, .int x1)]) (by decide) rfl (dOk_at dt_X9_commonDivisor 5 rfl) ?_
  refine j_sub [2, 1, 0] rfl ?_
  exact b7 FU h x0 x1 (0 : Int32) 
def tb_X9_dry : List (Nat × Instr × Nat) := [(0, .iload_n 1, 1), (1, .ifCond .lt 18, 3), (4, .iload_n 1, 1), (5, .bipush 6, 2), (7, .if_icmp .gt 12, 3), (10, .iload_n 2, 1), (11, .ifCond .lt 8, 3), (14, .iload_n 2, 1), (15, .iconst 1, 1), (16, .if_icmp .le 7, 3), (19, .ldc2_w 297, 3), (22, .lreturn, 1), (23, .bipush 100, 2), (25, .aload_n 0, 1), (26, .getfield 10, 3), (29, .getfield 299, 3), (32, .isub, 1), (33, .istore_n 3, 1), (34, .iload_n 3, 1), (35, .bipush 100, 2), (37, .invokestatic 302, 3), (40, .istore 4, 2), (42, .iload_n 2, 1), (43, .ifCond .ne 7, 3), (46, .iload_n 3, 1), (47, .goto 5, 3), (50, .bipush 100, 2), (52, .istore 5, 2), (54, .iload 4, 2), (56, .ifCond .le 12, 3), (59, .iload 5, 2), (61, .iload 4, 2), (63, .idiv, 1), (64, .i2l, 1), (65, .goto 6, 3), (68, .iload 5, 2), (70, .i2l, 1), (71, .lstore 6, 2), (73, .lconst 1, 1), (74, .lstore 8, 2), (76, .iconst 0, 1), (77, .istore 10, 2), (79, .iload 10, 2), (81, .iload_n 1, 1), (82, .if_icmp .ge 16, 3), (85, .lload 8, 2), (87, .lload 6, 2), (89, .lmul, 1), (90, .lstore 8, 2), (92, .iinc 10 1, 3), (95, .goto (-16), 3), (98, .lload 8, 2), (100, .lreturn, 1)]
theorem dt_X9_dry : dOk cX9_dry tb_X9_dry = true := by decide +kernel
def fX9_dry_79 : Nat → Hp → Int32 → Int64 → Int64 → Int32 → Option (Int64 × Hp)
  | 0, _, _, _, _, _ => none
  | fu + 1, h, x1, x6, x8, x10 => if x1 ≤ x10 then (some (x8, h)) else ((fX9_dry_79 fu) h x1 x6 (x8 * x6) (x10 + (1 : Int32)))
def fX9_dry_71 (h : Hp) (x1 : Int32) (s0 : Int64) : Option (Int64 × Hp) := fX9_dry_79 FU h x1 s0 (1 : Int64) (0 : Int32)
def fX9_dry_52 (h : Hp) (x1 : Int32) (x4 : Int32) (s0 : Int32) : Option (Int64 × Hp) := if x4 ≤ 0 then (fX9_dry_71 h x1 (Int32.toInt64 s0)) else (if x4 = 0 then none else fX9_dry_71 h x1 (Int32.toInt64 (s0 / x4)))
def fX9_dry (h : Hp) (x1 : Int32) (x2 : Int32) : Option (Int64 × Hp) := if x1 < 0 then (some ((-1 : Int64), h)) else (if (6 : Int32) < x1 then (some ((-1 : Int64), h)) else (if x2 < 0 then (some ((-1 : Int64), h)) else (if x2 ≤ (1 : Int32) then ((dref shp h 0 3 (7, 20)).bind (fun z_5 => bnd (fX9_commonDivisor h ((100 : Int32) - (hI h z_5 13)) (100 : Int32)) (fun v_7 h_8 => if x2 = 0 then (fX9_dry_52 h_8 x1 v_7 ((100 : Int32) - (hI h z_5 13))) else (fX9_dry_52 h_8 x1 v_7 (100 : Int32))))) else (some ((-1 : Int64), h)))))
set_option maxRecDepth 100000 in
set_option maxHeartbeats 4000000 in
theorem c_X9_dry {l : Launch} {sb : State} {D : va_G} {ids : Nat → ClassId} {n : Nat} (hN : 152 ≤ n) (h : Hp) (x1 : Int32) (x2 : Int32) (r : Int64 × Hp) (hr : fX9_dry h x1 x2 = some r) : jM l yX9_dry cX9_dry 11 (some .long) 1 sb D ids shp St n [.ref 0, .int x1, .int x2] h (jQl sb D ids shp St n r) := by
  refine jM_of hr rfl (Nat.le_of_ble_eq_true rfl) ?_
  intro p e s m args below meth c hC hret
  have b79 : ∀ (fu : Nat) (h : Hp) (x1 : Int32) (x6 : Int64) (x8 : Int64) (x10 : Int32) , jJ p l e (rmD 1) s m args below meth c 11 sb D ids shp St (fun r => MQ below (jQl sb D ids shp St n r) args s 0 0 (jA sb)) n 0 0 h 79 [(1, .int x1), (6, .long x6), (8, .long x8), (10, .int x10)] [] (fX9_dry_79 fu h x1 x6 x8 x10) := by
    intro fu 
    induction fu with
    | zero => intro h x1 x6 x8 x10 ; exact j_none
    | succ fu ih =>
    intro h x1 x6 x8 x10 
    rw [fX9_dry_79]
    refine j_iload hC 3 rfl (dOk_at dt_X9_dry 42 rfl) ?_
    refine j_iload_n hC 0 rfl rfl (dOk_at dt_X9_dry 43 rfl) ?_
    refine j_icmp_ge hC (tgt := 98) (by decide) (dOk_at dt_X9_dry 44 rfl) (fun q_11 => ?_) (fun q_11 => ?_)
    · refine j_lload hC 2 rfl (dOk_at dt_X9_dry 51 rfl) ?_
      exact j_lret hC hret (dOk_at dt_X9_dry 52 rfl)
    · refine j_lload hC 2 rfl (dOk_at dt_X9_dry 45 rfl) ?_
      refine j_lload hC 1 rfl (dOk_at dt_X9_dry 46 rfl) ?_
      refine j_lmul hC (dOk_at dt_X9_dry 47 rfl) ?_
      refine j_lstore hC (lv' := [(8, .long (x8 * x6)), (1, .int x1), (6, .long x6), (10, .int x10)]) (by decide) rfl (dOk_at dt_X9_dry 48 rfl) ?_
      refine j_iinc hC (v := (x10 + (1 : Int32))) (lv' := [(10, .int (x10 + (1 : Int32))), (8, .long (x8 * x6)), (1, .int x1), (6, .long x6)]) 3 rfl (congrArg (fun z => x10 + z) (show Int32.ofInt (1) = (1 : Int32) from by decide)) (by decide) rfl (dOk_at dt_X9_dry 49 rfl) ?_
      refine j_goto hC (tgt := 79) (by decide) (dOk_at dt_X9_dry 50 rfl) ?_
      refine j_sub [2, 3, 1, 0] rfl ?_
      exact ih h x1 x6 (x8 * x6) (x10 + (1 : Int32)) 
  have b71 : ∀ (h : Hp) (x1 : Int32) (s0 : Int64) , jJ p l e (rmD 1) s m args below meth c 11 sb D ids shp St (fun r => MQ below (jQl sb D ids shp St n r) args s 0 0 (jA sb)) n 0 0 h 71 [(1, .int x1)] [.long s0] (fX9_dry_71 h x1 s0) := by
    intro h x1 s0 
    unfold fX9_dry_71
    refine j_lstore hC (lv' := [(6, .long s0), (1, .int x1)]) (by decide) rfl (dOk_at dt_X9_dry 37 rfl) ?_
    refine j_lconst hC (v := (1 : Int64)) rfl (dOk_at dt_X9_dry 38 rfl) ?_
    refine j_lstore hC (lv' := [(8, .long (1 : Int64)), (6, .long s0), (1, .int x1)]) (by decide) rfl (dOk_at dt_X9_dry 39 rfl) ?_
    refine j_iconst hC (v := (0 : Int32)) rfl (dOk_at dt_X9_dry 40 rfl) ?_
    refine j_istore hC (lv' := [(10, .int (0 : Int32)), (8, .long (1 : Int64)), (6, .long s0), (1, .int x1)]) (by decide) rfl (dOk_at dt_X9_dry 41 rfl) ?_
    refine j_sub [3, 2, 1, 0] rfl ?_
    exact b79 FU h x1 s0 (1 : Int64) (0 : Int32) 
  have b52 : ∀ (h : Hp) (x1 : Int32) (x4 : Int32) (s0 : Int32) , jJ p l e (rmD 1) s m args below meth c 11 sb D ids shp St (fun r => MQ below (jQl sb D ids shp St n r) args s 0 0 (jA sb)) n 0 0 h 52 [(1, .int x1), (4, .int x4)] [.int s0] (fX9_dry_52 h x1 x4 s0) := by
    intro h x1 x4 s0 
    unfold fX9_dry_52
    refine j_istore hC (lv' := [(5, .int s0), (1, .int x1), (4, .int x4)]) (by decide) rfl (dOk_at dt_X9_dry 27 rfl) ?_
    refine j_iload hC 2 rfl (dOk_at dt_X9_dry 28 rfl) ?_
    refine j_if_le hC (tgt := 68) (by decide) (dOk_at dt_X9_dry 29 rfl) (fun q_10 => ?_) (fun q_10 => ?_)
    · refine j_iload hC 0 rfl (dOk_at dt_X9_dry 35 rfl) ?_
      refine j_i2l hC (dOk_at dt_X9_dry 36 rfl) ?_
      refine j_sub [1] rfl ?_
      exact b71 h x1 (Int32.toInt64 s0) 
    · refine j_iload hC 0 rfl (dOk_at dt_X9_dry 30 rfl) ?_
      refine j_iload hC 2 rfl (dOk_at dt_X9_dry 31 rfl) ?_
      refine j_idiv hC (dOk_at dt_X9_dry 32 rfl) ?_
      refine j_i2l hC (dOk_at dt_X9_dry 33 rfl) ?_
      refine j_goto hC (tgt := 71) (by decide) (dOk_at dt_X9_dry 34 rfl) ?_
      refine j_sub [1] rfl ?_
      exact b71 h x1 (Int32.toInt64 (s0 / x4)) 
  unfold fX9_dry
  refine j_iload_n hC 1 rfl rfl (dOk_at dt_X9_dry 0 rfl) ?_
  refine j_if_lt hC (tgt := 19) (by decide) (dOk_at dt_X9_dry 1 rfl) (fun q_1 => ?_) (fun q_1 => ?_)
  · refine j_ldc2 hC klX9_297 (dOk_at dt_X9_dry 10 rfl) ?_
    exact j_lret hC hret (dOk_at dt_X9_dry 11 rfl)
  · refine j_iload_n hC 1 rfl rfl (dOk_at dt_X9_dry 2 rfl) ?_
    refine j_bipush hC (v := (6 : Int32)) rfl (dOk_at dt_X9_dry 3 rfl) ?_
    refine j_icmp_gt hC (tgt := 19) (by decide) (dOk_at dt_X9_dry 4 rfl) (fun q_2 => ?_) (fun q_2 => ?_)
    · refine j_ldc2 hC klX9_297 (dOk_at dt_X9_dry 10 rfl) ?_
      exact j_lret hC hret (dOk_at dt_X9_dry 11 rfl)
    · refine j_iload_n hC 2 rfl rfl (dOk_at dt_X9_dry 5 rfl) ?_
      refine j_if_lt hC (tgt := 19) (by decide) (dOk_at dt_X9_dry 6 rfl) (fun q_3 => ?_) (fun q_3 => ?_)
      · refine j_ldc2 hC klX9_297 (dOk_at dt_X9_dry 10 rfl) ?_
        exact j_lret hC hret (dOk_at dt_X9_dry 11 rfl)
      · refine j_iload_n hC 2 rfl rfl (dOk_at dt_X9_dry 7 rfl) ?_
        refine j_iconst hC (v := (1 : Int32)) rfl (dOk_at dt_X9_dry 8 rfl) ?_
        refine j_icmp_le hC (tgt := 23) (by decide) (dOk_at dt_X9_dry 9 rfl) (fun q_4 => ?_) (fun q_4 => ?_)
        · refine j_bipush hC (v := (100 : Int32)) rfl (dOk_at dt_X9_dry 12 rfl) ?_
          refine j_aload_n hC 0 rfl rfl (dOk_at dt_X9_dry 13 rfl) ?_
          refine j_getD (q := (7, 20)) hC flX9_10 (show shp 0 = (9, 12) from rfl) (Nat.lt_of_lt_of_le (Nat.le_of_ble_eq_true rfl : 0 < 152) hN) (by decide) (by decide) (fun _ _ _ => rfl) (dOk_at dt_X9_dry 14 rfl) (fun z_5 _ g_6 => ?_)
          refine j_getI hC flX9_299 g_6 (jlt hN g_6 (by decide)) (by decide) (by decide) (fun _ _ _ => rfl) (dOk_at dt_X9_dry 15 rfl) ?_
          refine j_isub hC (dOk_at dt_X9_dry 16 rfl) ?_
          refine j_istore_n hC rfl (lv' := [(3, .int ((100 : Int32) - (hI h z_5 13))), (0, .ref 0), (1, .int x1), (2, .int x2)]) (by decide) rfl (dOk_at dt_X9_dry 17 rfl) ?_
          refine j_iload_n hC 0 rfl rfl (dOk_at dt_X9_dry 18 rfl) ?_
          refine j_bipush hC (v := (100 : Int32)) rfl (dOk_at dt_X9_dry 19 rfl) ?_
          refine j_callSi hC clX9_302 (fun rz hrz => c_X9_commonDivisor hN _ _ _ rz hrz) rfl ⟨Nat.le_of_ble_eq_true rfl, Nat.le_of_ble_eq_true rfl⟩ ⟨Nat.le_refl 0, Nat.le_refl 0⟩ (As := [.int ((100 : Int32) - (hI h z_5 13)), .int (100 : Int32)]) (st := []) rfl (Nat.le_of_ble_eq_true rfl) (dOk_at dt_X9_dry 20 rfl) (fun v_7 h_8 _ => ?_)
          refine j_istore hC (lv' := [(4, .int v_7), (3, .int ((100 : Int32) - (hI h z_5 13))), (0, .ref 0), (1, .int x1), (2, .int x2)]) (by decide) rfl (dOk_at dt_X9_dry 21 rfl) ?_
          refine j_iload_n hC 4 rfl rfl (dOk_at dt_X9_dry 22 rfl) ?_
          refine j_if_ne hC (tgt := 50) (by decide) (dOk_at dt_X9_dry 23 rfl) (fun q_9 => ?_) (fun q_9 => ?_)
          · refine j_bipush hC (v := (100 : Int32)) rfl (dOk_at dt_X9_dry 26 rfl) ?_
            refine j_sub [3, 0] rfl ?_
            exact b52 h_8 x1 v_7 (100 : Int32) 
          · refine j_iload_n hC 1 rfl rfl (dOk_at dt_X9_dry 24 rfl) ?_
            refine j_goto hC (tgt := 52) (by decide) (dOk_at dt_X9_dry 25 rfl) ?_
            refine j_sub [3, 0] rfl ?_
            exact b52 h_8 x1 v_7 ((100 : Int32) - (hI h z_5 13)) 
        · refine j_ldc2 hC klX9_297 (dOk_at dt_X9_dry 10 rfl) ?_
          exact j_lret hC hret (dOk_at dt_X9_dry 11 rfl)
def tb_X9_see : List (Nat × Instr × Nat) := [(0, .iload_n 1, 1), (1, .iconst 1, 1), (2, .if_icmp .lt 27, 3), (5, .iload_n 1, 1), (6, .bipush 60, 2), (8, .if_icmp .gt 21, 3), (11, .aload_n 0, 1), (12, .iload_n 2, 1), (13, .invokevirtual 168, 3), (16, .ifCond .eq 13, 3), (19, .iload_n 3, 1), (20, .ifCond .lt 9, 3), (23, .iload_n 3, 1), (24, .bipush 12, 2), (26, .if_icmp .le 5, 3), (29, .iconst (-1), 1), (30, .ireturn, 1), (31, .aload_n 0, 1), (32, .getfield 62, 3), (35, .iload_n 1, 1), (36, .iload_n 2, 1), (37, .iload_n 3, 1), (38, .iload 4, 2), (40, .invokevirtual 305, 3), (43, .ireturn, 1)]
theorem dt_X9_see : dOk cX9_see tb_X9_see = true := by decide +kernel
def fX9_see (h : Hp) (x1 : Int32) (x2 : Int32) (x3 : Int32) (x4 : Int32) : Option (Int32 × Hp) := if x1 < (1 : Int32) then (some ((-1 : Int32), h)) else (if (60 : Int32) < x1 then (some ((-1 : Int32), h)) else (bnd (fX9_isMember h x2) (fun v_3 h_4 => if v_3 = 0 then (some ((-1 : Int32), h_4)) else (if x3 < 0 then (some ((-1 : Int32), h_4)) else (if x3 ≤ (12 : Int32) then (bnd (fX2_addSeen h_4 x1 x2 x3 x4) (fun v_8 h_9 => some (v_8, h_9))) else (some ((-1 : Int32), h_4)))))))
set_option maxRecDepth 100000 in
set_option maxHeartbeats 4000000 in
theorem c_X9_see {l : Launch} {sb : State} {D : va_G} {ids : Nat → ClassId} {n : Nat} (hN : 152 ≤ n) (h : Hp) (x1 : Int32) (x2 : Int32) (x3 : Int32) (x4 : Int32) (r : Int32 × Hp) (hr : fX9_see h x1 x2 x3 x4 = some r) : jM l yX9_see cX9_see 5 (some .int) 1 sb D ids shp St n [.ref 0, .int x1, .int x2, .int x3, .int x4] h (jQi sb D ids shp St n r) := by
  refine jM_of hr rfl (Nat.le_of_ble_eq_true rfl) ?_
  intro p e s m args below meth c hC hret
  unfold fX9_see
  refine j_iload_n hC 1 rfl rfl (dOk_at dt_X9_see 0 rfl) ?_
  refine j_iconst hC (v := (1 : Int32)) rfl (dOk_at dt_X9_see 1 rfl) ?_
  refine j_icmp_lt hC (tgt := 29) (by decide) (dOk_at dt_X9_see 2 rfl) (fun q_1 => ?_) (fun q_1 => ?_)
  · refine j_iconst hC (v := (-1 : Int32)) rfl (dOk_at dt_X9_see 15 rfl) ?_
    exact j_iret hC hret (dOk_at dt_X9_see 16 rfl)
  · refine j_iload_n hC 1 rfl rfl (dOk_at dt_X9_see 3 rfl) ?_
    refine j_bipush hC (v := (60 : Int32)) rfl (dOk_at dt_X9_see 4 rfl) ?_
    refine j_icmp_gt hC (tgt := 29) (by decide) (dOk_at dt_X9_see 5 rfl) (fun q_2 => ?_) (fun q_2 => ?_)
    · refine j_iconst hC (v := (-1 : Int32)) rfl (dOk_at dt_X9_see 15 rfl) ?_
      exact j_iret hC hret (dOk_at dt_X9_see 16 rfl)
    · refine j_aload_n hC 0 rfl rfl (dOk_at dt_X9_see 6 rfl) ?_
      refine j_iload_n hC 2 rfl rfl (dOk_at dt_X9_see 7 rfl) ?_
      refine j_callVi hC clX9_168 (fun rz hrz => c_X9_isMember hN _ _ rz hrz) (show shp 0 = (9, 12) from rfl) (Nat.lt_of_lt_of_le (Nat.le_of_ble_eq_true rfl : 0 < 152) hN) (by decide) rfl rfl ⟨Nat.le_of_ble_eq_true rfl, Nat.le_of_ble_eq_true rfl⟩ ⟨Nat.le_refl 0, Nat.le_refl 0⟩ (As := [.int x2]) (st := []) rfl (Nat.le_of_ble_eq_true rfl) (dOk_at dt_X9_see 8 rfl) (fun v_3 h_4 _ => ?_)
      refine j_if_eq hC (tgt := 29) (by decide) (dOk_at dt_X9_see 9 rfl) (fun q_5 => ?_) (fun q_5 => ?_)
      · refine j_iconst hC (v := (-1 : Int32)) rfl (dOk_at dt_X9_see 15 rfl) ?_
        exact j_iret hC hret (dOk_at dt_X9_see 16 rfl)
      · refine j_iload_n hC 3 rfl rfl (dOk_at dt_X9_see 10 rfl) ?_
        refine j_if_lt hC (tgt := 29) (by decide) (dOk_at dt_X9_see 11 rfl) (fun q_6 => ?_) (fun q_6 => ?_)
        · refine j_iconst hC (v := (-1 : Int32)) rfl (dOk_at dt_X9_see 15 rfl) ?_
          exact j_iret hC hret (dOk_at dt_X9_see 16 rfl)
        · refine j_iload_n hC 3 rfl rfl (dOk_at dt_X9_see 12 rfl) ?_
          refine j_bipush hC (v := (12 : Int32)) rfl (dOk_at dt_X9_see 13 rfl) ?_
          refine j_icmp_le hC (tgt := 31) (by decide) (dOk_at dt_X9_see 14 rfl) (fun q_7 => ?_) (fun q_7 => ?_)
          · refine j_aload_n hC 0 rfl rfl (dOk_at dt_X9_see 17 rfl) ?_
            refine j_getR hC flX9_62 (show shp 0 = (9, 12) from rfl) (Nat.lt_of_lt_of_le (Nat.le_of_ble_eq_true rfl : 0 < 152) hN) (by decide) (by decide) (fun _ _ _ => rfl) (fun hs => hs 0 10 97 rfl) (dOk_at dt_X9_see 18 rfl) ?_
            refine j_iload_n hC 1 rfl rfl (dOk_at dt_X9_see 19 rfl) ?_
            refine j_iload_n hC 2 rfl rfl (dOk_at dt_X9_see 20 rfl) ?_
            refine j_iload_n hC 3 rfl rfl (dOk_at dt_X9_see 21 rfl) ?_
            refine j_iload hC 4 rfl (dOk_at dt_X9_see 22 rfl) ?_
            refine j_callVi hC clX9_305 (fun rz hrz => c_X2_addSeen hN _ _ _ _ _ rz hrz) (show shp 97 = (2, 7) from rfl) (Nat.lt_of_lt_of_le (Nat.le_of_ble_eq_true rfl : 97 < 152) hN) (by decide) rfl rfl ⟨Nat.le_of_ble_eq_true rfl, Nat.le_of_ble_eq_true rfl⟩ ⟨Nat.le_refl 0, Nat.le_refl 0⟩ (As := [.int x1, .int x2, .int x3, .int x4]) (st := []) rfl (Nat.le_of_ble_eq_true rfl) (dOk_at dt_X9_see 23 rfl) (fun v_8 h_9 _ => ?_)
            exact j_iret hC hret (dOk_at dt_X9_see 24 rfl)
          · refine j_iconst hC (v := (-1 : Int32)) rfl (dOk_at dt_X9_see 15 rfl) ?_
            exact j_iret hC hret (dOk_at dt_X9_see 16 rfl)
def tb_X9_strike : List (Nat × Instr × Nat) := [(0, .aload_n 0, 1), (1, .getfield 62, 3), (4, .iload_n 1, 1), (5, .invokevirtual 309, 3), (8, .ireturn, 1)]
theorem dt_X9_strike : dOk cX9_strike tb_X9_strike = true := by decide +kernel
def fX9_strike (h : Hp) (x1 : Int32) : Option (Int32 × Hp) := bnd (fX2_addStrike h x1) (fun v_1 h_2 => some (v_1, h_2))
set_option maxRecDepth 100000 in
set_option maxHeartbeats 4000000 in
theorem c_X9_strike {l : Launch} {sb : State} {D : va_G} {ids : Nat → ClassId} {n : Nat} (hN : 152 ≤ n) (h : Hp) (x1 : Int32) (r : Int32 × Hp) (hr : fX9_strike h x1 = some r) : jM l yX9_strike cX9_strike 2 (some .int) 1 sb D ids shp St n [.ref 0, .int x1] h (jQi sb D ids shp St n r) := by
  refine jM_of hr rfl (Nat.le_of_ble_eq_true rfl) ?_
  intro p e s m args below meth c hC hret
  unfold fX9_strike
  refine j_aload_n hC 0 rfl rfl (dOk_at dt_X9_strike 0 rfl) ?_
  refine j_getR hC flX9_62 (show shp 0 = (9, 12) from rfl) (Nat.lt_of_lt_of_le (Nat.le_of_ble_eq_true rfl : 0 < 152) hN) (by decide) (by decide) (fun _ _ _ => rfl) (fun hs => hs 0 10 97 rfl) (dOk_at dt_X9_strike 1 rfl) ?_
  refine j_iload_n hC 1 rfl rfl (dOk_at dt_X9_strike 2 rfl) ?_
  refine j_callVi hC clX9_309 (fun rz hrz => c_X2_addStrike hN _ _ rz hrz) (show shp 97 = (2, 7) from rfl) (Nat.lt_of_lt_of_le (Nat.le_of_ble_eq_true rfl : 97 < 152) hN) (by decide) rfl rfl ⟨Nat.le_of_ble_eq_true rfl, Nat.le_of_ble_eq_true rfl⟩ ⟨Nat.le_refl 0, Nat.le_refl 0⟩ (As := [.int x1]) (st := []) rfl (Nat.le_of_ble_eq_true rfl) (dOk_at dt_X9_strike 3 rfl) (fun v_1 h_2 _ => ?_)
  exact j_iret hC hret (dOk_at dt_X9_strike 4 rfl)
def tb_X9_known : List (Nat × Instr × Nat) := [(0, .iload_n 1, 1), (1, .iconst (-1), 1), (2, .if_icmp .lt 14, 3), (5, .iload_n 1, 1), (6, .aload_n 0, 1), (7, .getfield 62, 3), (10, .getfield 312, 3), (13, .if_icmp .le 5, 3), (16, .iconst 0, 1), (17, .ireturn, 1), (18, .aload_n 0, 1), (19, .getfield 62, 3), (22, .iload_n 1, 1), (23, .putfield 315, 3), (26, .iconst 1, 1), (27, .ireturn, 1)]
theorem dt_X9_known : dOk cX9_known tb_X9_known = true := by decide +kernel
def fX9_known (h : Hp) (x1 : Int32) : Option (Int32 × Hp) := if x1 < (-1 : Int32) then (some ((0 : Int32), h)) else (if x1 ≤ (hI h 97 0) then (some ((1 : Int32), (uI h 97 1 x1))) else (some ((0 : Int32), h)))
set_option maxRecDepth 100000 in
set_option maxHeartbeats 4000000 in
theorem c_X9_known {l : Launch} {sb : State} {D : va_G} {ids : Nat → ClassId} {n : Nat} (hN : 152 ≤ n) (h : Hp) (x1 : Int32) (r : Int32 × Hp) (hr : fX9_known h x1 = some r) : jM l yX9_known cX9_known 2 (some .boolean) 0 sb D ids shp St n [.ref 0, .int x1] h (jQi sb D ids shp St n r) := by
  refine jM_of hr rfl (Nat.le_of_ble_eq_true rfl) ?_
  intro p e s m args below meth c hC hret
  unfold fX9_known
  refine j_iload_n hC 1 rfl rfl (dOk_at dt_X9_known 0 rfl) ?_
  refine j_iconst hC (v := (-1 : Int32)) rfl (dOk_at dt_X9_known 1 rfl) ?_
  refine j_icmp_lt hC (tgt := 16) (by decide) (dOk_at dt_X9_known 2 rfl) (fun q_1 => ?_) (fun q_1 => ?_)
  · refine j_iconst hC (v := (0 : Int32)) rfl (dOk_at dt_X9_known 8 rfl) ?_
    exact j_zretK hC hret rfl (dOk_at dt_X9_known 9 rfl)
  · refine j_iload_n hC 1 rfl rfl (dOk_at dt_X9_known 3 rfl) ?_
    refine j_aload_n hC 0 rfl rfl (dOk_at dt_X9_known 4 rfl) ?_
    refine j_getR hC flX9_62 (show shp 0 = (9, 12) from rfl) (Nat.lt_of_lt_of_le (Nat.le_of_ble_eq_true rfl : 0 < 152) hN) (by decide) (by decide) (fun _ _ _ => rfl) (fun hs => hs 0 10 97 rfl) (dOk_at dt_X9_known 5 rfl) ?_
    refine j_getI hC flX9_312 (show shp 97 = (2, 7) from rfl) (Nat.lt_of_lt_of_le (Nat.le_of_ble_eq_true rfl : 97 < 152) hN) (by decide) (by decide) (fun _ _ _ => rfl) (dOk_at dt_X9_known 6 rfl) ?_
    refine j_icmp_le hC (tgt := 18) (by decide) (dOk_at dt_X9_known 7 rfl) (fun q_2 => ?_) (fun q_2 => ?_)
    · refine j_aload_n hC 0 rfl rfl (dOk_at dt_X9_known 10 rfl) ?_
      refine j_getR hC flX9_62 (show shp 0 = (9, 12) from rfl) (Nat.lt_of_lt_of_le (Nat.le_of_ble_eq_true rfl : 0 < 152) hN) (by decide) (by decide) (fun _ _ _ => rfl) (fun hs => hs 0 10 97 rfl) (dOk_at dt_X9_known 11 rfl) ?_
      refine j_iload_n hC 1 rfl rfl (dOk_at dt_X9_known 12 rfl) ?_
      refine j_putI hC St_SP flX9_315 (show shp 97 = (2, 7) from rfl) (Nat.lt_of_lt_of_le (Nat.le_of_ble_eq_true rfl : 97 < 152) hN) (by decide) (by decide) rfl rfl (dOk_at dt_X9_known 13 rfl) ?_
      refine j_iconst hC (v := (1 : Int32)) rfl (dOk_at dt_X9_known 14 rfl) ?_
      exact j_zretK hC hret rfl (dOk_at dt_X9_known 15 rfl)
    · refine j_iconst hC (v := (0 : Int32)) rfl (dOk_at dt_X9_known 8 rfl) ?_
      exact j_zretK hC hret rfl (dOk_at dt_X9_known 9 rfl)
def tb_X9_heldBits : List (Nat × Instr × Nat) := [(0, .aload_n 0, 1), (1, .getfield 62, 3), (4, .invokevirtual 375, 3), (7, .istore_n 2, 1), (8, .aload_n 0, 1), (9, .getfield 62, 3), (12, .iload_n 2, 1), (13, .invokevirtual 378, 3), (16, .istore_n 3, 1), (17, .iconst 0, 1), (18, .istore 4, 2), (20, .iconst 0, 1), (21, .istore 5, 2), (23, .iload 5, 2), (25, .aload_n 0, 1), (26, .getfield 10, 3), (29, .getfield 106, 3), (32, .getfield 110, 3), (35, .getfield 360, 3), (38, .if_icmp .ge 98, 3), (41, .aload_n 0, 1), (42, .getfield 45, 3), (45, .aload_n 0, 1), (46, .getfield 10, 3), (49, .invokevirtual 97, 3), (52, .aload_n 0, 1), (53, .getfield 45, 3), (56, .iconst 0, 1), (57, .putfield 361, 3), (60, .aload_n 0, 1), (61, .getfield 45, 3), (64, .iload_n 1, 1), (65, .iconst 1, 1), (66, .iload 5, 2), (68, .ishl, 1), (69, .invokevirtual 205, 3), (72, .iconst 1, 1), (73, .istore 6, 2), (75, .iconst 1, 1), (76, .istore 7, 2), (78, .iload 7, 2), (80, .iload_n 3, 1), (81, .if_icmp .gt 35, 3), (84, .iload 6, 2), (86, .ifCond .eq 30, 3), (89, .aload_n 0, 1), (90, .getfield 45, 3), (93, .invokevirtual 235, 3), (96, .aload_n 0, 1), (97, .getfield 62, 3), (100, .iload_n 2, 1), (101, .aload_n 0, 1), (102, .getfield 45, 3), (105, .invokevirtual 381, 3), (108, .istore 6, 2), (110, .iinc 7 1, 3), (113, .goto (-35), 3), (116, .iload 6, 2), (118, .ifCond .eq 12, 3), (121, .iload 4, 2), (123, .iconst 1, 1), (124, .iload 5, 2), (126, .ishl, 1), (127, .ior, 1), (128, .istore 4, 2), (130, .iinc 5 1, 3), (133, .goto (-110), 3), (136, .iload 4, 2), (138, .ireturn, 1)]
theorem dt_X9_heldBits : dOk cX9_heldBits tb_X9_heldBits = true := by decide +kernel
def fX9_heldBits_130 (rec23 : Hp → Int32 → Int32 → Int32 → Int32 → Int32 → Option (Int32 × Hp)) (h : Hp) (x1 : Int32) (x2 : Int32) (x3 : Int32) (x4 : Int32) (x5 : Int32) : Option (Int32 × Hp) := rec23 h x1 x2 x3 x4 (x5 + (1 : Int32))
def fX9_heldBits_116 (rec23 : Hp → Int32 → Int32 → Int32 → Int32 → Int32 → Option (Int32 × Hp)) (h : Hp) (x1 : Int32) (x2 : Int32) (x3 : Int32) (x4 : Int32) (x5 : Int32) (x6 : Int32) : Option (Int32 × Hp) := if x6 = 0 then (fX9_heldBits_130 rec23 h x1 x2 x3 x4 x5) else (fX9_heldBits_130 rec23 h x1 x2 x3 (x4 ||| ((1 : Int32) <<< (x5 &&& 31))) x5)
def fX9_heldBits_78 : Nat → (Hp → Int32 → Int32 → Int32 → Int32 → Int32 → Option (Int32 × Hp)) → Hp → Int32 → Int32 → Int32 → Int32 → Int32 → Int32 → Int32 → Option (Int32 × Hp)
  | 0, _, _, _, _, _, _, _, _, _ => none
  | fu + 1, rec23, h, x1, x2, x3, x4, x5, x6, x7 => if x3 < x7 then (fX9_heldBits_116 rec23 h x1 x2 x3 x4 x5 x6) else (if x6 = 0 then (fX9_heldBits_116 rec23 h x1 x2 x3 x4 x5 x6) else ((fX8_passNight 84 h).bind (fun h_17 => bnd (fX2_isBorneOut 84 h_17 x2) (fun v_18 h_19 => (fX9_heldBits_78 fu rec23) h_19 x1 x2 x3 x4 x5 v_18 (x7 + (1 : Int32))))))
def fX9_heldBits_23 : Nat → Hp → Int32 → Int32 → Int32 → Int32 → Int32 → Option (Int32 × Hp)
  | 0, _, _, _, _, _, _ => none
  | fu + 1, h, x1, x2, x3, x4, x5 => (dref shp h 0 3 (7, 20)).bind (fun z_5 => if (hI h (rf (rf z_5 0) 0) 2) ≤ x5 then (some (x4, h)) else ((dref shp h 0 3 (7, 20)).bind (fun z_8 => (fX8_begin 84 z_8 h).bind (fun h_11 => (fX8_setHolds 84 (uI h_11 84 10 (0 : Int32)) x1 ((1 : Int32) <<< (x5 &&& 31))).bind (fun h_13 => fX9_heldBits_78 FU (fX9_heldBits_23 fu) h_13 x1 x2 x3 x4 x5 (1 : Int32) (1 : Int32))))))
def fX9_heldBits (h : Hp) (x1 : Int32) : Option (Int32 × Hp) := bnd (fX2_knownOnes h) (fun v_1 h_2 => bnd (fX2_latestNight h_2 v_1) (fun v_3 h_4 => fX9_heldBits_23 FU h_4 x1 v_1 v_3 (0 : Int32) (0 : Int32)))
set_option maxRecDepth 100000 in
set_option maxHeartbeats 4000000 in
theorem c_X9_heldBits {l : Launch} {sb : State} {D : va_G} {ids : Nat → ClassId} {n : Nat} (hN : 152 ≤ n) (h : Hp) (x1 : Int32) (r : Int32 × Hp) (hr : fX9_heldBits h x1 = some r) : jM l yX9_heldBits cX9_heldBits 8 (some .int) 6 sb D ids shp St n [.ref 0, .int x1] h (jQi sb D ids shp St n r) := by
  refine jM_of hr rfl (Nat.le_of_ble_eq_true rfl) ?_
  intro p e s m args below meth c hC hret
  have b130 : ∀ (rec23 : Hp → Int32 → Int32 → Int32 → Int32 → Int32 → Option (Int32 × Hp)) (hrec23 : ∀ (h : Hp) (x1 : Int32) (x2 : Int32) (x3 : Int32) (x4 : Int32) (x5 : Int32) , jJ p l e (rmD 6) s m args below meth c 8 sb D ids shp St (fun r => MQ below (jQi sb D ids shp St n r) args s 0 0 (jA sb)) n 0 0 h 23 [(0, .ref 0), (1, .int x1), (2, .int x2), (3, .int x3), (4, .int x4), (5, .int x5)] [] (rec23 h x1 x2 x3 x4 x5)) (h : Hp) (x1 : Int32) (x2 : Int32) (x3 : Int32) (x4 : Int32) (x5 : Int32) , jJ p l e (rmD 6) s m args below meth c 8 sb D ids shp St (fun r => MQ below (jQi sb D ids shp St n r) args s 0 0 (jA sb)) n 0 0 h 130 [(0, .ref 0), (1, .int x1), (2, .int x2), (3, .int x3), (4, .int x4), (5, .int x5)] [] (fX9_heldBits_130 rec23 h x1 x2 x3 x4 x5) := by
    intro rec23 hrec23 h x1 x2 x3 x4 x5 
    unfold fX9_heldBits_130
    refine j_iinc hC (v := (x5 + (1 : Int32))) (lv' := [(5, .int (x5 + (1 : Int32))), (0, .ref 0), (1, .int x1), (2, .int x2), (3, .int x3), (4, .int x4)]) 5 rfl (congrArg (fun z => x5 + z) (show Int32.ofInt (1) = (1 : Int32) from by decide)) (by decide) rfl (dOk_at dt_X9_heldBits 65 rfl) ?_
    refine j_goto hC (tgt := 23) (by decide) (dOk_at dt_X9_heldBits 66 rfl) ?_
    refine j_sub [1, 2, 3, 4, 5, 0] rfl ?_
    exact hrec23 h x1 x2 x3 x4 (x5 + (1 : Int32)) 
  have b116 : ∀ (rec23 : Hp → Int32 → Int32 → Int32 → Int32 → Int32 → Option (Int32 × Hp)) (hrec23 : ∀ (h : Hp) (x1 : Int32) (x2 : Int32) (x3 : Int32) (x4 : Int32) (x5 : Int32) , jJ p l e (rmD 6) s m args below meth c 8 sb D ids shp St (fun r => MQ below (jQi sb D ids shp St n r) args s 0 0 (jA sb)) n 0 0 h 23 [(0, .ref 0), (1, .int x1), (2, .int x2), (3, .int x3), (4, .int x4), (5, .int x5)] [] (rec23 h x1 x2 x3 x4 x5)) (h : Hp) (x1 : Int32) (x2 : Int32) (x3 : Int32) (x4 : Int32) (x5 : Int32) (x6 : Int32) , jJ p l e (rmD 6) s m args below meth c 8 sb D ids shp St (fun r => MQ below (jQi sb D ids shp St n r) args s 0 0 (jA sb)) n 0 0 h 116 [(0, .ref 0), (1, .int x1), (2, .int x2), (3, .int x3), (4, .int x4), (5, .int x5), (6, .int x6)] [] (fX9_heldBits_116 rec23 h x1 x2 x3 x4 x5 x6) := by
    intro rec23 hrec23 h x1 x2 x3 x4 x5 x6 
    unfold fX9_heldBits_116
    refine j_iload hC 6 rfl (dOk_at dt_X9_heldBits 57 rfl) ?_
    refine j_if_eq hC (tgt := 130) (by decide) (dOk_at dt_X9_heldBits 58 rfl) (fun q_20 => ?_) (fun q_20 => ?_)
    · refine j_sub [0, 1, 2, 3, 4, 5] rfl ?_
      exact b130 rec23 hrec23 h x1 x2 x3 x4 x5 
    · refine j_iload hC 4 rfl (dOk_at dt_X9_heldBits 59 rfl) ?_
      refine j_iconst hC (v := (1 : Int32)) rfl (dOk_at dt_X9_heldBits 60 rfl) ?_
      refine j_iload hC 5 rfl (dOk_at dt_X9_heldBits 61 rfl) ?_
      refine j_ishl hC (dOk_at dt_X9_heldBits 62 rfl) ?_
      refine j_ior hC (dOk_at dt_X9_heldBits 63 rfl) ?_
      refine j_istore hC (lv' := [(4, .int (x4 ||| ((1 : Int32) <<< (x5 &&& 31)))), (0, .ref 0), (1, .int x1), (2, .int x2), (3, .int x3), (5, .int x5), (6, .int x6)]) (by decide) rfl (dOk_at dt_X9_heldBits 64 rfl) ?_
      refine j_sub [1, 2, 3, 4, 0, 5] rfl ?_
      exact b130 rec23 hrec23 h x1 x2 x3 (x4 ||| ((1 : Int32) <<< (x5 &&& 31))) x5 
  have b78 : ∀ (fu : Nat) (rec23 : Hp → Int32 → Int32 → Int32 → Int32 → Int32 → Option (Int32 × Hp)) (hrec23 : ∀ (h : Hp) (x1 : Int32) (x2 : Int32) (x3 : Int32) (x4 : Int32) (x5 : Int32) , jJ p l e (rmD 6) s m args below meth c 8 sb D ids shp St (fun r => MQ below (jQi sb D ids shp St n r) args s 0 0 (jA sb)) n 0 0 h 23 [(0, .ref 0), (1, .int x1), (2, .int x2), (3, .int x3), (4, .int x4), (5, .int x5)] [] (rec23 h x1 x2 x3 x4 x5)) (h : Hp) (x1 : Int32) (x2 : Int32) (x3 : Int32) (x4 : Int32) (x5 : Int32) (x6 : Int32) (x7 : Int32) , jJ p l e (rmD 6) s m args below meth c 8 sb D ids shp St (fun r => MQ below (jQi sb D ids shp St n r) args s 0 0 (jA sb)) n 0 0 h 78 [(0, .ref 0), (1, .int x1), (2, .int x2), (3, .int x3), (4, .int x4), (5, .int x5), (6, .int x6), (7, .int x7)] [] (fX9_heldBits_78 fu rec23 h x1 x2 x3 x4 x5 x6 x7) := by
    intro fu rec23 hrec23
    induction fu with
    | zero => intro h x1 x2 x3 x4 x5 x6 x7 ; exact j_none
    | succ fu ih =>
    intro h x1 x2 x3 x4 x5 x6 x7 
    rw [fX9_heldBits_78]
    refine j_iload hC 7 rfl (dOk_at dt_X9_heldBits 40 rfl) ?_
    refine j_iload_n hC 3 rfl rfl (dOk_at dt_X9_heldBits 41 rfl) ?_
    refine j_icmp_gt hC (tgt := 116) (by decide) (dOk_at dt_X9_heldBits 42 rfl) (fun q_14 => ?_) (fun q_14 => ?_)
    · refine j_sub [0, 1, 2, 3, 4, 5, 6] rfl ?_
      exact b116 rec23 hrec23 h x1 x2 x3 x4 x5 x6 
    · refine j_iload hC 6 rfl (dOk_at dt_X9_heldBits 43 rfl) ?_
      refine j_if_eq hC (tgt := 116) (by decide) (dOk_at dt_X9_heldBits 44 rfl) (fun q_15 => ?_) (fun q_15 => ?_)
      · refine j_sub [0, 1, 2, 3, 4, 5, 6] rfl ?_
        exact b116 rec23 hrec23 h x1 x2 x3 x4 x5 x6 
      · refine j_aload_n hC 0 rfl rfl (dOk_at dt_X9_heldBits 45 rfl) ?_
        refine j_getR hC flX9_45 (show shp 0 = (9, 12) from rfl) (Nat.lt_of_lt_of_le (Nat.le_of_ble_eq_true rfl : 0 < 152) hN) (by decide) (by decide) (fun _ _ _ => rfl) (fun hs => hs 0 7 84 rfl) (dOk_at dt_X9_heldBits 46 rfl) ?_
        refine j_callVv hC clX9_235 (fun rz hrz => c_X8_passNight hN ((show shp 84 = (8, 15) from rfl)) _ rz hrz) (show shp 84 = (8, 15) from rfl) (Nat.lt_of_lt_of_le (Nat.le_of_ble_eq_true rfl : 84 < 152) hN) (by decide) rfl rfl ⟨Nat.le_of_ble_eq_true rfl, Nat.le_of_ble_eq_true rfl⟩ ⟨Nat.le_refl 0, Nat.le_refl 0⟩ (As := []) (st := []) rfl (Nat.le_of_ble_eq_true rfl) (dOk_at dt_X9_heldBits 47 rfl) (fun h_17 _ => ?_)
        refine j_aload_n hC 0 rfl rfl (dOk_at dt_X9_heldBits 48 rfl) ?_
        refine j_getR hC flX9_62 (show shp 0 = (9, 12) from rfl) (Nat.lt_of_lt_of_le (Nat.le_of_ble_eq_true rfl : 0 < 152) hN) (by decide) (by decide) (fun _ _ _ => rfl) (fun hs => hs 0 10 97 rfl) (dOk_at dt_X9_heldBits 49 rfl) ?_
        refine j_iload_n hC 2 rfl rfl (dOk_at dt_X9_heldBits 50 rfl) ?_
        refine j_aload_n hC 0 rfl rfl (dOk_at dt_X9_heldBits 51 rfl) ?_
        refine j_getR hC flX9_45 (show shp 0 = (9, 12) from rfl) (Nat.lt_of_lt_of_le (Nat.le_of_ble_eq_true rfl : 0 < 152) hN) (by decide) (by decide) (fun _ _ _ => rfl) (fun hs => hs 0 7 84 rfl) (dOk_at dt_X9_heldBits 52 rfl) ?_
        refine j_callVi hC clX9_381 (fun rz hrz => c_X2_isBorneOut hN ((show shp 84 = (8, 15) from rfl)) _ _ rz hrz) (show shp 97 = (2, 7) from rfl) (Nat.lt_of_lt_of_le (Nat.le_of_ble_eq_true rfl : 97 < 152) hN) (by decide) rfl rfl ⟨Nat.le_of_ble_eq_true rfl, Nat.le_of_ble_eq_true rfl⟩ ⟨Nat.le_refl 0, Nat.le_refl 0⟩ (As := [.int x2, .ref 84]) (st := []) rfl (Nat.le_of_ble_eq_true rfl) (dOk_at dt_X9_heldBits 53 rfl) (fun v_18 h_19 _ => ?_)
        refine j_istore hC (lv' := [(6, .int v_18), (0, .ref 0), (1, .int x1), (2, .int x2), (3, .int x3), (4, .int x4), (5, .int x5), (7, .int x7)]) (by decide) rfl (dOk_at dt_X9_heldBits 54 rfl) ?_
        refine j_iinc hC (v := (x7 + (1 : Int32))) (lv' := [(7, .int (x7 + (1 : Int32))), (6, .int v_18), (0, .ref 0), (1, .int x1), (2, .int x2), (3, .int x3), (4, .int x4), (5, .int x5)]) 7 rfl (congrArg (fun z => x7 + z) (show Int32.ofInt (1) = (1 : Int32) from by decide)) (by decide) rfl (dOk_at dt_X9_heldBits 55 rfl) ?_
        refine j_goto hC (tgt := 78) (by decide) (dOk_at dt_X9_heldBits 56 rfl) ?_
        refine j_sub [2, 3, 4, 5, 6, 7, 1, 0] rfl ?_
        exact ih h_19 x1 x2 x3 x4 x5 v_18 (x7 + (1 : Int32)) 
  have b23 : ∀ (fu : Nat) (h : Hp) (x1 : Int32) (x2 : Int32) (x3 : Int32) (x4 : Int32) (x5 : Int32) , jJ p l e (rmD 6) s m args below meth c 8 sb D ids shp St (fun r => MQ below (jQi sb D ids shp St n r) args s 0 0 (jA sb)) n 0 0 h 23 [(0, .ref 0), (1, .int x1), (2, .int x2), (3, .int x3), (4, .int x4), (5, .int x5)] [] (fX9_heldBits_23 fu h x1 x2 x3 x4 x5) := by
    intro fu 
    induction fu with
    | zero => intro h x1 x2 x3 x4 x5 ; exact j_none
    | succ fu ih =>
    intro h x1 x2 x3 x4 x5 
    rw [fX9_heldBits_23]
    refine j_iload hC 5 rfl (dOk_at dt_X9_heldBits 13 rfl) ?_
    refine j_aload_n hC 0 rfl rfl (dOk_at dt_X9_heldBits 14 rfl) ?_
    refine j_getD (q := (7, 20)) hC flX9_10 (show shp 0 = (9, 12) from rfl) (Nat.lt_of_lt_of_le (Nat.le_of_ble_eq_true rfl : 0 < 152) hN) (by decide) (by decide) (fun _ _ _ => rfl) (dOk_at dt_X9_heldBits 15 rfl) (fun z_5 _ g_6 => ?_)
    refine j_getR hC flX9_106 g_6 (jlt hN g_6 (by decide)) (by decide) (by decide) (fun _ _ _ => rfl) (fun hs => hs _ _ _ (sf_7_0 g_6).1) (dOk_at dt_X9_heldBits 16 rfl) ?_
    refine j_getR hC flX9_110 (sf_7_0 g_6).2.1 (Nat.lt_of_lt_of_le (sf_7_0 g_6).2.2 hN) (by decide) (by decide) (fun _ _ _ => rfl) (fun hs => hs _ _ _ (sf_0_0 (sf_7_0 g_6).2.1).1) (dOk_at dt_X9_heldBits 17 rfl) ?_
    refine j_getI hC flX9_360 (sf_0_0 (sf_7_0 g_6).2.1).2.1 (Nat.lt_of_lt_of_le (sf_0_0 (sf_7_0 g_6).2.1).2.2 hN) (by decide) (by decide) (fun _ _ _ => rfl) (dOk_at dt_X9_heldBits 18 rfl) ?_
    refine j_icmp_ge hC (tgt := 136) (by decide) (dOk_at dt_X9_heldBits 19 rfl) (fun q_7 => ?_) (fun q_7 => ?_)
    · refine j_iload hC 4 rfl (dOk_at dt_X9_heldBits 67 rfl) ?_
      exact j_iret hC hret (dOk_at dt_X9_heldBits 68 rfl)
    · refine j_aload_n hC 0 rfl rfl (dOk_at dt_X9_heldBits 20 rfl) ?_
      refine j_getR hC flX9_45 (show shp 0 = (9, 12) from rfl) (Nat.lt_of_lt_of_le (Nat.le_of_ble_eq_true rfl : 0 < 152) hN) (by decide) (by decide) (fun _ _ _ => rfl) (fun hs => hs 0 7 84 rfl) (dOk_at dt_X9_heldBits 21 rfl) ?_
      refine j_aload_n hC 0 rfl rfl (dOk_at dt_X9_heldBits 22 rfl) ?_
      refine j_getD (q := (7, 20)) hC flX9_10 (show shp 0 = (9, 12) from rfl) (Nat.lt_of_lt_of_le (Nat.le_of_ble_eq_true rfl : 0 < 152) hN) (by decide) (by decide) (fun _ _ _ => rfl) (dOk_at dt_X9_heldBits 23 rfl) (fun z_8 _ g_9 => ?_)
      refine j_callVv hC clX9_97 (fun rz hrz => c_X8_begin hN ((show shp 84 = (8, 15) from rfl)) (g_9) _ rz hrz) (show shp 84 = (8, 15) from rfl) (Nat.lt_of_lt_of_le (Nat.le_of_ble_eq_true rfl : 84 < 152) hN) (by decide) rfl rfl ⟨Nat.le_of_ble_eq_true rfl, Nat.le_of_ble_eq_true rfl⟩ ⟨Nat.le_refl 0, Nat.le_refl 0⟩ (As := [.ref z_8]) (st := []) rfl (Nat.le_of_ble_eq_true rfl) (dOk_at dt_X9_heldBits 24 rfl) (fun h_11 _ => ?_)
      refine j_aload_n hC 0 rfl rfl (dOk_at dt_X9_heldBits 25 rfl) ?_
      refine j_getR hC flX9_45 (show shp 0 = (9, 12) from rfl) (Nat.lt_of_lt_of_le (Nat.le_of_ble_eq_true rfl : 0 < 152) hN) (by decide) (by decide) (fun _ _ _ => rfl) (fun hs => hs 0 7 84 rfl) (dOk_at dt_X9_heldBits 26 rfl) ?_
      refine j_iconst hC (v := (0 : Int32)) rfl (dOk_at dt_X9_heldBits 27 rfl) ?_
      refine j_putZ hC St_SP flX9_361 (show shp 84 = (8, 15) from rfl) (Nat.lt_of_lt_of_le (Nat.le_of_ble_eq_true rfl : 84 < 152) hN) (by decide) (by decide) rfl rfl rfl (dOk_at dt_X9_heldBits 28 rfl) ?_
      refine j_aload_n hC 0 rfl rfl (dOk_at dt_X9_heldBits 29 rfl) ?_
      refine j_getR hC flX9_45 (show shp 0 = (9, 12) from rfl) (Nat.lt_of_lt_of_le (Nat.le_of_ble_eq_true rfl : 0 < 152) hN) (by decide) (by decide) (fun _ _ _ => rfl) (fun hs => hs 0 7 84 rfl) (dOk_at dt_X9_heldBits 30 rfl) ?_
      refine j_iload_n hC 1 rfl rfl (dOk_at dt_X9_heldBits 31 rfl) ?_
      refine j_iconst hC (v := (1 : Int32)) rfl (dOk_at dt_X9_heldBits 32 rfl) ?_
      refine j_iload hC 5 rfl (dOk_at dt_X9_heldBits 33 rfl) ?_
      refine j_ishl hC (dOk_at dt_X9_heldBits 34 rfl) ?_
      refine j_callVv hC clX9_205 (fun rz hrz => c_X8_setHolds hN ((show shp 84 = (8, 15) from rfl)) _ _ _ rz hrz) (show shp 84 = (8, 15) from rfl) (Nat.lt_of_lt_of_le (Nat.le_of_ble_eq_true rfl : 84 < 152) hN) (by decide) rfl rfl ⟨Nat.le_of_ble_eq_true rfl, Nat.le_of_ble_eq_true rfl⟩ ⟨Nat.le_refl 0, Nat.le_refl 0⟩ (As := [.int x1, .int ((1 : Int32) <<< (x5 &&& 31))]) (st := []) rfl (Nat.le_of_ble_eq_true rfl) (dOk_at dt_X9_heldBits 35 rfl) (fun h_13 _ => ?_)
      refine j_iconst hC (v := (1 : Int32)) rfl (dOk_at dt_X9_heldBits 36 rfl) ?_
      refine j_istore hC (lv' := [(6, .int (1 : Int32)), (0, .ref 0), (1, .int x1), (2, .int x2), (3, .int x3), (4, .int x4), (5, .int x5)]) (by decide) rfl (dOk_at dt_X9_heldBits 37 rfl) ?_
      refine j_iconst hC (v := (1 : Int32)) rfl (dOk_at dt_X9_heldBits 38 rfl) ?_
      refine j_istore hC (lv' := [(7, .int (1 : Int32)), (6, .int (1 : Int32)), (0, .ref 0), (1, .int x1), (2, .int x2), (3, .int x3), (4, .int x4), (5, .int x5)]) (by decide) rfl (dOk_at dt_X9_heldBits 39 rfl) ?_
      refine j_sub [2, 3, 4, 5, 6, 7, 1, 0] rfl ?_
      exact b78 FU (fX9_heldBits_23 fu) ih h_13 x1 x2 x3 x4 x5 (1 : Int32) (1 : Int32) 
  unfold fX9_heldBits
  refine j_aload_n hC 0 rfl rfl (dOk_at dt_X9_heldBits 0 rfl) ?_
  refine j_getR hC flX9_62 (show shp 0 = (9, 12) from rfl) (Nat.lt_of_lt_of_le (Nat.le_of_ble_eq_true rfl : 0 < 152) hN) (by decide) (by decide) (fun _ _ _ => rfl) (fun hs => hs 0 10 97 rfl) (dOk_at dt_X9_heldBits 1 rfl) ?_
  refine j_callVi hC clX9_375 (fun rz hrz => c_X2_knownOnes hN _ rz hrz) (show shp 97 = (2, 7) from rfl) (Nat.lt_of_lt_of_le (Nat.le_of_ble_eq_true rfl : 97 < 152) hN) (by decide) rfl rfl ⟨Nat.le_of_ble_eq_true rfl, Nat.le_of_ble_eq_true rfl⟩ ⟨Nat.le_refl 0, Nat.le_refl 0⟩ (As := []) (st := []) rfl (Nat.le_of_ble_eq_true rfl) (dOk_at dt_X9_heldBits 2 rfl) (fun v_1 h_2 _ => ?_)
  refine j_istore_n hC rfl (lv' := [(2, .int v_1), (0, .ref 0), (1, .int x1)]) (by decide) rfl (dOk_at dt_X9_heldBits 3 rfl) ?_
  refine j_aload_n hC 1 rfl rfl (dOk_at dt_X9_heldBits 4 rfl) ?_
  refine j_getR hC flX9_62 (show shp 0 = (9, 12) from rfl) (Nat.lt_of_lt_of_le (Nat.le_of_ble_eq_true rfl : 0 < 152) hN) (by decide) (by decide) (fun _ _ _ => rfl) (fun hs => hs 0 10 97 rfl) (dOk_at dt_X9_heldBits 5 rfl) ?_
  refine j_iload_n hC 0 rfl rfl (dOk_at dt_X9_heldBits 6 rfl) ?_
  refine j_callVi hC clX9_378 (fun rz hrz => c_X2_latestNight hN _ _ rz hrz) (show shp 97 = (2, 7) from rfl) (Nat.lt_of_lt_of_le (Nat.le_of_ble_eq_true rfl : 97 < 152) hN) (by decide) rfl rfl ⟨Nat.le_of_ble_eq_true rfl, Nat.le_of_ble_eq_true rfl⟩ ⟨Nat.le_refl 0, Nat.le_refl 0⟩ (As := [.int v_1]) (st := []) rfl (Nat.le_of_ble_eq_true rfl) (dOk_at dt_X9_heldBits 7 rfl) (fun v_3 h_4 _ => ?_)
  refine j_istore_n hC rfl (lv' := [(3, .int v_3), (2, .int v_1), (0, .ref 0), (1, .int x1)]) (by decide) rfl (dOk_at dt_X9_heldBits 8 rfl) ?_
  refine j_iconst hC (v := (0 : Int32)) rfl (dOk_at dt_X9_heldBits 9 rfl) ?_
  refine j_istore hC (lv' := [(4, .int (0 : Int32)), (3, .int v_3), (2, .int v_1), (0, .ref 0), (1, .int x1)]) (by decide) rfl (dOk_at dt_X9_heldBits 10 rfl) ?_
  refine j_iconst hC (v := (0 : Int32)) rfl (dOk_at dt_X9_heldBits 11 rfl) ?_
  refine j_istore hC (lv' := [(5, .int (0 : Int32)), (4, .int (0 : Int32)), (3, .int v_3), (2, .int v_1), (0, .ref 0), (1, .int x1)]) (by decide) rfl (dOk_at dt_X9_heldBits 12 rfl) ?_
  refine j_sub [4, 5, 3, 2, 1, 0] rfl ?_
  exact b23 FU h_4 x1 v_1 v_3 (0 : Int32) (0 : Int32) 
def tb_X9_held : List (Nat × Instr × Nat) := [(0, .aload_n 0, 1), (1, .iload_n 1, 1), (2, .invokevirtual 168, 3), (5, .ifCond .eq 11, 3), (8, .aload_n 0, 1), (9, .iload_n 1, 1), (10, .invokevirtual 318, 3), (13, .goto 4, 3), (16, .iconst (-1), 1), (17, .ireturn, 1)]
theorem dt_X9_held : dOk cX9_held tb_X9_held = true := by decide +kernel
def fX9_held (h : Hp) (x1 : Int32) : Option (Int32 × Hp) := bnd (fX9_isMember h x1) (fun v_1 h_2 => if v_1 = 0 then (some ((-1 : Int32), h_2)) else (bnd (fX9_heldBits h_2 x1) (fun v_4 h_5 => some (v_4, h_5))))
set_option maxRecDepth 100000 in
set_option maxHeartbeats 4000000 in
theorem c_X9_held {l : Launch} {sb : State} {D : va_G} {ids : Nat → ClassId} {n : Nat} (hN : 152 ≤ n) (h : Hp) (x1 : Int32) (r : Int32 × Hp) (hr : fX9_held h x1 = some r) : jM l yX9_held cX9_held 2 (some .int) 7 sb D ids shp St n [.ref 0, .int x1] h (jQi sb D ids shp St n r) := by
  refine jM_of hr rfl (Nat.le_of_ble_eq_true rfl) ?_
  intro p e s m args below meth c hC hret
  unfold fX9_held
  refine j_aload_n hC 0 rfl rfl (dOk_at dt_X9_held 0 rfl) ?_
  refine j_iload_n hC 1 rfl rfl (dOk_at dt_X9_held 1 rfl) ?_
  refine j_callVi hC clX9_168 (fun rz hrz => c_X9_isMember hN _ _ rz hrz) (show shp 0 = (9, 12) from rfl) (Nat.lt_of_lt_of_le (Nat.le_of_ble_eq_true rfl : 0 < 152) hN) (by decide) rfl rfl ⟨Nat.le_of_ble_eq_true rfl, Nat.le_of_ble_eq_true rfl⟩ ⟨Nat.le_refl 0, Nat.le_refl 0⟩ (As := [.int x1]) (st := []) rfl (Nat.le_of_ble_eq_true rfl) (dOk_at dt_X9_held 2 rfl) (fun v_1 h_2 _ => ?_)
  refine j_if_eq hC (tgt := 16) (by decide) (dOk_at dt_X9_held 3 rfl) (fun q_3 => ?_) (fun q_3 => ?_)
  · refine j_iconst hC (v := (-1 : Int32)) rfl (dOk_at dt_X9_held 8 rfl) ?_
    exact j_iret hC hret (dOk_at dt_X9_held 9 rfl)
  · refine j_aload_n hC 0 rfl rfl (dOk_at dt_X9_held 4 rfl) ?_
    refine j_iload_n hC 1 rfl rfl (dOk_at dt_X9_held 5 rfl) ?_
    refine j_callVi hC clX9_318 (fun rz hrz => c_X9_heldBits hN _ _ rz hrz) (show shp 0 = (9, 12) from rfl) (Nat.lt_of_lt_of_le (Nat.le_of_ble_eq_true rfl : 0 < 152) hN) (by decide) rfl rfl ⟨Nat.le_of_ble_eq_true rfl, Nat.le_of_ble_eq_true rfl⟩ ⟨Nat.le_refl 0, Nat.le_refl 0⟩ (As := [.int x1]) (st := []) rfl (Nat.le_of_ble_eq_true rfl) (dOk_at dt_X9_held 6 rfl) (fun v_4 h_5 _ => ?_)
    refine j_goto hC (tgt := 17) (by decide) (dOk_at dt_X9_held 7 rfl) ?_
    exact j_iret hC hret (dOk_at dt_X9_held 9 rfl)
def tb_X9_ask : List (Nat × Instr × Nat) := [(0, .aload_n 0, 1), (1, .iload_n 1, 1), (2, .invokevirtual 168, 3), (5, .ifCond .eq 12, 3), (8, .iload_n 2, 1), (9, .ifCond .lt 8, 3), (12, .iload_n 2, 1), (13, .iconst 1, 1), (14, .if_icmp .le 5, 3), (17, .iconst (-1), 1), (18, .ireturn, 1), (19, .aload_n 0, 1), (20, .iload_n 1, 1), (21, .invokevirtual 318, 3), (24, .istore_n 3, 1), (25, .iload_n 3, 1), (26, .invokestatic 208, 3), (29, .istore 4, 2), (31, .iconst 0, 1), (32, .istore 5, 2), (34, .iload 4, 2), (36, .istore 6, 2), (38, .iconst 0, 1), (39, .istore 7, 2), (41, .iload 7, 2), (43, .bipush 99, 2), (45, .if_icmp .gt 51, 3), (48, .aload_n 0, 1), (49, .getfield 10, 3), (52, .getfield 106, 3), (55, .iload_n 3, 1), (56, .iload 7, 2), (58, .invokevirtual 321, 3), (61, .istore 8, 2), (63, .iload 8, 2), (65, .iload 4, 2), (67, .iload 8, 2), (69, .isub, 1), (70, .invokestatic 324, 3), (73, .istore 9, 2), (75, .iload 9, 2), (77, .iload 6, 2), (79, .if_icmp .ge 11, 3), (82, .iload 9, 2), (84, .istore 6, 2), (86, .iload 7, 2), (88, .istore 5, 2), (90, .iinc 7 1, 3), (93, .goto (-52), 3), (96, .iload_n 2, 1), (97, .ifCond .ne 8, 3), (100, .iload 5, 2), (102, .goto 5, 3), (105, .iload 6, 2), (107, .ireturn, 1)]
theorem dt_X9_ask : dOk cX9_ask tb_X9_ask = true := by decide +kernel
def fX9_ask_90 (rec41 : Hp → Int32 → Int32 → Int32 → Int32 → Int32 → Int32 → Option (Int32 × Hp)) (h : Hp) (x2 : Int32) (x3 : Int32) (x4 : Int32) (x5 : Int32) (x6 : Int32) (x7 : Int32) : Option (Int32 × Hp) := rec41 h x2 x3 x4 x5 x6 (x7 + (1 : Int32))
def fX9_ask_41 : Nat → Hp → Int32 → Int32 → Int32 → Int32 → Int32 → Int32 → Option (Int32 × Hp)
  | 0, _, _, _, _, _, _, _ => none
  | fu + 1, h, x2, x3, x4, x5, x6, x7 => if (99 : Int32) < x7 then (if x2 = 0 then (some (x5, h)) else (some (x6, h))) else ((dref shp h 0 3 (7, 20)).bind (fun z_12 => bnd (fX0_countHeavy (rf z_12 0) h x3 x7) (fun v_14 h_15 => if x6 ≤ (if v_14 < (x4 - v_14) then (x4 - v_14) else v_14) then (fX9_ask_90 (fX9_ask_41 fu) h_15 x2 x3 x4 x5 x6 x7) else (fX9_ask_90 (fX9_ask_41 fu) h_15 x2 x3 x4 x7 (if v_14 < (x4 - v_14) then (x4 - v_14) else v_14) x7))))
def fX9_ask (h : Hp) (x1 : Int32) (x2 : Int32) : Option (Int32 × Hp) := bnd (fX9_isMember h x1) (fun v_1 h_2 => if v_1 = 0 then (some ((-1 : Int32), h_2)) else (if x2 < 0 then (some ((-1 : Int32), h_2)) else (if x2 ≤ (1 : Int32) then (bnd (fX9_heldBits h_2 x1) (fun v_6 h_7 => bnd (fJ6_bitCount_0f7a4 h_7 v_6) (fun v_8 h_9 => fX9_ask_41 FU h_9 x2 v_6 v_8 (0 : Int32) v_8 (0 : Int32)))) else (some ((-1 : Int32), h_2)))))
set_option maxRecDepth 100000 in
set_option maxHeartbeats 4000000 in
theorem c_X9_ask {l : Launch} {sb : State} {D : va_G} {ids : Nat → ClassId} {n : Nat} (hN : 152 ≤ n) (h : Hp) (x1 : Int32) (x2 : Int32) (r : Int32 × Hp) (hr : fX9_ask h x1 x2 = some r) : jM l yX9_ask cX9_ask 10 (some .int) 7 sb D ids shp St n [.ref 0, .int x1, .int x2] h (jQi sb D ids shp St n r) := by
  refine jM_of hr rfl (Nat.le_of_ble_eq_true rfl) ?_
  intro p e s m args below meth c hC hret
  have b90 : ∀ (rec41 : Hp → Int32 → Int32 → Int32 → Int32 → Int32 → Int32 → Option (Int32 × Hp)) (hrec41 : ∀ (h : Hp) (x2 : Int32) (x3 : Int32) (x4 : Int32) (x5 : Int32) (x6 : Int32) (x7 : Int32) , jJ p l e (rmD 7) s m args below meth c 10 sb D ids shp St (fun r => MQ below (jQi sb D ids shp St n r) args s 0 0 (jA sb)) n 0 0 h 41 [(0, .ref 0), (2, .int x2), (3, .int x3), (4, .int x4), (5, .int x5), (6, .int x6), (7, .int x7)] [] (rec41 h x2 x3 x4 x5 x6 x7)) (h : Hp) (x2 : Int32) (x3 : Int32) (x4 : Int32) (x5 : Int32) (x6 : Int32) (x7 : Int32) , jJ p l e (rmD 7) s m args below meth c 10 sb D ids shp St (fun r => MQ below (jQi sb D ids shp St n r) args s 0 0 (jA sb)) n 0 0 h 90 [(0, .ref 0), (2, .int x2), (3, .int x3), (4, .int x4), (5, .int x5), (6, .int x6), (7, .int x7)] [] (fX9_ask_90 rec41 h x2 x3 x4 x5 x6 x7) := by
    intro rec41 hrec41 h x2 x3 x4 x5 x6 x7 
    unfold fX9_ask_90
    refine j_iinc hC (v := (x7 + (1 : Int32))) (lv' := [(7, .int (x7 + (1 : Int32))), (0, .ref 0), (2, .int x2), (3, .int x3), (4, .int x4), (5, .int x5), (6, .int x6)]) 6 rfl (congrArg (fun z => x7 + z) (show Int32.ofInt (1) = (1 : Int32) from by decide)) (by decide) rfl (dOk_at dt_X9_ask 47 rfl) ?_
    refine j_goto hC (tgt := 41) (by decide) (dOk_at dt_X9_ask 48 rfl) ?_
    refine j_sub [1, 2, 3, 4, 5, 6, 0] rfl ?_
    exact hrec41 h x2 x3 x4 x5 x6 (x7 + (1 : Int32)) 
  have b41 : ∀ (fu : Nat) (h : Hp) (x2 : Int32) (x3 : Int32) (x4 : Int32) (x5 : Int32) (x6 : Int32) (x7 : Int32) , jJ p l e (rmD 7) s m args below meth c 10 sb D ids shp St (fun r => MQ below (jQi sb D ids shp St n r) args s 0 0 (jA sb)) n 0 0 h 41 [(0, .ref 0), (2, .int x2), (3, .int x3), (4, .int x4), (5, .int x5), (6, .int x6), (7, .int x7)] [] (fX9_ask_41 fu h x2 x3 x4 x5 x6 x7) := by
    intro fu 
    induction fu with
    | zero => intro h x2 x3 x4 x5 x6 x7 ; exact j_none
    | succ fu ih =>
    intro h x2 x3 x4 x5 x6 x7 
    rw [fX9_ask_41]
    refine j_iload hC 6 rfl (dOk_at dt_X9_ask 24 rfl) ?_
    refine j_bipush hC (v := (99 : Int32)) rfl (dOk_at dt_X9_ask 25 rfl) ?_
    refine j_icmp_gt hC (tgt := 96) (by decide) (dOk_at dt_X9_ask 26 rfl) (fun q_10 => ?_) (fun q_10 => ?_)
    · refine j_iload_n hC 1 rfl rfl (dOk_at dt_X9_ask 49 rfl) ?_
      refine j_if_ne hC (tgt := 105) (by decide) (dOk_at dt_X9_ask 50 rfl) (fun q_11 => ?_) (fun q_11 => ?_)
      · refine j_iload hC 5 rfl (dOk_at dt_X9_ask 53 rfl) ?_
        exact j_iret hC hret (dOk_at dt_X9_ask 54 rfl)
      · refine j_iload hC 4 rfl (dOk_at dt_X9_ask 51 rfl) ?_
        refine j_goto hC (tgt := 107) (by decide) (dOk_at dt_X9_ask 52 rfl) ?_
        exact j_iret hC hret (dOk_at dt_X9_ask 54 rfl)
    · refine j_aload_n hC 0 rfl rfl (dOk_at dt_X9_ask 27 rfl) ?_
      refine j_getD (q := (7, 20)) hC flX9_10 (show shp 0 = (9, 12) from rfl) (Nat.lt_of_lt_of_le (Nat.le_of_ble_eq_true rfl : 0 < 152) hN) (by decide) (by decide) (fun _ _ _ => rfl) (dOk_at dt_X9_ask 28 rfl) (fun z_12 _ g_13 => ?_)
      refine j_getR hC flX9_106 g_13 (jlt hN g_13 (by decide)) (by decide) (by decide) (fun _ _ _ => rfl) (fun hs => hs _ _ _ (sf_7_0 g_13).1) (dOk_at dt_X9_ask 29 rfl) ?_
      refine j_iload_n hC 2 rfl rfl (dOk_at dt_X9_ask 30 rfl) ?_
      refine j_iload hC 6 rfl (dOk_at dt_X9_ask 31 rfl) ?_
      refine j_callVi hC clX9_321 (fun rz hrz => c_X0_countHeavy hN ((sf_7_0 g_13).2.1) _ _ _ rz hrz) (sf_7_0 g_13).2.1 (Nat.lt_of_lt_of_le (sf_7_0 g_13).2.2 hN) (by decide) rfl rfl ⟨Nat.le_of_ble_eq_true rfl, Nat.le_of_ble_eq_true rfl⟩ ⟨Nat.le_refl 0, Nat.le_refl 0⟩ (As := [.int x3, .int x7]) (st := []) rfl (Nat.le_of_ble_eq_true rfl) (dOk_at dt_X9_ask 32 rfl) (fun v_14 h_15 _ => ?_)
      refine j_istore hC (lv' := [(8, .int v_14), (0, .ref 0), (2, .int x2), (3, .int x3), (4, .int x4), (5, .int x5), (6, .int x6), (7, .int x7)]) (by decide) rfl (dOk_at dt_X9_ask 33 rfl) ?_
      refine j_iload hC 0 rfl (dOk_at dt_X9_ask 34 rfl) ?_
      refine j_iload hC 4 rfl (dOk_at dt_X9_ask 35 rfl) ?_
      refine j_iload hC 0 rfl (dOk_at dt_X9_ask 36 rfl) ?_
      refine j_isub hC (dOk_at dt_X9_ask 37 rfl) ?_
      refine j_mmax hC mtX9_324 ⟨Nat.le_of_ble_eq_true rfl, Nat.le_of_ble_eq_true rfl⟩ ⟨Nat.le_refl 0, Nat.le_refl 0⟩ (Nat.le_of_ble_eq_true rfl) (dOk_at dt_X9_ask 38 rfl) ?_
      refine j_istore hC (lv' := [(9, .int (if v_14 < (x4 - v_14) then (x4 - v_14) else v_14)), (8, .int v_14), (0, .ref 0), (2, .int x2), (3, .int x3), (4, .int x4), (5, .int x5), (6, .int x6), (7, .int x7)]) (by decide) rfl (dOk_at dt_X9_ask 39 rfl) ?_
      refine j_iload hC 0 rfl (dOk_at dt_X9_ask 40 rfl) ?_
      refine j_iload hC 7 rfl (dOk_at dt_X9_ask 41 rfl) ?_
      refine j_icmp_ge hC (tgt := 90) (by decide) (dOk_at dt_X9_ask 42 rfl) (fun q_16 => ?_) (fun q_16 => ?_)
      · refine j_sub [2, 3, 4, 5, 6, 7, 8] rfl ?_
        exact b90 (fX9_ask_41 fu) ih h_15 x2 x3 x4 x5 x6 x7 
      · refine j_iload hC 0 rfl (dOk_at dt_X9_ask 43 rfl) ?_
        refine j_istore hC (lv' := [(6, .int (if v_14 < (x4 - v_14) then (x4 - v_14) else v_14)), (9, .int (if v_14 < (x4 - v_14) then (x4 - v_14) else v_14)), (8, .int v_14), (0, .ref 0), (2, .int x2), (3, .int x3), (4, .int x4), (5, .int x5), (7, .int x7)]) (by decide) rfl (dOk_at dt_X9_ask 44 rfl) ?_
        refine j_iload hC 8 rfl (dOk_at dt_X9_ask 45 rfl) ?_
        refine j_istore hC (lv' := [(5, .int x7), (6, .int (if v_14 < (x4 - v_14) then (x4 - v_14) else v_14)), (9, .int (if v_14 < (x4 - v_14) then (x4 - v_14) else v_14)), (8, .int v_14), (0, .ref 0), (2, .int x2), (3, .int x3), (4, .int x4), (7, .int x7)]) (by decide) rfl (dOk_at dt_X9_ask 46 rfl) ?_
        refine j_sub [4, 5, 6, 7, 0, 1, 8] rfl ?_
        exact b90 (fX9_ask_41 fu) ih h_15 x2 x3 x4 x7 (if v_14 < (x4 - v_14) then (x4 - v_14) else v_14) x7 
  unfold fX9_ask
  refine j_aload_n hC 0 rfl rfl (dOk_at dt_X9_ask 0 rfl) ?_
  refine j_iload_n hC 1 rfl rfl (dOk_at dt_X9_ask 1 rfl) ?_
  refine j_callVi hC clX9_168 (fun rz hrz => c_X9_isMember hN _ _ rz hrz) (show shp 0 = (9, 12) from rfl) (Nat.lt_of_lt_of_le (Nat.le_of_ble_eq_true rfl : 0 < 152) hN) (by decide) rfl rfl ⟨Nat.le_of_ble_eq_true rfl, Nat.le_of_ble_eq_true rfl⟩ ⟨Nat.le_refl 0, Nat.le_refl 0⟩ (As := [.int x1]) (st := []) rfl (Nat.le_of_ble_eq_true rfl) (dOk_at dt_X9_ask 2 rfl) (fun v_1 h_2 _ => ?_)
  refine j_if_eq hC (tgt := 17) (by decide) (dOk_at dt_X9_ask 3 rfl) (fun q_3 => ?_) (fun q_3 => ?_)
  · refine j_iconst hC (v := (-1 : Int32)) rfl (dOk_at dt_X9_ask 9 rfl) ?_
    exact j_iret hC hret (dOk_at dt_X9_ask 10 rfl)
  · refine j_iload_n hC 2 rfl rfl (dOk_at dt_X9_ask 4 rfl) ?_
    refine j_if_lt hC (tgt := 17) (by decide) (dOk_at dt_X9_ask 5 rfl) (fun q_4 => ?_) (fun q_4 => ?_)
    · refine j_iconst hC (v := (-1 : Int32)) rfl (dOk_at dt_X9_ask 9 rfl) ?_
      exact j_iret hC hret (dOk_at dt_X9_ask 10 rfl)
    · refine j_iload_n hC 2 rfl rfl (dOk_at dt_X9_ask 6 rfl) ?_
      refine j_iconst hC (v := (1 : Int32)) rfl (dOk_at dt_X9_ask 7 rfl) ?_
      refine j_icmp_le hC (tgt := 19) (by decide) (dOk_at dt_X9_ask 8 rfl) (fun q_5 => ?_) (fun q_5 => ?_)
      · refine j_aload_n hC 0 rfl rfl (dOk_at dt_X9_ask 11 rfl) ?_
        refine j_iload_n hC 1 rfl rfl (dOk_at dt_X9_ask 12 rfl) ?_
        refine j_callVi hC clX9_318 (fun rz hrz => c_X9_heldBits hN _ _ rz hrz) (show shp 0 = (9, 12) from rfl) (Nat.lt_of_lt_of_le (Nat.le_of_ble_eq_true rfl : 0 < 152) hN) (by decide) rfl rfl ⟨Nat.le_of_ble_eq_true rfl, Nat.le_of_ble_eq_true rfl⟩ ⟨Nat.le_refl 0, Nat.le_refl 0⟩ (As := [.int x1]) (st := []) rfl (Nat.le_of_ble_eq_true rfl) (dOk_at dt_X9_ask 13 rfl) (fun v_6 h_7 _ => ?_)
        refine j_istore_n hC rfl (lv' := [(3, .int v_6), (0, .ref 0), (1, .int x1), (2, .int x2)]) (by decide) rfl (dOk_at dt_X9_ask 14 rfl) ?_
        refine j_iload_n hC 0 rfl rfl (dOk_at dt_X9_ask 15 rfl) ?_
        refine j_callSi hC clX9_208 (fun rz hrz => c_J6_bitCount_0f7a4 hN _ _ rz hrz) rfl ⟨Nat.le_of_ble_eq_true rfl, Nat.le_of_ble_eq_true rfl⟩ ⟨Nat.le_refl 0, Nat.le_refl 0⟩ (As := [.int v_6]) (st := []) rfl (Nat.le_of_ble_eq_true rfl) (dOk_at dt_X9_ask 16 rfl) (fun v_8 h_9 _ => ?_)
        refine j_istore hC (lv' := [(4, .int v_8), (3, .int v_6), (0, .ref 0), (1, .int x1), (2, .int x2)]) (by decide) rfl (dOk_at dt_X9_ask 17 rfl) ?_
        refine j_iconst hC (v := (0 : Int32)) rfl (dOk_at dt_X9_ask 18 rfl) ?_
        refine j_istore hC (lv' := [(5, .int (0 : Int32)), (4, .int v_8), (3, .int v_6), (0, .ref 0), (1, .int x1), (2, .int x2)]) (by decide) rfl (dOk_at dt_X9_ask 19 rfl) ?_
        refine j_iload hC 1 rfl (dOk_at dt_X9_ask 20 rfl) ?_
        refine j_istore hC (lv' := [(6, .int v_8), (5, .int (0 : Int32)), (4, .int v_8), (3, .int v_6), (0, .ref 0), (1, .int x1), (2, .int x2)]) (by decide) rfl (dOk_at dt_X9_ask 21 rfl) ?_
        refine j_iconst hC (v := (0 : Int32)) rfl (dOk_at dt_X9_ask 22 rfl) ?_
        refine j_istore hC (lv' := [(7, .int (0 : Int32)), (6, .int v_8), (5, .int (0 : Int32)), (4, .int v_8), (3, .int v_6), (0, .ref 0), (1, .int x1), (2, .int x2)]) (by decide) rfl (dOk_at dt_X9_ask 23 rfl) ?_
        refine j_sub [5, 7, 4, 3, 2, 1, 0] rfl ?_
        exact b41 FU h_9 x2 v_6 v_8 (0 : Int32) v_8 (0 : Int32) 
      · refine j_iconst hC (v := (-1 : Int32)) rfl (dOk_at dt_X9_ask 9 rfl) ?_
        exact j_iret hC hret (dOk_at dt_X9_ask 10 rfl)
def tb_X9_chance : List (Nat × Instr × Nat) := [(0, .iload_n 1, 1), (1, .ifCond .lt 22, 3), (4, .iload_n 2, 1), (5, .iconst 1, 1), (6, .if_icmp .lt 17, 3), (9, .iload_n 2, 1), (10, .bipush 99, 2), (12, .if_icmp .gt 11, 3), (15, .aload_n 0, 1), (16, .iload_n 3, 1), (17, .invokevirtual 156, 3), (20, .ifCond .ne 5, 3), (23, .iconst (-1), 1), (24, .ireturn, 1), (25, .iconst 0, 1), (26, .istore 4, 2), (28, .iload_n 1, 1), (29, .istore 5, 2), (31, .iconst 0, 1), (32, .istore 6, 2), (34, .iload 6, 2), (36, .bipush 10, 2), (38, .if_icmp .ge 60, 3), (41, .aload_n 0, 1), (42, .getfield 45, 3), (45, .aload_n 0, 1), (46, .getfield 38, 3), (49, .invokevirtual 329, 3), (52, .aload_n 0, 1), (53, .getfield 45, 3), (56, .iload 5, 2), (58, .putfield 332, 3), (61, .aload_n 0, 1), (62, .getfield 45, 3), (65, .iload_n 2, 1), (66, .invokevirtual 216, 3), (69, .aload_n 0, 1), (70, .getfield 45, 3), (73, .getfield 332, 3), (76, .istore 5, 2), (78, .aload_n 0, 1), (79, .getfield 45, 3), (82, .iload_n 3, 1), (83, .invokevirtual 165, 3), (86, .ifCond .eq 6, 3), (89, .iinc 4 1, 3), (92, .iinc 6 1, 3), (95, .goto (-61), 3), (98, .iload 4, 2), (100, .ireturn, 1)]
theorem dt_X9_chance : dOk cX9_chance tb_X9_chance = true := by decide +kernel
def fX9_chance_92 (rec34 : Hp → Int32 → Int32 → Int32 → Int32 → Int32 → Option (Int32 × Hp)) (h : Hp) (x2 : Int32) (x3 : Int32) (x4 : Int32) (x5 : Int32) (x6 : Int32) : Option (Int32 × Hp) := rec34 h x2 x3 x4 x5 (x6 + (1 : Int32))
def fX9_chance_34 : Nat → Hp → Int32 → Int32 → Int32 → Int32 → Int32 → Option (Int32 × Hp)
  | 0, _, _, _, _, _, _ => none
  | fu + 1, h, x2, x3, x4, x5, x6 => if (10 : Int32) ≤ x6 then (some (x4, h)) else ((fX8_copyFrom 84 72 h).bind (fun h_9 => (fX8_passNights 84 (uI h_9 84 4 x5) x2).bind (fun h_11 => bnd (fX8_inShed 84 h_11 x3) (fun v_12 h_13 => if v_12 = 0 then (fX9_chance_92 (fX9_chance_34 fu) h_13 x2 x3 x4 (hI h_11 84 4) x6) else (fX9_chance_92 (fX9_chance_34 fu) h_13 x2 x3 (x4 + (1 : Int32)) (hI h_11 84 4) x6)))))
def fX9_chance (h : Hp) (x1 : Int32) (x2 : Int32) (x3 : Int32) : Option (Int32 × Hp) := if x1 < 0 then (some ((-1 : Int32), h)) else (if x2 < (1 : Int32) then (some ((-1 : Int32), h)) else (if (99 : Int32) < x2 then (some ((-1 : Int32), h)) else (bnd (fX9_isStraw h x3) (fun v_4 h_5 => if v_4 = 0 then (some ((-1 : Int32), h_5)) else (fX9_chance_34 FU h_5 x2 x3 (0 : Int32) x1 (0 : Int32))))))
set_option maxRecDepth 100000 in
set_option maxHeartbeats 4000000 in
theorem c_X9_chance {l : Launch} {sb : State} {D : va_G} {ids : Nat → ClassId} {n : Nat} (hN : 152 ≤ n) (h : Hp) (x1 : Int32) (x2 : Int32) (x3 : Int32) (r : Int32 × Hp) (hr : fX9_chance h x1 x2 x3 = some r) : jM l yX9_chance cX9_chance 7 (some .int) 7 sb D ids shp St n [.ref 0, .int x1, .int x2, .int x3] h (jQi sb D ids shp St n r) := by
  refine jM_of hr rfl (Nat.le_of_ble_eq_true rfl) ?_
  intro p e s m args below meth c hC hret
  have b92 : ∀ (rec34 : Hp → Int32 → Int32 → Int32 → Int32 → Int32 → Option (Int32 × Hp)) (hrec34 : ∀ (h : Hp) (x2 : Int32) (x3 : Int32) (x4 : Int32) (x5 : Int32) (x6 : Int32) , jJ p l e (rmD 7) s m args below meth c 7 sb D ids shp St (fun r => MQ below (jQi sb D ids shp St n r) args s 0 0 (jA sb)) n 0 0 h 34 [(0, .ref 0), (2, .int x2), (3, .int x3), (4, .int x4), (5, .int x5), (6, .int x6)] [] (rec34 h x2 x3 x4 x5 x6)) (h : Hp) (x2 : Int32) (x3 : Int32) (x4 : Int32) (x5 : Int32) (x6 : Int32) , jJ p l e (rmD 7) s m args below meth c 7 sb D ids shp St (fun r => MQ below (jQi sb D ids shp St n r) args s 0 0 (jA sb)) n 0 0 h 92 [(0, .ref 0), (2, .int x2), (3, .int x3), (4, .int x4), (5, .int x5), (6, .int x6)] [] (fX9_chance_92 rec34 h x2 x3 x4 x5 x6) := by
    intro rec34 hrec34 h x2 x3 x4 x5 x6 
    unfold fX9_chance_92
    refine j_iinc hC (v := (x6 + (1 : Int32))) (lv' := [(6, .int (x6 + (1 : Int32))), (0, .ref 0), (2, .int x2), (3, .int x3), (4, .int x4), (5, .int x5)]) 5 rfl (congrArg (fun z => x6 + z) (show Int32.ofInt (1) = (1 : Int32) from by decide)) (by decide) rfl (dOk_at dt_X9_chance 46 rfl) ?_
    refine j_goto hC (tgt := 34) (by decide) (dOk_at dt_X9_chance 47 rfl) ?_
    refine j_sub [1, 2, 3, 4, 5, 0] rfl ?_
    exact hrec34 h x2 x3 x4 x5 (x6 + (1 : Int32)) 
  have b34 : ∀ (fu : Nat) (h : Hp) (x2 : Int32) (x3 : Int32) (x4 : Int32) (x5 : Int32) (x6 : Int32) , jJ p l e (rmD 7) s m args below meth c 7 sb D ids shp St (fun r => MQ below (jQi sb D ids shp St n r) args s 0 0 (jA sb)) n 0 0 h 34 [(0, .ref 0), (2, .int x2), (3, .int x3), (4, .int x4), (5, .int x5), (6, .int x6)] [] (fX9_chance_34 fu h x2 x3 x4 x5 x6) := by
    intro fu 
    induction fu with
    | zero => intro h x2 x3 x4 x5 x6 ; exact j_none
    | succ fu ih =>
    intro h x2 x3 x4 x5 x6 
    rw [fX9_chance_34]
    refine j_iload hC 5 rfl (dOk_at dt_X9_chance 20 rfl) ?_
    refine j_bipush hC (v := (10 : Int32)) rfl (dOk_at dt_X9_chance 21 rfl) ?_
    refine j_icmp_ge hC (tgt := 98) (by decide) (dOk_at dt_X9_chance 22 rfl) (fun q_7 => ?_) (fun q_7 => ?_)
    · refine j_iload hC 3 rfl (dOk_at dt_X9_chance 48 rfl) ?_
      exact j_iret hC hret (dOk_at dt_X9_chance 49 rfl)
    · refine j_aload_n hC 0 rfl rfl (dOk_at dt_X9_chance 23 rfl) ?_
      refine j_getR hC flX9_45 (show shp 0 = (9, 12) from rfl) (Nat.lt_of_lt_of_le (Nat.le_of_ble_eq_true rfl : 0 < 152) hN) (by decide) (by decide) (fun _ _ _ => rfl) (fun hs => hs 0 7 84 rfl) (dOk_at dt_X9_chance 24 rfl) ?_
      refine j_aload_n hC 0 rfl rfl (dOk_at dt_X9_chance 25 rfl) ?_
      refine j_getR hC flX9_38 (show shp 0 = (9, 12) from rfl) (Nat.lt_of_lt_of_le (Nat.le_of_ble_eq_true rfl : 0 < 152) hN) (by decide) (by decide) (fun _ _ _ => rfl) (fun hs => hs 0 5 72 rfl) (dOk_at dt_X9_chance 26 rfl) ?_
      refine j_callVv hC clX9_329 (fun rz hrz => c_X8_copyFrom hN ((show shp 84 = (8, 15) from rfl)) ((show shp 72 = (8, 15) from rfl)) _ rz hrz) (show shp 84 = (8, 15) from rfl) (Nat.lt_of_lt_of_le (Nat.le_of_ble_eq_true rfl : 84 < 152) hN) (by decide) rfl rfl ⟨Nat.le_of_ble_eq_true rfl, Nat.le_of_ble_eq_true rfl⟩ ⟨Nat.le_refl 0, Nat.le_refl 0⟩ (As := [.ref 72]) (st := []) rfl (Nat.le_of_ble_eq_true rfl) (dOk_at dt_X9_chance 27 rfl) (fun h_9 _ => ?_)
      refine j_aload_n hC 0 rfl rfl (dOk_at dt_X9_chance 28 rfl) ?_
      refine j_getR hC flX9_45 (show shp 0 = (9, 12) from rfl) (Nat.lt_of_lt_of_le (Nat.le_of_ble_eq_true rfl : 0 < 152) hN) (by decide) (by decide) (fun _ _ _ => rfl) (fun hs => hs 0 7 84 rfl) (dOk_at dt_X9_chance 29 rfl) ?_
      refine j_iload hC 4 rfl (dOk_at dt_X9_chance 30 rfl) ?_
      refine j_putI hC St_SP flX9_332 (show shp 84 = (8, 15) from rfl) (Nat.lt_of_lt_of_le (Nat.le_of_ble_eq_true rfl : 84 < 152) hN) (by decide) (by decide) rfl rfl (dOk_at dt_X9_chance 31 rfl) ?_
      refine j_aload_n hC 0 rfl rfl (dOk_at dt_X9_chance 32 rfl) ?_
      refine j_getR hC flX9_45 (show shp 0 = (9, 12) from rfl) (Nat.lt_of_lt_of_le (Nat.le_of_ble_eq_true rfl : 0 < 152) hN) (by decide) (by decide) (fun _ _ _ => rfl) (fun hs => hs 0 7 84 rfl) (dOk_at dt_X9_chance 33 rfl) ?_
      refine j_iload_n hC 1 rfl rfl (dOk_at dt_X9_chance 34 rfl) ?_
      refine j_callVv hC clX9_216 (fun rz hrz => c_X8_passNights hN ((show shp 84 = (8, 15) from rfl)) _ _ rz hrz) (show shp 84 = (8, 15) from rfl) (Nat.lt_of_lt_of_le (Nat.le_of_ble_eq_true rfl : 84 < 152) hN) (by decide) rfl rfl ⟨Nat.le_of_ble_eq_true rfl, Nat.le_of_ble_eq_true rfl⟩ ⟨Nat.le_refl 0, Nat.le_refl 0⟩ (As := [.int x2]) (st := []) rfl (Nat.le_of_ble_eq_true rfl) (dOk_at dt_X9_chance 35 rfl) (fun h_11 _ => ?_)
      refine j_aload_n hC 0 rfl rfl (dOk_at dt_X9_chance 36 rfl) ?_
      refine j_getR hC flX9_45 (show shp 0 = (9, 12) from rfl) (Nat.lt_of_lt_of_le (Nat.le_of_ble_eq_true rfl : 0 < 152) hN) (by decide) (by decide) (fun _ _ _ => rfl) (fun hs => hs 0 7 84 rfl) (dOk_at dt_X9_chance 37 rfl) ?_
      refine j_getI hC flX9_332 (show shp 84 = (8, 15) from rfl) (Nat.lt_of_lt_of_le (Nat.le_of_ble_eq_true rfl : 84 < 152) hN) (by decide) (by decide) (fun _ _ _ => rfl) (dOk_at dt_X9_chance 38 rfl) ?_
      refine j_istore hC (lv' := [(5, .int (hI h_11 84 4)), (0, .ref 0), (2, .int x2), (3, .int x3), (4, .int x4), (6, .int x6)]) (by decide) rfl (dOk_at dt_X9_chance 39 rfl) ?_
      refine j_aload_n hC 1 rfl rfl (dOk_at dt_X9_chance 40 rfl) ?_
      refine j_getR hC flX9_45 (show shp 0 = (9, 12) from rfl) (Nat.lt_of_lt_of_le (Nat.le_of_ble_eq_true rfl : 0 < 152) hN) (by decide) (by decide) (fun _ _ _ => rfl) (fun hs => hs 0 7 84 rfl) (dOk_at dt_X9_chance 41 rfl) ?_
      refine j_iload_n hC 3 rfl rfl (dOk_at dt_X9_chance 42 rfl) ?_
      refine j_callVi hC clX9_165 (fun rz hrz => c_X8_inShed hN ((show shp 84 = (8, 15) from rfl)) _ _ rz hrz) (show shp 84 = (8, 15) from rfl) (Nat.lt_of_lt_of_le (Nat.le_of_ble_eq_true rfl : 84 < 152) hN) (by decide) rfl rfl ⟨Nat.le_of_ble_eq_true rfl, Nat.le_of_ble_eq_true rfl⟩ ⟨Nat.le_refl 0, Nat.le_refl 0⟩ (As := [.int x3]) (st := []) rfl (Nat.le_of_ble_eq_true rfl) (dOk_at dt_X9_chance 43 rfl) (fun v_12 h_13 _ => ?_)
      refine j_if_eq hC (tgt := 92) (by decide) (dOk_at dt_X9_chance 44 rfl) (fun q_14 => ?_) (fun q_14 => ?_)
      · refine j_sub [1, 2, 3, 4, 0, 5] rfl ?_
        exact b92 (fX9_chance_34 fu) ih h_13 x2 x3 x4 (hI h_11 84 4) x6 
      · refine j_iinc hC (v := (x4 + (1 : Int32))) (lv' := [(4, .int (x4 + (1 : Int32))), (5, .int (hI h_11 84 4)), (0, .ref 0), (2, .int x2), (3, .int x3), (6, .int x6)]) 4 rfl (congrArg (fun z => x4 + z) (show Int32.ofInt (1) = (1 : Int32) from by decide)) (by decide) rfl (dOk_at dt_X9_chance 45 rfl) ?_
        refine j_sub [2, 3, 4, 0, 1, 5] rfl ?_
        exact b92 (fX9_chance_34 fu) ih h_13 x2 x3 (x4 + (1 : Int32)) (hI h_11 84 4) x6 
  unfold fX9_chance
  refine j_iload_n hC 1 rfl rfl (dOk_at dt_X9_chance 0 rfl) ?_
  refine j_if_lt hC (tgt := 23) (by decide) (dOk_at dt_X9_chance 1 rfl) (fun q_1 => ?_) (fun q_1 => ?_)
  · refine j_iconst hC (v := (-1 : Int32)) rfl (dOk_at dt_X9_chance 12 rfl) ?_
    exact j_iret hC hret (dOk_at dt_X9_chance 13 rfl)
  · refine j_iload_n hC 2 rfl rfl (dOk_at dt_X9_chance 2 rfl) ?_
    refine j_iconst hC (v := (1 : Int32)) rfl (dOk_at dt_X9_chance 3 rfl) ?_
    refine j_icmp_lt hC (tgt := 23) (by decide) (dOk_at dt_X9_chance 4 rfl) (fun q_2 => ?_) (fun q_2 => ?_)
    · refine j_iconst hC (v := (-1 : Int32)) rfl (dOk_at dt_X9_chance 12 rfl) ?_
      exact j_iret hC hret (dOk_at dt_X9_chance 13 rfl)
    · refine j_iload_n hC 2 rfl rfl (dOk_at dt_X9_chance 5 rfl) ?_
      refine j_bipush hC (v := (99 : Int32)) rfl (dOk_at dt_X9_chance 6 rfl) ?_
      refine j_icmp_gt hC (tgt := 23) (by decide) (dOk_at dt_X9_chance 7 rfl) (fun q_3 => ?_) (fun q_3 => ?_)
      · refine j_iconst hC (v := (-1 : Int32)) rfl (dOk_at dt_X9_chance 12 rfl) ?_
        exact j_iret hC hret (dOk_at dt_X9_chance 13 rfl)
      · refine j_aload_n hC 0 rfl rfl (dOk_at dt_X9_chance 8 rfl) ?_
        refine j_iload_n hC 3 rfl rfl (dOk_at dt_X9_chance 9 rfl) ?_
        refine j_callVi hC clX9_156 (fun rz hrz => c_X9_isStraw hN _ _ rz hrz) (show shp 0 = (9, 12) from rfl) (Nat.lt_of_lt_of_le (Nat.le_of_ble_eq_true rfl : 0 < 152) hN) (by decide) rfl rfl ⟨Nat.le_of_ble_eq_true rfl, Nat.le_of_ble_eq_true rfl⟩ ⟨Nat.le_refl 0, Nat.le_refl 0⟩ (As := [.int x3]) (st := []) rfl (Nat.le_of_ble_eq_true rfl) (dOk_at dt_X9_chance 10 rfl) (fun v_4 h_5 _ => ?_)
        refine j_if_ne hC (tgt := 25) (by decide) (dOk_at dt_X9_chance 11 rfl) (fun q_6 => ?_) (fun q_6 => ?_)
        · refine j_iconst hC (v := (0 : Int32)) rfl (dOk_at dt_X9_chance 14 rfl) ?_
          refine j_istore hC (lv' := [(4, .int (0 : Int32)), (0, .ref 0), (1, .int x1), (2, .int x2), (3, .int x3)]) (by decide) rfl (dOk_at dt_X9_chance 15 rfl) ?_
          refine j_iload_n hC 2 rfl rfl (dOk_at dt_X9_chance 16 rfl) ?_
          refine j_istore hC (lv' := [(5, .int x1), (4, .int (0 : Int32)), (0, .ref 0), (1, .int x1), (2, .int x2), (3, .int x3)]) (by decide) rfl (dOk_at dt_X9_chance 17 rfl) ?_
          refine j_iconst hC (v := (0 : Int32)) rfl (dOk_at dt_X9_chance 18 rfl) ?_
          refine j_istore hC (lv' := [(6, .int (0 : Int32)), (5, .int x1), (4, .int (0 : Int32)), (0, .ref 0), (1, .int x1), (2, .int x2), (3, .int x3)]) (by decide) rfl (dOk_at dt_X9_chance 19 rfl) ?_
          refine j_sub [3, 5, 6, 2, 1, 0] rfl ?_
          exact b34 FU h_5 x2 x3 (0 : Int32) x1 (0 : Int32) 
        · refine j_iconst hC (v := (-1 : Int32)) rfl (dOk_at dt_X9_chance 12 rfl) ?_
          exact j_iret hC hret (dOk_at dt_X9_chance 13 rfl)
