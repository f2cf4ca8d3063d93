def tb_X10_text : List (Nat × Instr × Nat) := [(0, .aload_n 0, 1), (1, .iconst 0, 1), (2, .putfield 157, 3), (5, .iload_n 1, 1), (6, .ifCond .lt 11, 3), (9, .iload_n 1, 1), (10, .aload_n 0, 1), (11, .getfield 160, 3), (14, .if_icmp .le 6, 3), (17, .bipush (-2), 2), (19, .ireturn, 1), (20, .aload_n 0, 1), (21, .iload_n 1, 1), (22, .putfield 169, 3), (25, .aload_n 0, 1), (26, .iconst 0, 1), (27, .putfield 160, 3), (30, .aload_n 0, 1), (31, .iconst 0, 1), (32, .putfield 163, 3), (35, .aload_n 0, 1), (36, .iconst (-1), 1), (37, .putfield 16, 3), (40, .aload_n 0, 1), (41, .iconst 0, 1), (42, .putfield 172, 3), (45, .aload_n 0, 1), (46, .invokevirtual 151, 3), (49, .aload_n 0, 1), (50, .invokevirtual 209, 3), (53, .iconst 0, 1), (54, .istore_n 2, 1), (55, .aload_n 0, 1), (56, .getfield 175, 3), (59, .ifCond .eq 18, 3), (62, .aload_n 0, 1), (63, .invokevirtual 313, 3), (66, .ifCond .ne 5, 3), (69, .iconst (-1), 1), (70, .ireturn, 1), (71, .iinc 2 1, 3), (74, .goto (-19), 3), (77, .aload_n 0, 1), (78, .invokevirtual 154, 3), (81, .iload_n 2, 1), (82, .ireturn, 1)]
theorem dt_X10_text : dOk cX10_text tb_X10_text = true := by decide +kernel
def fX10_text_55 : Nat → Hp → Int32 → Option (Int32 × Hp)
  | 0, _, _ => none
  | fu + 1, h, x2 => if (hI h 107 8) = 0 then ((fX10_keepText h).bind (fun h_9 => some (x2, h_9))) else (bnd (fX10_lineRead h) (fun v_10 h_11 => if v_10 = 0 then (some ((-1 : Int32), h_11)) else ((fX10_text_55 fu) h_11 (x2 + (1 : Int32)))))
def fX10_text (h : Hp) (x1 : Int32) : Option (Int32 × Hp) := if x1 < 0 then (some ((-2 : Int32), (uI h 107 2 (0 : Int32)))) else (if x1 ≤ (hI (uI h 107 2 (0 : Int32)) 107 1) then ((fX10_plain (uI (uI (uI (uI (uI (uI h 107 2 (0 : Int32)) 107 6 x1) 107 1 (0 : Int32)) 107 4 (0 : Int32)) 107 5 (-1 : Int32)) 107 7 (0 : Int32))).bind (fun h_4 => (fX10_token h_4).bind (fun h_6 => fX10_text_55 FU h_6 (0 : Int32)))) else (some ((-2 : Int32), (uI h 107 2 (0 : Int32)))))
set_option maxRecDepth 100000 in
set_option maxHeartbeats 4000000 in
theorem c_X10_text {l : Launch} {sb : State} {D : va_G} {ids : Nat → ClassId} {n : Nat} (hN : 152 ≤ n) (h : Hp) (x1 : Int32) (r : Int32 × Hp) (hr : fX10_text h x1 = some r) : jM l yX10_text cX10_text 3 (some .int) 5 sb D ids shp St n [.ref 107, .int x1] h (jQi sb D ids shp St n r) := by
  refine jM_of hr rfl (Nat.le_of_ble_eq_true rfl) ?_
  intro p e s m args below meth c hC hret
  have b55 : ∀ (fu : Nat) (h : Hp) (x2 : Int32) , jJ p l e (rmD 5) s m args below meth c 3 sb D ids shp St (fun r => MQ below (jQi sb D ids shp St n r) args s 0 0 (jA sb)) n 0 0 h 55 [(0, .ref 107), (2, .int x2)] [] (fX10_text_55 fu h x2) := by
    intro fu 
    induction fu with
    | zero => intro h x2 ; exact j_none
    | succ fu ih =>
    intro h x2 
    rw [fX10_text_55]
    refine j_aload_n hC 0 rfl rfl (dOk_at dt_X10_text 32 rfl) ?_
    refine j_getI hC flX10_175 (show shp 107 = (10, 88) from rfl) (Nat.lt_of_lt_of_le (Nat.le_of_ble_eq_true rfl : 107 < 152) hN) (by decide) (by decide) (fun _ _ _ => rfl) (dOk_at dt_X10_text 33 rfl) ?_
    refine j_if_eq hC (tgt := 77) (by decide) (dOk_at dt_X10_text 34 rfl) (fun q_7 => ?_) (fun q_7 => ?_)
    · refine j_aload_n hC 0 rfl rfl (dOk_at dt_X10_text 42 rfl) ?_
      refine j_callVv hC clX10_154 (fun rz hrz => c_X10_keepText hN _ rz hrz) (show shp 107 = (10, 88) from rfl) (Nat.lt_of_lt_of_le (Nat.le_of_ble_eq_true rfl : 107 < 152) hN) (by decide) rfl rfl ⟨Nat.le_of_ble_eq_true rfl, Nat.le_of_ble_eq_true rfl⟩ ⟨Nat.le_refl 0, Nat.le_refl 0⟩ (As := []) (st := []) rfl (Nat.le_of_ble_eq_true rfl) (dOk_at dt_X10_text 43 rfl) (fun h_9 _ => ?_)
      refine j_iload_n hC 1 rfl rfl (dOk_at dt_X10_text 44 rfl) ?_
      exact j_iret hC hret (dOk_at dt_X10_text 45 rfl)
    · refine j_aload_n hC 0 rfl rfl (dOk_at dt_X10_text 35 rfl) ?_
      refine j_callVi hC clX10_313 (fun rz hrz => c_X10_lineRead hN _ rz hrz) (show shp 107 = (10, 88) from rfl) (Nat.lt_of_lt_of_le (Nat.le_of_ble_eq_true rfl : 107 < 152) hN) (by decide) rfl rfl ⟨Nat.le_of_ble_eq_true rfl, Nat.le_of_ble_eq_true rfl⟩ ⟨Nat.le_refl 0, Nat.le_refl 0⟩ (As := []) (st := []) rfl (Nat.le_of_ble_eq_true rfl) (dOk_at dt_X10_text 36 rfl) (fun v_10 h_11 _ => ?_)
      refine j_if_ne hC (tgt := 71) (by decide) (dOk_at dt_X10_text 37 rfl) (fun q_12 => ?_) (fun q_12 => ?_)
      · refine j_iinc hC (v := (x2 + (1 : Int32))) (lv' := [(2, .int (x2 + (1 : Int32))), (0, .ref 107)]) 1 rfl (congrArg (fun z => x2 + z) (show Int32.ofInt (1) = (1 : Int32) from by decide)) (by decide) rfl (dOk_at dt_X10_text 40 rfl) ?_
        refine j_goto hC (tgt := 55) (by decide) (dOk_at dt_X10_text 41 rfl) ?_
        refine j_sub [1, 0] rfl ?_
        exact ih h_11 (x2 + (1 : Int32)) 
      · refine j_iconst hC (v := (-1 : Int32)) rfl (dOk_at dt_X10_text 38 rfl) ?_
        exact j_iret hC hret (dOk_at dt_X10_text 39 rfl)
  unfold fX10_text
  refine j_aload_n hC 0 rfl rfl (dOk_at dt_X10_text 0 rfl) ?_
  refine j_iconst hC (v := (0 : Int32)) rfl (dOk_at dt_X10_text 1 rfl) ?_
  refine j_putI hC St_SP flX10_157 (show shp 107 = (10, 88) from rfl) (Nat.lt_of_lt_of_le (Nat.le_of_ble_eq_true rfl : 107 < 152) hN) (by decide) (by decide) rfl rfl (dOk_at dt_X10_text 2 rfl) ?_
  refine j_iload_n hC 1 rfl rfl (dOk_at dt_X10_text 3 rfl) ?_
  refine j_if_lt hC (tgt := 17) (by decide) (dOk_at dt_X10_text 4 rfl) (fun q_1 => ?_) (fun q_1 => ?_)
  · refine j_bipush hC (v := (-2 : Int32)) rfl (dOk_at dt_X10_text 9 rfl) ?_
    exact j_iret hC hret (dOk_at dt_X10_text 10 rfl)
  · refine j_iload_n hC 1 rfl rfl (dOk_at dt_X10_text 5 rfl) ?_
    refine j_aload_n hC 0 rfl rfl (dOk_at dt_X10_text 6 rfl) ?_
    refine j_getI hC flX10_160 (show shp 107 = (10, 88) from rfl) (Nat.lt_of_lt_of_le (Nat.le_of_ble_eq_true rfl : 107 < 152) hN) (by decide) (by decide) (fun _ _ _ => rfl) (dOk_at dt_X10_text 7 rfl) ?_
    refine j_icmp_le hC (tgt := 20) (by decide) (dOk_at dt_X10_text 8 rfl) (fun q_2 => ?_) (fun q_2 => ?_)
    · refine j_aload_n hC 0 rfl rfl (dOk_at dt_X10_text 11 rfl) ?_
      refine j_iload_n hC 1 rfl rfl (dOk_at dt_X10_text 12 rfl) ?_
      refine j_putI hC St_SP flX10_169 (show shp 107 = (10, 88) from rfl) (Nat.lt_of_lt_of_le (Nat.le_of_ble_eq_true rfl : 107 < 152) hN) (by decide) (by decide) rfl rfl (dOk_at dt_X10_text 13 rfl) ?_
      refine j_aload_n hC 0 rfl rfl (dOk_at dt_X10_text 14 rfl) ?_
      refine j_iconst hC (v := (0 : Int32)) rfl (dOk_at dt_X10_text 15 rfl) ?_
      refine j_putI hC St_SP flX10_160 (show shp 107 = (10, 88) from rfl) (Nat.lt_of_lt_of_le (Nat.le_of_ble_eq_true rfl : 107 < 152) hN) (by decide) (by decide) rfl rfl (dOk_at dt_X10_text 16 rfl) ?_
      refine j_aload_n hC 0 rfl rfl (dOk_at dt_X10_text 17 rfl) ?_
      refine j_iconst hC (v := (0 : Int32)) rfl (dOk_at dt_X10_text 18 rfl) ?_
      refine j_putI hC St_SP flX10_163 (show shp 107 = (10, 88) from rfl) (Nat.lt_of_lt_of_le (Nat.le_of_ble_eq_true rfl : 107 < 152) hN) (by decide) (by decide) rfl rfl (dOk_at dt_X10_text 19 rfl) ?_
      refine j_aload_n hC 0 rfl rfl (dOk_at dt_X10_text 20 rfl) ?_
      refine j_iconst hC (v := (-1 : Int32)) rfl (dOk_at dt_X10_text 21 rfl) ?_
      refine j_putI hC St_SP flX10_16 (show shp 107 = (10, 88) from rfl) (Nat.lt_of_lt_of_le (Nat.le_of_ble_eq_true rfl : 107 < 152) hN) (by decide) (by decide) rfl rfl (dOk_at dt_X10_text 22 rfl) ?_
      refine j_aload_n hC 0 rfl rfl (dOk_at dt_X10_text 23 rfl) ?_
      refine j_iconst hC (v := (0 : Int32)) rfl (dOk_at dt_X10_text 24 rfl) ?_
      refine j_putI hC St_SP flX10_172 (show shp 107 = (10, 88) from rfl) (Nat.lt_of_lt_of_le (Nat.le_of_ble_eq_true rfl : 107 < 152) hN) (by decide) (by decide) rfl rfl (dOk_at dt_X10_text 25 rfl) ?_
      refine j_aload_n hC 0 rfl rfl (dOk_at dt_X10_text 26 rfl) ?_
      refine j_callVv hC clX10_151 (fun rz hrz => c_X10_plain hN _ rz hrz) (show shp 107 = (10, 88) from rfl) (Nat.lt_of_lt_of_le (Nat.le_of_ble_eq_true rfl : 107 < 152) hN) (by decide) rfl rfl ⟨Nat.le_of_ble_eq_true rfl, Nat.le_of_ble_eq_true rfl⟩ ⟨Nat.le_refl 0, Nat.le_refl 0⟩ (As := []) (st := []) rfl (Nat.le_of_ble_eq_true rfl) (dOk_at dt_X10_text 27 rfl) (fun h_4 _ => ?_)
      refine j_aload_n hC 0 rfl rfl (dOk_at dt_X10_text 28 rfl) ?_
      refine j_callVv hC clX10_209 (fun rz hrz => c_X10_token hN _ rz hrz) (show shp 107 = (10, 88) from rfl) (Nat.lt_of_lt_of_le (Nat.le_of_ble_eq_true rfl : 107 < 152) hN) (by decide) rfl rfl ⟨Nat.le_of_ble_eq_true rfl, Nat.le_of_ble_eq_true rfl⟩ ⟨Nat.le_refl 0, Nat.le_refl 0⟩ (As := []) (st := []) rfl (Nat.le_of_ble_eq_true rfl) (dOk_at dt_X10_text 29 rfl) (fun h_6 _ => ?_)
      refine j_iconst hC (v := (0 : Int32)) rfl (dOk_at dt_X10_text 30 rfl) ?_
      refine j_istore_n hC rfl (lv' := [(2, .int (0 : Int32)), (0, .ref 107), (1, .int x1)]) (by decide) rfl (dOk_at dt_X10_text 31 rfl) ?_
      refine j_sub [1, 0] rfl ?_
      exact b55 FU h_6 (0 : Int32) 
    · refine j_bipush hC (v := (-2 : Int32)) rfl (dOk_at dt_X10_text 9 rfl) ?_
      exact j_iret hC hret (dOk_at dt_X10_text 10 rfl)
def tb_X10_fault : List (Nat × Instr × Nat) := [(0, .aload_n 0, 1), (1, .iconst 0, 1), (2, .putfield 157, 3), (5, .iload_n 1, 1), (6, .ifCond .ne 10, 3), (9, .aload_n 0, 1), (10, .getfield 163, 3), (13, .goto 16, 3), (16, .iload_n 1, 1), (17, .iconst 1, 1), (18, .if_icmp .ne 10, 3), (21, .aload_n 0, 1), (22, .getfield 16, 3), (25, .goto 4, 3), (28, .iconst (-1), 1), (29, .ireturn, 1)]
theorem dt_X10_fault : dOk cX10_fault tb_X10_fault = true := by decide +kernel
def fX10_fault (h : Hp) (x1 : Int32) : Option (Int32 × Hp) := if x1 = 0 then (some ((hI (uI h 107 2 (0 : Int32)) 107 4), (uI h 107 2 (0 : Int32)))) else (if x1 = (1 : Int32) then (some ((hI (uI h 107 2 (0 : Int32)) 107 5), (uI h 107 2 (0 : Int32)))) else (some ((-1 : Int32), (uI h 107 2 (0 : Int32)))))
set_option maxRecDepth 100000 in
set_option maxHeartbeats 4000000 in
theorem c_X10_fault {l : Launch} {sb : State} {D : va_G} {ids : Nat → ClassId} {n : Nat} (hN : 152 ≤ n) (h : Hp) (x1 : Int32) (r : Int32 × Hp) (hr : fX10_fault h x1 = some r) : jM l yX10_fault cX10_fault 2 (some .int) 0 sb D ids shp St n [.ref 107, .int x1] h (jQi sb D ids shp St n r) := by
  refine jM_of hr rfl (Nat.le_of_ble_eq_true rfl) ?_
  intro p e s m args below meth c hC hret
  unfold fX10_fault
  refine j_aload_n hC 0 rfl rfl (dOk_at dt_X10_fault 0 rfl) ?_
  refine j_iconst hC (v := (0 : Int32)) rfl (dOk_at dt_X10_fault 1 rfl) ?_
  refine j_putI hC St_SP flX10_157 (show shp 107 = (10, 88) from rfl) (Nat.lt_of_lt_of_le (Nat.le_of_ble_eq_true rfl : 107 < 152) hN) (by decide) (by decide) rfl rfl (dOk_at dt_X10_fault 2 rfl) ?_
  refine j_iload_n hC 1 rfl rfl (dOk_at dt_X10_fault 3 rfl) ?_
  refine j_if_ne hC (tgt := 16) (by decide) (dOk_at dt_X10_fault 4 rfl) (fun q_1 => ?_) (fun q_1 => ?_)
  · refine j_iload_n hC 1 rfl rfl (dOk_at dt_X10_fault 8 rfl) ?_
    refine j_iconst hC (v := (1 : Int32)) rfl (dOk_at dt_X10_fault 9 rfl) ?_
    refine j_icmp_ne hC (tgt := 28) (by decide) (dOk_at dt_X10_fault 10 rfl) (fun q_2 => ?_) (fun q_2 => ?_)
    · refine j_iconst hC (v := (-1 : Int32)) rfl (dOk_at dt_X10_fault 14 rfl) ?_
      exact j_iret hC hret (dOk_at dt_X10_fault 15 rfl)
    · refine j_aload_n hC 0 rfl rfl (dOk_at dt_X10_fault 11 rfl) ?_
      refine j_getI hC flX10_16 (show shp 107 = (10, 88) from rfl) (Nat.lt_of_lt_of_le (Nat.le_of_ble_eq_true rfl : 107 < 152) hN) (by decide) (by decide) (fun _ _ _ => rfl) (dOk_at dt_X10_fault 12 rfl) ?_
      refine j_goto hC (tgt := 29) (by decide) (dOk_at dt_X10_fault 13 rfl) ?_
      exact j_iret hC hret (dOk_at dt_X10_fault 15 rfl)
  · refine j_aload_n hC 0 rfl rfl (dOk_at dt_X10_fault 5 rfl) ?_
    refine j_getI hC flX10_163 (show shp 107 = (10, 88) from rfl) (Nat.lt_of_lt_of_le (Nat.le_of_ble_eq_true rfl : 107 < 152) hN) (by decide) (by decide) (fun _ _ _ => rfl) (dOk_at dt_X10_fault 6 rfl) ?_
    refine j_goto hC (tgt := 29) (by decide) (dOk_at dt_X10_fault 7 rfl) ?_
    exact j_iret hC hret (dOk_at dt_X10_fault 15 rfl)
def tb_X10_named : List (Nat × Instr × Nat) := [(0, .aload_n 0, 1), (1, .iconst 0, 1), (2, .putfield 157, 3), (5, .iload_n 1, 1), (6, .tableswitch 68 0 2 #[26, 40, 54], 26), (32, .aload_n 0, 1), (33, .getfield 27, 3), (36, .iconst 0, 1), (37, .aload_n 0, 1), (38, .getfield 243, 3), (41, .iload_n 2, 1), (42, .invokestatic 271, 3), (45, .ireturn, 1), (46, .aload_n 0, 1), (47, .getfield 42, 3), (50, .iconst 0, 1), (51, .aload_n 0, 1), (52, .getfield 249, 3), (55, .iload_n 2, 1), (56, .invokestatic 271, 3), (59, .ireturn, 1), (60, .aload_n 0, 1), (61, .getfield 51, 3), (64, .iconst 0, 1), (65, .aload_n 0, 1), (66, .getfield 252, 3), (69, .iload_n 2, 1), (70, .invokestatic 271, 3), (73, .ireturn, 1), (74, .iconst (-1), 1), (75, .ireturn, 1)]
theorem dt_X10_named : dOk cX10_named tb_X10_named = true := by decide +kernel
def fX10_named (h : Hp) (x1 : Int32) (x2 : Int32) : Option (Int32 × Hp) := if inT x1 0 2 then (if x1 = (0 : Int32) then (bnd (fX10_find 112 16 (uI h 107 2 (0 : Int32)) (0 : Int32) (hI (uI h 107 2 (0 : Int32)) 107 12) x2) (fun v_2 h_3 => some (v_2, h_3))) else (if x1 = (1 : Int32) then (bnd (fX10_find 117 10 (uI h 107 2 (0 : Int32)) (0 : Int32) (hI (uI h 107 2 (0 : Int32)) 107 14) x2) (fun v_5 h_6 => some (v_5, h_6))) else (if x1 = (2 : Int32) then (bnd (fX10_find 120 10 (uI h 107 2 (0 : Int32)) (0 : Int32) (hI (uI h 107 2 (0 : Int32)) 107 15) x2) (fun v_8 h_9 => some (v_8, h_9))) else none))) else (some ((-1 : Int32), (uI h 107 2 (0 : Int32))))
set_option maxRecDepth 100000 in
set_option maxHeartbeats 4000000 in
theorem c_X10_named {l : Launch} {sb : State} {D : va_G} {ids : Nat → ClassId} {n : Nat} (hN : 152 ≤ n) (h : Hp) (x1 : Int32) (x2 : Int32) (r : Int32 × Hp) (hr : fX10_named h x1 x2 = some r) : jM l yX10_named cX10_named 3 (some .int) 1 sb D ids shp St n [.ref 107, .int x1, .int x2] h (jQi sb D ids shp St n r) := by
  refine jM_of hr rfl (Nat.le_of_ble_eq_true rfl) ?_
  intro p e s m args below meth c hC hret
  unfold fX10_named
  refine j_aload_n hC 0 rfl rfl (dOk_at dt_X10_named 0 rfl) ?_
  refine j_iconst hC (v := (0 : Int32)) rfl (dOk_at dt_X10_named 1 rfl) ?_
  refine j_putI hC St_SP flX10_157 (show shp 107 = (10, 88) from rfl) (Nat.lt_of_lt_of_le (Nat.le_of_ble_eq_true rfl : 107 < 152) hN) (by decide) (by decide) rfl rfl (dOk_at dt_X10_named 2 rfl) ?_
  refine j_iload_n hC 1 rfl rfl (dOk_at dt_X10_named 3 rfl) ?_
  refine j_ite (P := inT x1 0 2 = true) (fun _ => ?_) (fun q => ?_)
  · refine j_ite (P := x1 = (0 : Int32)) (fun q_1 => ?_) (fun _ => ?_)
    · refine j_tswIn hC (tgt := 32) q_1 (by decide) (by decide) rfl (by decide) (dOk_at dt_X10_named 4 rfl) ?_
      refine j_aload_n hC 0 rfl rfl (dOk_at dt_X10_named 5 rfl) ?_
      refine j_getR hC flX10_27 (show shp 107 = (10, 88) from rfl) (Nat.lt_of_lt_of_le (Nat.le_of_ble_eq_true rfl : 107 < 152) hN) (by decide) (by decide) (fun _ _ _ => rfl) (fun hs => hs 107 28 112 rfl) (dOk_at dt_X10_named 6 rfl) ?_
      refine j_iconst hC (v := (0 : Int32)) rfl (dOk_at dt_X10_named 7 rfl) ?_
      refine j_aload_n hC 0 rfl rfl (dOk_at dt_X10_named 8 rfl) ?_
      refine j_getI hC flX10_243 (show shp 107 = (10, 88) from rfl) (Nat.lt_of_lt_of_le (Nat.le_of_ble_eq_true rfl : 107 < 152) hN) (by decide) (by decide) (fun _ _ _ => rfl) (dOk_at dt_X10_named 9 rfl) ?_
      refine j_iload_n hC 2 rfl rfl (dOk_at dt_X10_named 10 rfl) ?_
      refine j_callSi hC clX10_271 (fun rz hrz => c_X10_find hN ((show shp 112 = (21, 16) from rfl)) _ _ _ _ rz hrz) rfl ⟨Nat.le_of_ble_eq_true rfl, Nat.le_of_ble_eq_true rfl⟩ ⟨Nat.le_refl 0, Nat.le_refl 0⟩ (As := [.ref 112, .int (0 : Int32), .int (hI (uI h 107 2 (0 : Int32)) 107 12), .int x2]) (st := []) rfl (Nat.le_of_ble_eq_true rfl) (dOk_at dt_X10_named 11 rfl) (fun v_2 h_3 _ => ?_)
      exact j_iret hC hret (dOk_at dt_X10_named 12 rfl)
    refine j_ite (P := x1 = (1 : Int32)) (fun q_4 => ?_) (fun _ => ?_)
    · refine j_tswIn hC (tgt := 46) q_4 (by decide) (by decide) rfl (by decide) (dOk_at dt_X10_named 4 rfl) ?_
      refine j_aload_n hC 0 rfl rfl (dOk_at dt_X10_named 13 rfl) ?_
      refine j_getR hC flX10_42 (show shp 107 = (10, 88) from rfl) (Nat.lt_of_lt_of_le (Nat.le_of_ble_eq_true rfl : 107 < 152) hN) (by decide) (by decide) (fun _ _ _ => rfl) (fun hs => hs 107 33 117 rfl) (dOk_at dt_X10_named 14 rfl) ?_
      refine j_iconst hC (v := (0 : Int32)) rfl (dOk_at dt_X10_named 15 rfl) ?_
      refine j_aload_n hC 0 rfl rfl (dOk_at dt_X10_named 16 rfl) ?_
      refine j_getI hC flX10_249 (show shp 107 = (10, 88) from rfl) (Nat.lt_of_lt_of_le (Nat.le_of_ble_eq_true rfl : 107 < 152) hN) (by decide) (by decide) (fun _ _ _ => rfl) (dOk_at dt_X10_named 17 rfl) ?_
      refine j_iload_n hC 2 rfl rfl (dOk_at dt_X10_named 18 rfl) ?_
      refine j_callSi hC clX10_271 (fun rz hrz => c_X10_find hN ((show shp 117 = (21, 10) from rfl)) _ _ _ _ rz hrz) rfl ⟨Nat.le_of_ble_eq_true rfl, Nat.le_of_ble_eq_true rfl⟩ ⟨Nat.le_refl 0, Nat.le_refl 0⟩ (As := [.ref 117, .int (0 : Int32), .int (hI (uI h 107 2 (0 : Int32)) 107 14), .int x2]) (st := []) rfl (Nat.le_of_ble_eq_true rfl) (dOk_at dt_X10_named 19 rfl) (fun v_5 h_6 _ => ?_)
      exact j_iret hC hret (dOk_at dt_X10_named 20 rfl)
    refine j_ite (P := x1 = (2 : Int32)) (fun q_7 => ?_) (fun _ => ?_)
    · refine j_tswIn hC (tgt := 60) q_7 (by decide) (by decide) rfl (by decide) (dOk_at dt_X10_named 4 rfl) ?_
      refine j_aload_n hC 0 rfl rfl (dOk_at dt_X10_named 21 rfl) ?_
      refine j_getR hC flX10_51 (show shp 107 = (10, 88) from rfl) (Nat.lt_of_lt_of_le (Nat.le_of_ble_eq_true rfl : 107 < 152) hN) (by decide) (by decide) (fun _ _ _ => rfl) (fun hs => hs 107 36 120 rfl) (dOk_at dt_X10_named 22 rfl) ?_
      refine j_iconst hC (v := (0 : Int32)) rfl (dOk_at dt_X10_named 23 rfl) ?_
      refine j_aload_n hC 0 rfl rfl (dOk_at dt_X10_named 24 rfl) ?_
      refine j_getI hC flX10_252 (show shp 107 = (10, 88) from rfl) (Nat.lt_of_lt_of_le (Nat.le_of_ble_eq_true rfl : 107 < 152) hN) (by decide) (by decide) (fun _ _ _ => rfl) (dOk_at dt_X10_named 25 rfl) ?_
      refine j_iload_n hC 2 rfl rfl (dOk_at dt_X10_named 26 rfl) ?_
      refine j_callSi hC clX10_271 (fun rz hrz => c_X10_find hN ((show shp 120 = (21, 10) from rfl)) _ _ _ _ rz hrz) rfl ⟨Nat.le_of_ble_eq_true rfl, Nat.le_of_ble_eq_true rfl⟩ ⟨Nat.le_refl 0, Nat.le_refl 0⟩ (As := [.ref 120, .int (0 : Int32), .int (hI (uI h 107 2 (0 : Int32)) 107 15), .int x2]) (st := []) rfl (Nat.le_of_ble_eq_true rfl) (dOk_at dt_X10_named 27 rfl) (fun v_8 h_9 _ => ?_)
      exact j_iret hC hret (dOk_at dt_X10_named 28 rfl)
    exact j_none
  · refine j_tswOut hC (tgt := 74) q (by decide) (dOk_at dt_X10_named 4 rfl) ?_
    refine j_iconst hC (v := (-1 : Int32)) rfl (dOk_at dt_X10_named 29 rfl) ?_
    exact j_iret hC hret (dOk_at dt_X10_named 30 rfl)
def tb_X10_bounded : List (Nat × Instr × Nat) := [(0, .aload_n 0, 1), (1, .aload_n 0, 1), (2, .getfield 366, 3), (5, .ifCond .ne 19, 3), (8, .lload_n 1, 1), (9, .ldc2_w 369, 3), (12, .lcmp, 1), (13, .ifCond .gt 11, 3), (16, .lload_n 1, 1), (17, .ldc2_w 371, 3), (20, .lcmp, 1), (21, .ifCond .ge 7, 3), (24, .iconst 1, 1), (25, .goto 4, 3), (28, .iconst 0, 1), (29, .putfield 366, 3), (32, .aload_n 0, 1), (33, .getfield 366, 3), (36, .ifCond .eq 7, 3), (39, .lconst 0, 1), (40, .goto 4, 3), (43, .lload_n 1, 1), (44, .lreturn, 1)]
theorem dt_X10_bounded : dOk cX10_bounded tb_X10_bounded = true := by decide +kernel
def fX10_bounded_29 (h : Hp) (x1 : Int64) (s1 : Int32) : Option (Int64 × Hp) := if isZ s1 then (if (hI (uI h 107 59 s1) 107 59) = 0 then (some (x1, (uI h 107 59 s1))) else (some ((0 : Int64), (uI h 107 59 s1)))) else none
def fX10_bounded_24 (h : Hp) (x1 : Int64) : Option (Int64 × Hp) := fX10_bounded_29 h x1 (1 : Int32)
def fX10_bounded (h : Hp) (x1 : Int64) : Option (Int64 × Hp) := if (hI h 107 59) = 0 then (if 0 < (lg_cmp x1 (1000000000000 : Int64)) then (fX10_bounded_24 h x1) else (if 0 ≤ (lg_cmp x1 (-1000000000000 : Int64)) then (fX10_bounded_29 h x1 (0 : Int32)) else (fX10_bounded_24 h x1))) else (fX10_bounded_24 h x1)
set_option maxRecDepth 100000 in
set_option maxHeartbeats 4000000 in
theorem c_X10_bounded {l : Launch} {sb : State} {D : va_G} {ids : Nat → ClassId} {n : Nat} (hN : 152 ≤ n) (h : Hp) (x1 : Int64) (r : Int64 × Hp) (hr : fX10_bounded h x1 = some r) : jM l yX10_bounded cX10_bounded 3 (some .long) 0 sb D ids shp St n [.ref 107, .long x1] h (jQl sb D ids shp St n r) := by
  refine jM_of hr rfl (Nat.le_of_ble_eq_true rfl) ?_
  intro p e s m args below meth c hC hret
  have b29 : ∀ (h : Hp) (x1 : Int64) (s1 : Int32) , jJ p l e (rmD 0) s m args below meth c 3 sb D ids shp St (fun r => MQ below (jQl sb D ids shp St n r) args s 0 0 (jA sb)) n 0 0 h 29 [(0, .ref 107), (1, .long x1)] [.int s1, .ref 107] (fX10_bounded_29 h x1 s1) := by
    intro h x1 s1 
    unfold fX10_bounded_29
    refine j_ite (P := isZ s1 = true) (fun hz_4 => ?_) (fun _ => j_none)
    refine j_putZ hC St_SP flX10_366 (show shp 107 = (10, 88) from rfl) (Nat.lt_of_lt_of_le (Nat.le_of_ble_eq_true rfl : 107 < 152) hN) (by decide) (by decide) rfl rfl hz_4 (dOk_at dt_X10_bounded 15 rfl) ?_
    refine j_aload_n hC 0 rfl rfl (dOk_at dt_X10_bounded 16 rfl) ?_
    refine j_getI hC flX10_366 (show shp 107 = (10, 88) from rfl) (Nat.lt_of_lt_of_le (Nat.le_of_ble_eq_true rfl : 107 < 152) hN) (by decide) (by decide) (fun _ _ _ => rfl) (dOk_at dt_X10_bounded 17 rfl) ?_
    refine j_if_eq hC (tgt := 43) (by decide) (dOk_at dt_X10_bounded 18 rfl) (fun q_5 => ?_) (fun q_5 => ?_)
    · refine j_lload_n hC 1 rfl rfl (dOk_at dt_X10_bounded 21 rfl) ?_
      exact j_lret hC hret (dOk_at dt_X10_bounded 22 rfl)
    · refine j_lconst hC (v := (0 : Int64)) rfl (dOk_at dt_X10_bounded 19 rfl) ?_
      refine j_goto hC (tgt := 44) (by decide) (dOk_at dt_X10_bounded 20 rfl) ?_
      exact j_lret hC hret (dOk_at dt_X10_bounded 22 rfl)
  have b24 : ∀ (h : Hp) (x1 : Int64) , jJ p l e (rmD 0) s m args below meth c 3 sb D ids shp St (fun r => MQ below (jQl sb D ids shp St n r) args s 0 0 (jA sb)) n 0 0 h 24 [(0, .ref 107), (1, .long x1)] [.ref 107] (fX10_bounded_24 h x1) := by
    intro h x1 
    unfold fX10_bounded_24
    refine j_iconst hC (v := (1 : Int32)) rfl (dOk_at dt_X10_bounded 12 rfl) ?_
    refine j_goto hC (tgt := 29) (by decide) (dOk_at dt_X10_bounded 13 rfl) ?_
    exact b29 h x1 (1 : Int32) 
  unfold fX10_bounded
  refine j_aload_n hC 0 rfl rfl (dOk_at dt_X10_bounded 0 rfl) ?_
  refine j_aload_n hC 0 rfl rfl (dOk_at dt_X10_bounded 1 rfl) ?_
  refine j_getI hC flX10_366 (show shp 107 = (10, 88) from rfl) (Nat.lt_of_lt_of_le (Nat.le_of_ble_eq_true rfl : 107 < 152) hN) (by decide) (by decide) (fun _ _ _ => rfl) (dOk_at dt_X10_bounded 2 rfl) ?_
  refine j_if_ne hC (tgt := 24) (by decide) (dOk_at dt_X10_bounded 3 rfl) (fun q_1 => ?_) (fun q_1 => ?_)
  · exact b24 h x1 
  · refine j_lload_n hC 1 rfl rfl (dOk_at dt_X10_bounded 4 rfl) ?_
    refine j_ldc2 hC klX10_369 (dOk_at dt_X10_bounded 5 rfl) ?_
    refine j_lcmp hC (dOk_at dt_X10_bounded 6 rfl) ?_
    refine j_if_gt hC (tgt := 24) (by decide) (dOk_at dt_X10_bounded 7 rfl) (fun q_2 => ?_) (fun q_2 => ?_)
    · exact b24 h x1 
    · refine j_lload_n hC 1 rfl rfl (dOk_at dt_X10_bounded 8 rfl) ?_
      refine j_ldc2 hC klX10_371 (dOk_at dt_X10_bounded 9 rfl) ?_
      refine j_lcmp hC (dOk_at dt_X10_bounded 10 rfl) ?_
      refine j_if_ge hC (tgt := 28) (by decide) (dOk_at dt_X10_bounded 11 rfl) (fun q_3 => ?_) (fun q_3 => ?_)
      · refine j_iconst hC (v := (0 : Int32)) rfl (dOk_at dt_X10_bounded 14 rfl) ?_
        exact b29 h x1 (0 : Int32) 
      · exact b24 h x1 
def tb_X10_compares : List (Nat × Instr × Nat) := [(0, .iload_n 0, 1), (1, .tableswitch 95 5 9 #[35, 47, 59, 71, 83], 35), (36, .lload_n 1, 1), (37, .lload_n 3, 1), (38, .lcmp, 1), (39, .ifCond .ge 7, 3), (42, .iconst 1, 1), (43, .goto 4, 3), (46, .iconst 0, 1), (47, .ireturn, 1), (48, .lload_n 1, 1), (49, .lload_n 3, 1), (50, .lcmp, 1), (51, .ifCond .gt 7, 3), (54, .iconst 1, 1), (55, .goto 4, 3), (58, .iconst 0, 1), (59, .ireturn, 1), (60, .lload_n 1, 1), (61, .lload_n 3, 1), (62, .lcmp, 1), (63, .ifCond .ne 7, 3), (66, .iconst 1, 1), (67, .goto 4, 3), (70, .iconst 0, 1), (71, .ireturn, 1), (72, .lload_n 1, 1), (73, .lload_n 3, 1), (74, .lcmp, 1), (75, .ifCond .eq 7, 3), (78, .iconst 1, 1), (79, .goto 4, 3), (82, .iconst 0, 1), (83, .ireturn, 1), (84, .lload_n 1, 1), (85, .lload_n 3, 1), (86, .lcmp, 1), (87, .ifCond .lt 7, 3), (90, .iconst 1, 1), (91, .goto 4, 3), (94, .iconst 0, 1), (95, .ireturn, 1), (96, .lload_n 1, 1), (97, .lload_n 3, 1), (98, .lcmp, 1), (99, .ifCond .le 7, 3), (102, .iconst 1, 1), (103, .goto 4, 3), (106, .iconst 0, 1), (107, .ireturn, 1)]
theorem dt_X10_compares : dOk cX10_compares tb_X10_compares = true := by decide +kernel
def fX10_compares (h : Hp) (x0 : Int32) (x1 : Int64) (x3 : Int64) : Option (Int32 × Hp) := if inT x0 5 9 then (if x0 = (5 : Int32) then (if 0 ≤ (lg_cmp x1 x3) then (some ((0 : Int32), h)) else (some ((1 : Int32), h))) else (if x0 = (6 : Int32) then (if 0 < (lg_cmp x1 x3) then (some ((0 : Int32), h)) else (some ((1 : Int32), h))) else (if x0 = (7 : Int32) then (if (lg_cmp x1 x3) = 0 then (some ((1 : Int32), h)) else (some ((0 : Int32), h))) else (if x0 = (8 : Int32) then (if (lg_cmp x1 x3) = 0 then (some ((0 : Int32), h)) else (some ((1 : Int32), h))) else (if x0 = (9 : Int32) then (if (lg_cmp x1 x3) < 0 then (some ((0 : Int32), h)) else (some ((1 : Int32), h))) else none))))) else (if (lg_cmp x1 x3) ≤ 0 then (some ((0 : Int32), h)) else (some ((1 : Int32), h)))
set_option maxRecDepth 100000 in
set_option maxHeartbeats 4000000 in
theorem c_X10_compares {l : Launch} {sb : State} {D : va_G} {ids : Nat → ClassId} {n : Nat} (hN : 152 ≤ n) (h : Hp) (x0 : Int32) (x1 : Int64) (x3 : Int64) (r : Int32 × Hp) (hr : fX10_compares h x0 x1 x3 = some r) : jM l yX10_compares cX10_compares 5 (some .boolean) 0 sb D ids shp St n [.int x0, .long x1, .long x3] h (jQi sb D ids shp St n r) := by
  refine jM_of hr rfl (Nat.le_of_ble_eq_true rfl) ?_
  intro p e s m args below meth c hC hret
  unfold fX10_compares
  refine j_iload_n hC 0 rfl rfl (dOk_at dt_X10_compares 0 rfl) ?_
  refine j_ite (P := inT x0 5 9 = true) (fun _ => ?_) (fun q => ?_)
  · refine j_ite (P := x0 = (5 : Int32)) (fun q_1 => ?_) (fun _ => ?_)
    · refine j_tswIn hC (tgt := 36) q_1 (by decide) (by decide) rfl (by decide) (dOk_at dt_X10_compares 1 rfl) ?_
      refine j_lload_n hC 1 rfl rfl (dOk_at dt_X10_compares 2 rfl) ?_
      refine j_lload_n hC 2 rfl rfl (dOk_at dt_X10_compares 3 rfl) ?_
      refine j_lcmp hC (dOk_at dt_X10_compares 4 rfl) ?_
      refine j_if_ge hC (tgt := 46) (by decide) (dOk_at dt_X10_compares 5 rfl) (fun q_2 => ?_) (fun q_2 => ?_)
      · refine j_iconst hC (v := (0 : Int32)) rfl (dOk_at dt_X10_compares 8 rfl) ?_
        exact j_zretK hC hret rfl (dOk_at dt_X10_compares 9 rfl)
      · refine j_iconst hC (v := (1 : Int32)) rfl (dOk_at dt_X10_compares 6 rfl) ?_
        refine j_goto hC (tgt := 47) (by decide) (dOk_at dt_X10_compares 7 rfl) ?_
        exact j_zretK hC hret rfl (dOk_at dt_X10_compares 9 rfl)
    refine j_ite (P := x0 = (6 : Int32)) (fun q_3 => ?_) (fun _ => ?_)
    · refine j_tswIn hC (tgt := 48) q_3 (by decide) (by decide) rfl (by decide) (dOk_at dt_X10_compares 1 rfl) ?_
      refine j_lload_n hC 1 rfl rfl (dOk_at dt_X10_compares 10 rfl) ?_
      refine j_lload_n hC 2 rfl rfl (dOk_at dt_X10_compares 11 rfl) ?_
      refine j_lcmp hC (dOk_at dt_X10_compares 12 rfl) ?_
      refine j_if_gt hC (tgt := 58) (by decide) (dOk_at dt_X10_compares 13 rfl) (fun q_4 => ?_) (fun q_4 => ?_)
      · refine j_iconst hC (v := (0 : Int32)) rfl (dOk_at dt_X10_compares 16 rfl) ?_
        exact j_zretK hC hret rfl (dOk_at dt_X10_compares 17 rfl)
      · refine j_iconst hC (v := (1 : Int32)) rfl (dOk_at dt_X10_compares 14 rfl) ?_
        refine j_goto hC (tgt := 59) (by decide) (dOk_at dt_X10_compares 15 rfl) ?_
        exact j_zretK hC hret rfl (dOk_at dt_X10_compares 17 rfl)
    refine j_ite (P := x0 = (7 : Int32)) (fun q_5 => ?_) (fun _ => ?_)
    · refine j_tswIn hC (tgt := 60) q_5 (by decide) (by decide) rfl (by decide) (dOk_at dt_X10_compares 1 rfl) ?_
      refine j_lload_n hC 1 rfl rfl (dOk_at dt_X10_compares 18 rfl) ?_
      refine j_lload_n hC 2 rfl rfl (dOk_at dt_X10_compares 19 rfl) ?_
      refine j_lcmp hC (dOk_at dt_X10_compares 20 rfl) ?_
      refine j_if_ne hC (tgt := 70) (by decide) (dOk_at dt_X10_compares 21 rfl) (fun q_6 => ?_) (fun q_6 => ?_)
      · refine j_iconst hC (v := (0 : Int32)) rfl (dOk_at dt_X10_compares 24 rfl) ?_
        exact j_zretK hC hret rfl (dOk_at dt_X10_compares 25 rfl)
      · refine j_iconst hC (v := (1 : Int32)) rfl (dOk_at dt_X10_compares 22 rfl) ?_
        refine j_goto hC (tgt := 71) (by decide) (dOk_at dt_X10_compares 23 rfl) ?_
        exact j_zretK hC hret rfl (dOk_at dt_X10_compares 25 rfl)
    refine j_ite (P := x0 = (8 : Int32)) (fun q_7 => ?_) (fun _ => ?_)
    · refine j_tswIn hC (tgt := 72) q_7 (by decide) (by decide) rfl (by decide) (dOk_at dt_X10_compares 1 rfl) ?_
      refine j_lload_n hC 1 rfl rfl (dOk_at dt_X10_compares 26 rfl) ?_
      refine j_lload_n hC 2 rfl rfl (dOk_at dt_X10_compares 27 rfl) ?_
      refine j_lcmp hC (dOk_at dt_X10_compares 28 rfl) ?_
      refine j_if_eq hC (tgt := 82) (by decide) (dOk_at dt_X10_compares 29 rfl) (fun q_8 => ?_) (fun q_8 => ?_)
      · refine j_iconst hC (v := (0 : Int32)) rfl (dOk_at dt_X10_compares 32 rfl) ?_
        exact j_zretK hC hret rfl (dOk_at dt_X10_compares 33 rfl)
      · refine j_iconst hC (v := (1 : Int32)) rfl (dOk_at dt_X10_compares 30 rfl) ?_
        refine j_goto hC (tgt := 83) (by decide) (dOk_at dt_X10_compares 31 rfl) ?_
        exact j_zretK hC hret rfl (dOk_at dt_X10_compares 33 rfl)
    refine j_ite (P := x0 = (9 : Int32)) (fun q_9 => ?_) (fun _ => ?_)
    · refine j_tswIn hC (tgt := 84) q_9 (by decide) (by decide) rfl (by decide) (dOk_at dt_X10_compares 1 rfl) ?_
      refine j_lload_n hC 1 rfl rfl (dOk_at dt_X10_compares 34 rfl) ?_
      refine j_lload_n hC 2 rfl rfl (dOk_at dt_X10_compares 35 rfl) ?_
      refine j_lcmp hC (dOk_at dt_X10_compares 36 rfl) ?_
      refine j_if_lt hC (tgt := 94) (by decide) (dOk_at dt_X10_compares 37 rfl) (fun q_10 => ?_) (fun q_10 => ?_)
      · refine j_iconst hC (v := (0 : Int32)) rfl (dOk_at dt_X10_compares 40 rfl) ?_
        exact j_zretK hC hret rfl (dOk_at dt_X10_compares 41 rfl)
      · refine j_iconst hC (v := (1 : Int32)) rfl (dOk_at dt_X10_compares 38 rfl) ?_
        refine j_goto hC (tgt := 95) (by decide) (dOk_at dt_X10_compares 39 rfl) ?_
        exact j_zretK hC hret rfl (dOk_at dt_X10_compares 41 rfl)
    exact j_none
  · refine j_tswOut hC (tgt := 96) q (by decide) (dOk_at dt_X10_compares 1 rfl) ?_
    refine j_lload_n hC 1 rfl rfl (dOk_at dt_X10_compares 42 rfl) ?_
    refine j_lload_n hC 2 rfl rfl (dOk_at dt_X10_compares 43 rfl) ?_
    refine j_lcmp hC (dOk_at dt_X10_compares 44 rfl) ?_
    refine j_if_le hC (tgt := 106) (by decide) (dOk_at dt_X10_compares 45 rfl) (fun q_11 => ?_) (fun q_11 => ?_)
    · refine j_iconst hC (v := (0 : Int32)) rfl (dOk_at dt_X10_compares 48 rfl) ?_
      exact j_zretK hC hret rfl (dOk_at dt_X10_compares 49 rfl)
    · refine j_iconst hC (v := (1 : Int32)) rfl (dOk_at dt_X10_compares 46 rfl) ?_
      refine j_goto hC (tgt := 107) (by decide) (dOk_at dt_X10_compares 47 rfl) ?_
      exact j_zretK hC hret rfl (dOk_at dt_X10_compares 49 rfl)
def tb_X10_times : List (Nat × Instr × Nat) := [(0, .lload_n 1, 1), (1, .lconst 0, 1), (2, .lcmp, 1), (3, .ifCond .eq 45, 3), (6, .lload_n 3, 1), (7, .lconst 0, 1), (8, .lcmp, 1), (9, .ifCond .eq 39, 3), (12, .lload_n 3, 1), (13, .lconst 0, 1), (14, .lcmp, 1), (15, .ifCond .ge 8, 3), (18, .lload_n 3, 1), (19, .lneg, 1), (20, .goto 4, 3), (23, .lload_n 3, 1), (24, .ldc2_w 369, 3), (27, .lload_n 1, 1), (28, .lconst 0, 1), (29, .lcmp, 1), (30, .ifCond .ge 8, 3), (33, .lload_n 1, 1), (34, .lneg, 1), (35, .goto 4, 3), (38, .lload_n 1, 1), (39, .ldiv, 1), (40, .lcmp, 1), (41, .ifCond .le 7, 3), (44, .iconst 1, 1), (45, .goto 4, 3), (48, .iconst 0, 1), (49, .istore 5, 2), (51, .aload_n 0, 1), (52, .aload_n 0, 1), (53, .getfield 366, 3), (56, .ifCond .ne 8, 3), (59, .iload 5, 2), (61, .ifCond .eq 7, 3), (64, .iconst 1, 1), (65, .goto 4, 3), (68, .iconst 0, 1), (69, .putfield 366, 3), (72, .aload_n 0, 1), (73, .getfield 366, 3), (76, .ifCond .eq 7, 3), (79, .lconst 0, 1), (80, .goto 6, 3), (83, .lload_n 1, 1), (84, .lload_n 3, 1), (85, .lmul, 1), (86, .lreturn, 1)]
theorem dt_X10_times : dOk cX10_times tb_X10_times = true := by decide +kernel
def fX10_times_69 (h : Hp) (x1 : Int64) (x3 : Int64) (s1 : Int32) : Option (Int64 × Hp) := if isZ s1 then (if (hI (uI h 107 59 s1) 107 59) = 0 then (some ((x1 * x3), (uI h 107 59 s1))) else (some ((0 : Int64), (uI h 107 59 s1)))) else none
def fX10_times_64 (h : Hp) (x1 : Int64) (x3 : Int64) : Option (Int64 × Hp) := fX10_times_69 h x1 x3 (1 : Int32)
def fX10_times_49 (h : Hp) (x1 : Int64) (x3 : Int64) (s0 : Int32) : Option (Int64 × Hp) := if (hI h 107 59) = 0 then (if s0 = 0 then (fX10_times_69 h x1 x3 (0 : Int32)) else (fX10_times_64 h x1 x3)) else (fX10_times_64 h x1 x3)
def fX10_times_48 (h : Hp) (x1 : Int64) (x3 : Int64) : Option (Int64 × Hp) := fX10_times_49 h x1 x3 (0 : Int32)
def fX10_times_39 (h : Hp) (x1 : Int64) (x3 : Int64) (s0 : Int64) (s1 : Int64) (s2 : Int64) : Option (Int64 × Hp) := if s2 = 0 then none else if (lg_cmp s0 (s1 / s2)) ≤ 0 then (fX10_times_48 h x1 x3) else (fX10_times_49 h x1 x3 (1 : Int32))
def fX10_times_24 (h : Hp) (x1 : Int64) (x3 : Int64) (s0 : Int64) : Option (Int64 × Hp) := if 0 ≤ (lg_cmp x1 (0 : Int64)) then (fX10_times_39 h x1 x3 s0 (1000000000000 : Int64) x1) else (fX10_times_39 h x1 x3 s0 (1000000000000 : Int64) (-x1))
def fX10_times (h : Hp) (x1 : Int64) (x3 : Int64) : Option (Int64 × Hp) := if (lg_cmp x1 (0 : Int64)) = 0 then (fX10_times_48 h x1 x3) else (if (lg_cmp x3 (0 : Int64)) = 0 then (fX10_times_48 h x1 x3) else (if 0 ≤ (lg_cmp x3 (0 : Int64)) then (fX10_times_24 h x1 x3 x3) else (fX10_times_24 h x1 x3 (-x3))))
set_option maxRecDepth 100000 in
set_option maxHeartbeats 4000000 in
theorem c_X10_times {l : Launch} {sb : State} {D : va_G} {ids : Nat → ClassId} {n : Nat} (hN : 152 ≤ n) (h : Hp) (x1 : Int64) (x3 : Int64) (r : Int64 × Hp) (hr : fX10_times h x1 x3 = some r) : jM l yX10_times cX10_times 6 (some .long) 0 sb D ids shp St n [.ref 107, .long x1, .long x3] h (jQl sb D ids shp St n r) := by
  refine jM_of hr rfl (Nat.le_of_ble_eq_true rfl) ?_
  intro p e s m args below meth c hC hret
  have b69 : ∀ (h : Hp) (x1 : Int64) (x3 : Int64) (s1 : Int32) , jJ p l e (rmD 0) s m args below meth c 6 sb D ids shp St (fun r => MQ below (jQl sb D ids shp St n r) args s 0 0 (jA sb)) n 0 0 h 69 [(0, .ref 107), (1, .long x1), (3, .long x3)] [.int s1, .ref 107] (fX10_times_69 h x1 x3 s1) := by
    intro h x1 x3 s1 
    unfold fX10_times_69
    refine j_ite (P := isZ s1 = true) (fun hz_8 => ?_) (fun _ => j_none)
    refine j_putZ hC St_SP flX10_366 (show shp 107 = (10, 88) from rfl) (Nat.lt_of_lt_of_le (Nat.le_of_ble_eq_true rfl : 107 < 152) hN) (by decide) (by decide) rfl rfl hz_8 (dOk_at dt_X10_times 41 rfl) ?_
    refine j_aload_n hC 0 rfl rfl (dOk_at dt_X10_times 42 rfl) ?_
    refine j_getI hC flX10_366 (show shp 107 = (10, 88) from rfl) (Nat.lt_of_lt_of_le (Nat.le_of_ble_eq_true rfl : 107 < 152) hN) (by decide) (by decide) (fun _ _ _ => rfl) (dOk_at dt_X10_times 43 rfl) ?_
    refine j_if_eq hC (tgt := 83) (by decide) (dOk_at dt_X10_times 44 rfl) (fun q_9 => ?_) (fun q_9 => ?_)
    · refine j_lload_n hC 1 rfl rfl (dOk_at dt_X10_times 47 rfl) ?_
      refine j_lload_n hC 2 rfl rfl (dOk_at dt_X10_times 48 rfl) ?_
      refine j_lmul hC (dOk_at dt_X10_times 49 rfl) ?_
      exact j_lret hC hret (dOk_at dt_X10_times 50 rfl)
    · refine j_lconst hC (v := (0 : Int64)) rfl (dOk_at dt_X10_times 45 rfl) ?_
      refine j_goto hC (tgt := 86) (by decide) (dOk_at dt_X10_times 46 rfl) ?_
      exact j_lret hC hret (dOk_at dt_X10_times 50 rfl)
  have b64 : ∀ (h : Hp) (x1 : Int64) (x3 : Int64) , jJ p l e (rmD 0) s m args below meth c 6 sb D ids shp St (fun r => MQ below (jQl sb D ids shp St n r) args s 0 0 (jA sb)) n 0 0 h 64 [(0, .ref 107), (1, .long x1), (3, .long x3)] [.ref 107] (fX10_times_64 h x1 x3) := by
    intro h x1 x3 
    unfold fX10_times_64
    refine j_iconst hC (v := (1 : Int32)) rfl (dOk_at dt_X10_times 38 rfl) ?_
    refine j_goto hC (tgt := 69) (by decide) (dOk_at dt_X10_times 39 rfl) ?_
    exact b69 h x1 x3 (1 : Int32) 
  have b49 : ∀ (h : Hp) (x1 : Int64) (x3 : Int64) (s0 : Int32) , jJ p l e (rmD 0) s m args below meth c 6 sb D ids shp St (fun r => MQ below (jQl sb D ids shp St n r) args s 0 0 (jA sb)) n 0 0 h 49 [(0, .ref 107), (1, .long x1), (3, .long x3)] [.int s0] (fX10_times_49 h x1 x3 s0) := by
    intro h x1 x3 s0 
    unfold fX10_times_49
    refine j_istore hC (lv' := [(5, .int s0), (0, .ref 107), (1, .long x1), (3, .long x3)]) (by decide) rfl (dOk_at dt_X10_times 31 rfl) ?_
    refine j_aload_n hC 1 rfl rfl (dOk_at dt_X10_times 32 rfl) ?_
    refine j_aload_n hC 1 rfl rfl (dOk_at dt_X10_times 33 rfl) ?_
    refine j_getI hC flX10_366 (show shp 107 = (10, 88) from rfl) (Nat.lt_of_lt_of_le (Nat.le_of_ble_eq_true rfl : 107 < 152) hN) (by decide) (by decide) (fun _ _ _ => rfl) (dOk_at dt_X10_times 34 rfl) ?_
    refine j_if_ne hC (tgt := 64) (by decide) (dOk_at dt_X10_times 35 rfl) (fun q_5 => ?_) (fun q_5 => ?_)
    · refine j_sub [1, 2, 3] rfl ?_
      exact b64 h x1 x3 
    · refine j_iload hC 0 rfl (dOk_at dt_X10_times 36 rfl) ?_
      refine j_if_eq hC (tgt := 68) (by decide) (dOk_at dt_X10_times 37 rfl) (fun q_6 => ?_) (fun q_6 => ?_)
      · refine j_iconst hC (v := (0 : Int32)) rfl (dOk_at dt_X10_times 40 rfl) ?_
        refine j_sub [1, 2, 3] rfl ?_
        exact b69 h x1 x3 (0 : Int32) 
      · refine j_sub [1, 2, 3] rfl ?_
        exact b64 h x1 x3 
  have b48 : ∀ (h : Hp) (x1 : Int64) (x3 : Int64) , jJ p l e (rmD 0) s m args below meth c 6 sb D ids shp St (fun r => MQ below (jQl sb D ids shp St n r) args s 0 0 (jA sb)) n 0 0 h 48 [(0, .ref 107), (1, .long x1), (3, .long x3)] [] (fX10_times_48 h x1 x3) := by
    intro h x1 x3 
    unfold fX10_times_48
    refine j_iconst hC (v := (0 : Int32)) rfl (dOk_at dt_X10_times 30 rfl) ?_
    exact b49 h x1 x3 (0 : Int32) 
  have b39 : ∀ (h : Hp) (x1 : Int64) (x3 : Int64) (s0 : Int64) (s1 : Int64) (s2 : Int64) , jJ p l e (rmD 0) s m args below meth c 6 sb D ids shp St (fun r => MQ below (jQl sb D ids shp St n r) args s 0 0 (jA sb)) n 0 0 h 39 [(0, .ref 107), (1, .long x1), (3, .long x3)] [.long s2, .long s1, .long s0] (fX10_times_39 h x1 x3 s0 s1 s2) := by
    intro h x1 x3 s0 s1 s2 
    unfold fX10_times_39
    refine j_ldiv hC (dOk_at dt_X10_times 25 rfl) ?_
    refine j_lcmp hC (dOk_at dt_X10_times 26 rfl) ?_
    refine j_if_le hC (tgt := 48) (by decide) (dOk_at dt_X10_times 27 rfl) (fun q_7 => ?_) (fun q_7 => ?_)
    · exact b48 h x1 x3 
    · refine j_iconst hC (v := (1 : Int32)) rfl (dOk_at dt_X10_times 28 rfl) ?_
      refine j_goto hC (tgt := 49) (by decide) (dOk_at dt_X10_times 29 rfl) ?_
      exact b49 h x1 x3 (1 : Int32) 
  have b24 : ∀ (h : Hp) (x1 : Int64) (x3 : Int64) (s0 : Int64) , jJ p l e (rmD 0) s m args below meth c 6 sb D ids shp St (fun r => MQ below (jQl sb D ids shp St n r) args s 0 0 (jA sb)) n 0 0 h 24 [(0, .ref 107), (1, .long x1), (3, .long x3)] [.long s0] (fX10_times_24 h x1 x3 s0) := by
    intro h x1 x3 s0 
    unfold fX10_times_24
    refine j_ldc2 hC klX10_369 (dOk_at dt_X10_times 16 rfl) ?_
    refine j_lload_n hC 1 rfl rfl (dOk_at dt_X10_times 17 rfl) ?_
    refine j_lconst hC (v := (0 : Int64)) rfl (dOk_at dt_X10_times 18 rfl) ?_
    refine j_lcmp hC (dOk_at dt_X10_times 19 rfl) ?_
    refine j_if_ge hC (tgt := 38) (by decide) (dOk_at dt_X10_times 20 rfl) (fun q_4 => ?_) (fun q_4 => ?_)
    · refine j_lload_n hC 1 rfl rfl (dOk_at dt_X10_times 24 rfl) ?_
      exact b39 h x1 x3 s0 (1000000000000 : Int64) x1 
    · refine j_lload_n hC 1 rfl rfl (dOk_at dt_X10_times 21 rfl) ?_
      refine j_lneg hC (dOk_at dt_X10_times 22 rfl) ?_
      refine j_goto hC (tgt := 39) (by decide) (dOk_at dt_X10_times 23 rfl) ?_
      exact b39 h x1 x3 s0 (1000000000000 : Int64) (-x1) 
  unfold fX10_times
  refine j_lload_n hC 1 rfl rfl (dOk_at dt_X10_times 0 rfl) ?_
  refine j_lconst hC (v := (0 : Int64)) rfl (dOk_at dt_X10_times 1 rfl) ?_
  refine j_lcmp hC (dOk_at dt_X10_times 2 rfl) ?_
  refine j_if_eq hC (tgt := 48) (by decide) (dOk_at dt_X10_times 3 rfl) (fun q_1 => ?_) (fun q_1 => ?_)
  · exact b48 h x1 x3 
  · refine j_lload_n hC 2 rfl rfl (dOk_at dt_X10_times 4 rfl) ?_
    refine j_lconst hC (v := (0 : Int64)) rfl (dOk_at dt_X10_times 5 rfl) ?_
    refine j_lcmp hC (dOk_at dt_X10_times 6 rfl) ?_
    refine j_if_eq hC (tgt := 48) (by decide) (dOk_at dt_X10_times 7 rfl) (fun q_2 => ?_) (fun q_2 => ?_)
    · exact b48 h x1 x3 
    · refine j_lload_n hC 2 rfl rfl (dOk_at dt_X10_times 8 rfl) ?_
      refine j_lconst hC (v := (0 : Int64)) rfl (dOk_at dt_X10_times 9 rfl) ?_
      refine j_lcmp hC (dOk_at dt_X10_times 10 rfl) ?_
      refine j_if_ge hC (tgt := 23) (by decide) (dOk_at dt_X10_times 11 rfl) (fun q_3 => ?_) (fun q_3 => ?_)
      · refine j_lload_n hC 2 rfl rfl (dOk_at dt_X10_times 15 rfl) ?_
        exact b24 h x1 x3 x3 
      · refine j_lload_n hC 2 rfl rfl (dOk_at dt_X10_times 12 rfl) ?_
        refine j_lneg hC (dOk_at dt_X10_times 13 rfl) ?_
        refine j_goto hC (tgt := 24) (by decide) (dOk_at dt_X10_times 14 rfl) ?_
        exact b24 h x1 x3 (-x3) 
def tb_X10_valueOf : List (Nat × Instr × Nat) := [(0, .aload_n 0, 1), (1, .getfield 81, 3), (4, .iload_n 1, 1), (5, .iaload, 1), (6, .ifCond .ne 11, 3), (9, .aload_n 0, 1), (10, .getfield 84, 3), (13, .iload_n 1, 1), (14, .iaload, 1), (15, .i2l, 1), (16, .lreturn, 1), (17, .aload_n 0, 1), (18, .getfield 81, 3), (21, .iload_n 1, 1), (22, .iaload, 1), (23, .iconst 1, 1), (24, .if_icmp .ne 15, 3), (27, .aload_n 0, 1), (28, .getfield 96, 3), (31, .aload_n 0, 1), (32, .getfield 84, 3), (35, .iload_n 1, 1), (36, .iaload, 1), (37, .laload, 1), (38, .lreturn, 1), (39, .aload_n 0, 1), (40, .getfield 100, 3), (43, .aload_n 0, 1), (44, .getfield 84, 3), (47, .iload_n 1, 1), (48, .iaload, 1), (49, .laload, 1), (50, .lstore_n 2, 1), (51, .aload_n 0, 1), (52, .getfield 81, 3), (55, .iload_n 1, 1), (56, .iaload, 1), (57, .iconst 2, 1), (58, .if_icmp .ne 15, 3), (61, .lload_n 2, 1), (62, .lconst 0, 1), (63, .lcmp, 1), (64, .ifCond .ne 7, 3), (67, .lconst 1, 1), (68, .goto 4, 3), (71, .lconst 0, 1), (72, .lreturn, 1), (73, .aload_n 0, 1), (74, .getfield 100, 3), (77, .aload_n 0, 1), (78, .getfield 87, 3), (81, .iload_n 1, 1), (82, .iaload, 1), (83, .laload, 1), (84, .lstore 4, 2), (86, .aload_n 0, 1), (87, .getfield 81, 3), (90, .iload_n 1, 1), (91, .iaload, 1), (92, .tableswitch 167 3 14 #[64, 83, 167, 167, 167, 167, 167, 167, 102, 111, 120, 128], 64), (156, .lload_n 2, 1), (157, .lconst 0, 1), (158, .lcmp, 1), (159, .ifCond .eq 14, 3), (162, .lload 4, 2), (164, .lconst 0, 1), (165, .lcmp, 1), (166, .ifCond .eq 7, 3), (169, .lconst 1, 1), (170, .goto 4, 3), (173, .lconst 0, 1), (174, .lreturn, 1), (175, .lload_n 2, 1), (176, .lconst 0, 1), (177, .lcmp, 1), (178, .ifCond .ne 10, 3), (181, .lload 4, 2), (183, .lconst 0, 1), (184, .lcmp, 1), (185, .ifCond .eq 7, 3), (188, .lconst 1, 1), (189, .goto 4, 3), (192, .lconst 0, 1), (193, .lreturn, 1), (194, .aload_n 0, 1), (195, .lload_n 2, 1), (196, .lload 4, 2), (198, .ladd, 1), (199, .invokevirtual 373, 3), (202, .lreturn, 1), (203, .aload_n 0, 1), (204, .lload_n 2, 1), (205, .lload 4, 2), (207, .lsub, 1), (208, .invokevirtual 373, 3), (211, .lreturn, 1), (212, .aload_n 0, 1), (213, .lload_n 2, 1), (214, .lload 4, 2), (216, .invokevirtual 377, 3), (219, .lreturn, 1), (220, .aload_n 0, 1), (221, .aload_n 0, 1), (222, .getfield 366, 3), (225, .ifCond .ne 10, 3), (228, .lload 4, 2), (230, .lconst 0, 1), (231, .lcmp, 1), (232, .ifCond .ne 7, 3), (235, .iconst 1, 1), (236, .goto 4, 3), (239, .iconst 0, 1), (240, .putfield 366, 3), (243, .aload_n 0, 1), (244, .getfield 366, 3), (247, .ifCond .eq 7, 3), (250, .lconst 0, 1), (251, .goto 7, 3), (254, .lload_n 2, 1), (255, .lload 4, 2), (257, .ldiv, 1), (258, .lreturn, 1), (259, .aload_n 0, 1), (260, .getfield 81, 3), (263, .iload_n 1, 1), (264, .iaload, 1), (265, .lload_n 2, 1), (266, .lload 4, 2), (268, .invokestatic 381, 3), (271, .ifCond .eq 7, 3), (274, .lconst 1, 1), (275, .goto 4, 3), (278, .lconst 0, 1), (279, .lreturn, 1)]
theorem dt_X10_valueOf : dOk cX10_valueOf tb_X10_valueOf = true := by decide +kernel
def fX10_valueOf_259 (h : Hp) (x1 : Int32) (x2 : Int64) (x4 : Int64) : Option (Int64 × Hp) := if inb x1 128 then (bnd (fX10_compares h (hI h 130 (Int32.toNatClampNeg x1)) x2 x4) (fun v_29 h_30 => if v_29 = 0 then (some ((0 : Int64), h_30)) else (some ((1 : Int64), h_30)))) else none
def fX10_valueOf_240 (h : Hp) (x2 : Int64) (x4 : Int64) (s1 : Int32) : Option (Int64 × Hp) := if isZ s1 then (if (hI (uI h 107 59 s1) 107 59) = 0 then (if x4 = 0 then none else some ((x2 / x4), (uI h 107 59 s1))) else (some ((0 : Int64), (uI h 107 59 s1)))) else none
def fX10_valueOf_235 (h : Hp) (x2 : Int64) (x4 : Int64) : Option (Int64 × Hp) := fX10_valueOf_240 h x2 x4 (1 : Int32)
def fX10_valueOf (h : Hp) (x1 : Int32) : Option (Int64 × Hp) := if inb x1 128 then (if (hI h 130 (Int32.toNatClampNeg x1)) = 0 then (if inb x1 128 then (some ((Int32.toInt64 (hI h 131 (Int32.toNatClampNeg x1))), h)) else none) else (if inb x1 128 then (if (hI h 130 (Int32.toNatClampNeg x1)) = (1 : Int32) then (if inb x1 128 then (if inb (hI h 131 (Int32.toNatClampNeg x1)) 7 then (some ((hJ h 135 (Int32.toNatClampNeg (hI h 131 (Int32.toNatClampNeg x1)))), h)) else none) else none) else (if inb x1 128 then (if inb (hI h 131 (Int32.toNatClampNeg x1)) 64 then (if inb x1 128 then (if (hI h 130 (Int32.toNatClampNeg x1)) = (2 : Int32) then (if (lg_cmp (hJ h 136 (Int32.toNatClampNeg (hI h 131 (Int32.toNatClampNeg x1)))) (0 : Int64)) = 0 then (some ((1 : Int64), h)) else (some ((0 : Int64), h))) else (if inb x1 128 then (if inb (hI h 132 (Int32.toNatClampNeg x1)) 64 then (if inb x1 128 then (if inT (hI h 130 (Int32.toNatClampNeg x1)) 3 14 then (if (hI h 130 (Int32.toNatClampNeg x1)) = (3 : Int32) then (if (lg_cmp (hJ h 136 (Int32.toNatClampNeg (hI h 131 (Int32.toNatClampNeg x1)))) (0 : Int64)) = 0 then (some ((0 : Int64), h)) else (if (lg_cmp (hJ h 136 (Int32.toNatClampNeg (hI h 132 (Int32.toNatClampNeg x1)))) (0 : Int64)) = 0 then (some ((0 : Int64), h)) else (some ((1 : Int64), h)))) else (if (hI h 130 (Int32.toNatClampNeg x1)) = (4 : Int32) then (if (lg_cmp (hJ h 136 (Int32.toNatClampNeg (hI h 131 (Int32.toNatClampNeg x1)))) (0 : Int64)) = 0 then (if (lg_cmp (hJ h 136 (Int32.toNatClampNeg (hI h 132 (Int32.toNatClampNeg x1)))) (0 : Int64)) = 0 then (some ((0 : Int64), h)) else (some ((1 : Int64), h))) else (some ((1 : Int64), h))) else (if (hI h 130 (Int32.toNatClampNeg x1)) = (5 : Int32) then (fX10_valueOf_259 h x1 (hJ h 136 (Int32.toNatClampNeg (hI h 131 (Int32.toNatClampNeg x1)))) (hJ h 136 (Int32.toNatClampNeg (hI h 132 (Int32.toNatClampNeg x1))))) else (if (hI h 130 (Int32.toNatClampNeg x1)) = (6 : Int32) then (fX10_valueOf_259 h x1 (hJ h 136 (Int32.toNatClampNeg (hI h 131 (Int32.toNatClampNeg x1)))) (hJ h 136 (Int32.toNatClampNeg (hI h 132 (Int32.toNatClampNeg x1))))) else (if (hI h 130 (Int32.toNatClampNeg x1)) = (7 : Int32) then (fX10_valueOf_259 h x1 (hJ h 136 (Int32.toNatClampNeg (hI h 131 (Int32.toNatClampNeg x1)))) (hJ h 136 (Int32.toNatClampNeg (hI h 132 (Int32.toNatClampNeg x1))))) else (if (hI h 130 (Int32.toNatClampNeg x1)) = (8 : Int32) then (fX10_valueOf_259 h x1 (hJ h 136 (Int32.toNatClampNeg (hI h 131 (Int32.toNatClampNeg x1)))) (hJ h 136 (Int32.toNatClampNeg (hI h 132 (Int32.toNatClampNeg x1))))) else (if (hI h 130 (Int32.toNatClampNeg x1)) = (9 : Int32) then (fX10_valueOf_259 h x1 (hJ h 136 (Int32.toNatClampNeg (hI h 131 (Int32.toNatClampNeg x1)))) (hJ h 136 (Int32.toNatClampNeg (hI h 132 (Int32.toNatClampNeg x1))))) else (if (hI h 130 (Int32.toNatClampNeg x1)) = (10 : Int32) then (fX10_valueOf_259 h x1 (hJ h 136 (Int32.toNatClampNeg (hI h 131 (Int32.toNatClampNeg x1)))) (hJ h 136 (Int32.toNatClampNeg (hI h 132 (Int32.toNatClampNeg x1))))) else (if (hI h 130 (Int32.toNatClampNeg x1)) = (11 : Int32) then (bnd (fX10_bounded h ((hJ h 136 (Int32.toNatClampNeg (hI h 131 (Int32.toNatClampNeg x1)))) + (hJ h 136 (Int32.toNatClampNeg (hI h 132 (Int32.toNatClampNeg x1)))))) (fun v_17 h_18 => some (v_17, h_18))) else (if (hI h 130 (Int32.toNatClampNeg x1)) = (12 : Int32) then (bnd (fX10_bounded h ((hJ h 136 (Int32.toNatClampNeg (hI h 131 (Int32.toNatClampNeg x1)))) - (hJ h 136 (Int32.toNatClampNeg (hI h 132 (Int32.toNatClampNeg x1)))))) (fun v_20 h_21 => some (v_20, h_21))) else (if (hI h 130 (Int32.toNatClampNeg x1)) = (13 : Int32) then (bnd (fX10_times h (hJ h 136 (Int32.toNatClampNeg (hI h 131 (Int32.toNatClampNeg x1)))) (hJ h 136 (Int32.toNatClampNeg (hI h 132 (Int32.toNatClampNeg x1))))) (fun v_23 h_24 => some (v_23, h_24))) else (if (hI h 130 (Int32.toNatClampNeg x1)) = (14 : Int32) then (if (hI h 107 59) = 0 then (if (lg_cmp (hJ h 136 (Int32.toNatClampNeg (hI h 132 (Int32.toNatClampNeg x1)))) (0 : Int64)) = 0 then (fX10_valueOf_235 h (hJ h 136 (Int32.toNatClampNeg (hI h 131 (Int32.toNatClampNeg x1)))) (hJ h 136 (Int32.toNatClampNeg (hI h 132 (Int32.toNatClampNeg x1))))) else (fX10_valueOf_240 h (hJ h 136 (Int32.toNatClampNeg (hI h 131 (Int32.toNatClampNeg x1)))) (hJ h 136 (Int32.toNatClampNeg (hI h 132 (Int32.toNatClampNeg x1)))) (0 : Int32))) else (fX10_valueOf_235 h (hJ h 136 (Int32.toNatClampNeg (hI h 131 (Int32.toNatClampNeg x1)))) (hJ h 136 (Int32.toNatClampNeg (hI h 132 (Int32.toNatClampNeg x1)))))) else none)))))))))))) else (fX10_valueOf_259 h x1 (hJ h 136 (Int32.toNatClampNeg (hI h 131 (Int32.toNatClampNeg x1)))) (hJ h 136 (Int32.toNatClampNeg (hI h 132 (Int32.toNatClampNeg x1)))))) else none) else none) else none)) else none) else none) else none)) else none)) else none
set_option maxRecDepth 100000 in
set_option maxHeartbeats 4000000 in
theorem c_X10_valueOf {l : Launch} {sb : State} {D : va_G} {ids : Nat → ClassId} {n : Nat} (hN : 152 ≤ n) (h : Hp) (x1 : Int32) (r : Int64 × Hp) (hr : fX10_valueOf h x1 = some r) : jM l yX10_valueOf cX10_valueOf 6 (some .long) 1 sb D ids shp St n [.ref 107, .int x1] h (jQl sb D ids shp St n r) := by
  refine jM_of hr rfl (Nat.le_of_ble_eq_true rfl) ?_
  intro p e s m args below meth c hC hret
  have b259 : ∀ (h : Hp) (x1 : Int32) (x2 : Int64) (x4 : Int64) , jJ p l e (rmD 1) s m args below meth c 6 sb D ids shp St (fun r => MQ below (jQl sb D ids shp St n r) args s 0 0 (jA sb)) n 0 0 h 259 [(0, .ref 107), (1, .int x1), (2, .long x2), (4, .long x4)] [] (fX10_valueOf_259 h x1 x2 x4) := by
    intro h x1 x2 x4 
    unfold fX10_valueOf_259
    refine j_aload_n hC 0 rfl rfl (dOk_at dt_X10_valueOf 122 rfl) ?_
    refine j_getR hC flX10_81 (show shp 107 = (10, 88) from rfl) (Nat.lt_of_lt_of_le (Nat.le_of_ble_eq_true rfl : 107 < 152) hN) (by decide) (by decide) (fun _ _ _ => rfl) (fun hs => hs 107 46 130 rfl) (dOk_at dt_X10_valueOf 123 rfl) ?_
    refine j_iload_n hC 1 rfl rfl (dOk_at dt_X10_valueOf 124 rfl) ?_
    refine j_iald hC (show shp 130 = (21, 128) from rfl) (Nat.lt_of_lt_of_le (Nat.le_of_ble_eq_true rfl : 130 < 152) hN) (dOk_at dt_X10_valueOf 125 rfl) ?_
    refine j_lload_n hC 2 rfl rfl (dOk_at dt_X10_valueOf 126 rfl) ?_
    refine j_lload hC 3 rfl (dOk_at dt_X10_valueOf 127 rfl) ?_
    refine j_callSi hC clX10_381 (fun rz hrz => c_X10_compares hN _ _ _ _ rz hrz) rfl ⟨Nat.le_of_ble_eq_true rfl, Nat.le_of_ble_eq_true rfl⟩ ⟨Nat.le_refl 0, Nat.le_refl 0⟩ (As := [.int (hI h 130 (Int32.toNatClampNeg x1)), .long x2, .long x4]) (st := []) rfl (Nat.le_of_ble_eq_true rfl) (dOk_at dt_X10_valueOf 128 rfl) (fun v_29 h_30 _ => ?_)
    refine j_if_eq hC (tgt := 278) (by decide) (dOk_at dt_X10_valueOf 129 rfl) (fun q_31 => ?_) (fun q_31 => ?_)
    · refine j_lconst hC (v := (0 : Int64)) rfl (dOk_at dt_X10_valueOf 132 rfl) ?_
      exact j_lret hC hret (dOk_at dt_X10_valueOf 133 rfl)
    · refine j_lconst hC (v := (1 : Int64)) rfl (dOk_at dt_X10_valueOf 130 rfl) ?_
      refine j_goto hC (tgt := 279) (by decide) (dOk_at dt_X10_valueOf 131 rfl) ?_
      exact j_lret hC hret (dOk_at dt_X10_valueOf 133 rfl)
  have b240 : ∀ (h : Hp) (x2 : Int64) (x4 : Int64) (s1 : Int32) , jJ p l e (rmD 1) s m args below meth c 6 sb D ids shp St (fun r => MQ below (jQl sb D ids shp St n r) args s 0 0 (jA sb)) n 0 0 h 240 [(0, .ref 107), (2, .long x2), (4, .long x4)] [.int s1, .ref 107] (fX10_valueOf_240 h x2 x4 s1) := by
    intro h x2 x4 s1 
    unfold fX10_valueOf_240
    refine j_ite (P := isZ s1 = true) (fun hz_32 => ?_) (fun _ => j_none)
    refine j_putZ hC St_SP flX10_366 (show shp 107 = (10, 88) from rfl) (Nat.lt_of_lt_of_le (Nat.le_of_ble_eq_true rfl : 107 < 152) hN) (by decide) (by decide) rfl rfl hz_32 (dOk_at dt_X10_valueOf 112 rfl) ?_
    refine j_aload_n hC 0 rfl rfl (dOk_at dt_X10_valueOf 113 rfl) ?_
    refine j_getI hC flX10_366 (show shp 107 = (10, 88) from rfl) (Nat.lt_of_lt_of_le (Nat.le_of_ble_eq_true rfl : 107 < 152) hN) (by decide) (by decide) (fun _ _ _ => rfl) (dOk_at dt_X10_valueOf 114 rfl) ?_
    refine j_if_eq hC (tgt := 254) (by decide) (dOk_at dt_X10_valueOf 115 rfl) (fun q_33 => ?_) (fun q_33 => ?_)
    · refine j_lload_n hC 1 rfl rfl (dOk_at dt_X10_valueOf 118 rfl) ?_
      refine j_lload hC 2 rfl (dOk_at dt_X10_valueOf 119 rfl) ?_
      refine j_ldiv hC (dOk_at dt_X10_valueOf 120 rfl) ?_
      exact j_lret hC hret (dOk_at dt_X10_valueOf 121 rfl)
    · refine j_lconst hC (v := (0 : Int64)) rfl (dOk_at dt_X10_valueOf 116 rfl) ?_
      refine j_goto hC (tgt := 258) (by decide) (dOk_at dt_X10_valueOf 117 rfl) ?_
      exact j_lret hC hret (dOk_at dt_X10_valueOf 121 rfl)
  have b235 : ∀ (h : Hp) (x2 : Int64) (x4 : Int64) , jJ p l e (rmD 1) s m args below meth c 6 sb D ids shp St (fun r => MQ below (jQl sb D ids shp St n r) args s 0 0 (jA sb)) n 0 0 h 235 [(0, .ref 107), (2, .long x2), (4, .long x4)] [.ref 107] (fX10_valueOf_235 h x2 x4) := by
    intro h x2 x4 
    unfold fX10_valueOf_235
    refine j_iconst hC (v := (1 : Int32)) rfl (dOk_at dt_X10_valueOf 109 rfl) ?_
    refine j_goto hC (tgt := 240) (by decide) (dOk_at dt_X10_valueOf 110 rfl) ?_
    exact b240 h x2 x4 (1 : Int32) 
  unfold fX10_valueOf
  refine j_aload_n hC 0 rfl rfl (dOk_at dt_X10_valueOf 0 rfl) ?_
  refine j_getR hC flX10_81 (show shp 107 = (10, 88) from rfl) (Nat.lt_of_lt_of_le (Nat.le_of_ble_eq_true rfl : 107 < 152) hN) (by decide) (by decide) (fun _ _ _ => rfl) (fun hs => hs 107 46 130 rfl) (dOk_at dt_X10_valueOf 1 rfl) ?_
  refine j_iload_n hC 1 rfl rfl (dOk_at dt_X10_valueOf 2 rfl) ?_
  refine j_iald hC (show shp 130 = (21, 128) from rfl) (Nat.lt_of_lt_of_le (Nat.le_of_ble_eq_true rfl : 130 < 152) hN) (dOk_at dt_X10_valueOf 3 rfl) ?_
  refine j_if_ne hC (tgt := 17) (by decide) (dOk_at dt_X10_valueOf 4 rfl) (fun q_1 => ?_) (fun q_1 => ?_)
  · refine j_aload_n hC 0 rfl rfl (dOk_at dt_X10_valueOf 11 rfl) ?_
    refine j_getR hC flX10_81 (show shp 107 = (10, 88) from rfl) (Nat.lt_of_lt_of_le (Nat.le_of_ble_eq_true rfl : 107 < 152) hN) (by decide) (by decide) (fun _ _ _ => rfl) (fun hs => hs 107 46 130 rfl) (dOk_at dt_X10_valueOf 12 rfl) ?_
    refine j_iload_n hC 1 rfl rfl (dOk_at dt_X10_valueOf 13 rfl) ?_
    refine j_iald hC (show shp 130 = (21, 128) from rfl) (Nat.lt_of_lt_of_le (Nat.le_of_ble_eq_true rfl : 130 < 152) hN) (dOk_at dt_X10_valueOf 14 rfl) ?_
    refine j_iconst hC (v := (1 : Int32)) rfl (dOk_at dt_X10_valueOf 15 rfl) ?_
    refine j_icmp_ne hC (tgt := 39) (by decide) (dOk_at dt_X10_valueOf 16 rfl) (fun q_2 => ?_) (fun q_2 => ?_)
    · refine j_aload_n hC 0 rfl rfl (dOk_at dt_X10_valueOf 25 rfl) ?_
      refine j_getR hC flX10_100 (show shp 107 = (10, 88) from rfl) (Nat.lt_of_lt_of_le (Nat.le_of_ble_eq_true rfl : 107 < 152) hN) (by decide) (by decide) (fun _ _ _ => rfl) (fun hs => hs 107 58 136 rfl) (dOk_at dt_X10_valueOf 26 rfl) ?_
      refine j_aload_n hC 0 rfl rfl (dOk_at dt_X10_valueOf 27 rfl) ?_
      refine j_getR hC flX10_84 (show shp 107 = (10, 88) from rfl) (Nat.lt_of_lt_of_le (Nat.le_of_ble_eq_true rfl : 107 < 152) hN) (by decide) (by decide) (fun _ _ _ => rfl) (fun hs => hs 107 47 131 rfl) (dOk_at dt_X10_valueOf 28 rfl) ?_
      refine j_iload_n hC 1 rfl rfl (dOk_at dt_X10_valueOf 29 rfl) ?_
      refine j_iald hC (show shp 131 = (21, 128) from rfl) (Nat.lt_of_lt_of_le (Nat.le_of_ble_eq_true rfl : 131 < 152) hN) (dOk_at dt_X10_valueOf 30 rfl) ?_
      refine j_lald hC (show shp 136 = (22, 64) from rfl) (Nat.lt_of_lt_of_le (Nat.le_of_ble_eq_true rfl : 136 < 152) hN) (dOk_at dt_X10_valueOf 31 rfl) ?_
      refine j_lstore_n hC rfl (lv' := [(2, .long (hJ h 136 (Int32.toNatClampNeg (hI h 131 (Int32.toNatClampNeg x1))))), (0, .ref 107), (1, .int x1)]) (by decide) rfl (dOk_at dt_X10_valueOf 32 rfl) ?_
      refine j_aload_n hC 1 rfl rfl (dOk_at dt_X10_valueOf 33 rfl) ?_
      refine j_getR hC flX10_81 (show shp 107 = (10, 88) from rfl) (Nat.lt_of_lt_of_le (Nat.le_of_ble_eq_true rfl : 107 < 152) hN) (by decide) (by decide) (fun _ _ _ => rfl) (fun hs => hs 107 46 130 rfl) (dOk_at dt_X10_valueOf 34 rfl) ?_
      refine j_iload_n hC 2 rfl rfl (dOk_at dt_X10_valueOf 35 rfl) ?_
      refine j_iald hC (show shp 130 = (21, 128) from rfl) (Nat.lt_of_lt_of_le (Nat.le_of_ble_eq_true rfl : 130 < 152) hN) (dOk_at dt_X10_valueOf 36 rfl) ?_
      refine j_iconst hC (v := (2 : Int32)) rfl (dOk_at dt_X10_valueOf 37 rfl) ?_
      refine j_icmp_ne hC (tgt := 73) (by decide) (dOk_at dt_X10_valueOf 38 rfl) (fun q_3 => ?_) (fun q_3 => ?_)
      · refine j_aload_n hC 1 rfl rfl (dOk_at dt_X10_valueOf 47 rfl) ?_
        refine j_getR hC flX10_100 (show shp 107 = (10, 88) from rfl) (Nat.lt_of_lt_of_le (Nat.le_of_ble_eq_true rfl : 107 < 152) hN) (by decide) (by decide) (fun _ _ _ => rfl) (fun hs => hs 107 58 136 rfl) (dOk_at dt_X10_valueOf 48 rfl) ?_
        refine j_aload_n hC 1 rfl rfl (dOk_at dt_X10_valueOf 49 rfl) ?_
        refine j_getR hC flX10_87 (show shp 107 = (10, 88) from rfl) (Nat.lt_of_lt_of_le (Nat.le_of_ble_eq_true rfl : 107 < 152) hN) (by decide) (by decide) (fun _ _ _ => rfl) (fun hs => hs 107 48 132 rfl) (dOk_at dt_X10_valueOf 50 rfl) ?_
        refine j_iload_n hC 2 rfl rfl (dOk_at dt_X10_valueOf 51 rfl) ?_
        refine j_iald hC (show shp 132 = (21, 128) from rfl) (Nat.lt_of_lt_of_le (Nat.le_of_ble_eq_true rfl : 132 < 152) hN) (dOk_at dt_X10_valueOf 52 rfl) ?_
        refine j_lald hC (show shp 136 = (22, 64) from rfl) (Nat.lt_of_lt_of_le (Nat.le_of_ble_eq_true rfl : 136 < 152) hN) (dOk_at dt_X10_valueOf 53 rfl) ?_
        refine j_lstore hC (lv' := [(4, .long (hJ h 136 (Int32.toNatClampNeg (hI h 132 (Int32.toNatClampNeg x1))))), (2, .long (hJ h 136 (Int32.toNatClampNeg (hI h 131 (Int32.toNatClampNeg x1))))), (0, .ref 107), (1, .int x1)]) (by decide) rfl (dOk_at dt_X10_valueOf 54 rfl) ?_
        refine j_aload_n hC 2 rfl rfl (dOk_at dt_X10_valueOf 55 rfl) ?_
        refine j_getR hC flX10_81 (show shp 107 = (10, 88) from rfl) (Nat.lt_of_lt_of_le (Nat.le_of_ble_eq_true rfl : 107 < 152) hN) (by decide) (by decide) (fun _ _ _ => rfl) (fun hs => hs 107 46 130 rfl) (dOk_at dt_X10_valueOf 56 rfl) ?_
        refine j_iload_n hC 3 rfl rfl (dOk_at dt_X10_valueOf 57 rfl) ?_
        refine j_iald hC (show shp 130 = (21, 128) from rfl) (Nat.lt_of_lt_of_le (Nat.le_of_ble_eq_true rfl : 130 < 152) hN) (dOk_at dt_X10_valueOf 58 rfl) ?_
        refine j_ite (P := inT (hI h 130 (Int32.toNatClampNeg x1)) 3 14 = true) (fun _ => ?_) (fun q => ?_)
        · refine j_ite (P := (hI h 130 (Int32.toNatClampNeg x1)) = (3 : Int32)) (fun q_4 => ?_) (fun _ => ?_)
          · refine j_tswIn hC (tgt := 156) q_4 (by decide) (by decide) rfl (by decide) (dOk_at dt_X10_valueOf 59 rfl) ?_
            refine j_lload_n hC 1 rfl rfl (dOk_at dt_X10_valueOf 60 rfl) ?_
            refine j_lconst hC (v := (0 : Int64)) rfl (dOk_at dt_X10_valueOf 61 rfl) ?_
            refine j_lcmp hC (dOk_at dt_X10_valueOf 62 rfl) ?_
            refine j_if_eq hC (tgt := 173) (by decide) (dOk_at dt_X10_valueOf 63 rfl) (fun q_5 => ?_) (fun q_5 => ?_)
            · refine j_lconst hC (v := (0 : Int64)) rfl (dOk_at dt_X10_valueOf 70 rfl) ?_
              exact j_lret hC hret (dOk_at dt_X10_valueOf 71 rfl)
            · refine j_lload hC 0 rfl (dOk_at dt_X10_valueOf 64 rfl) ?_
              refine j_lconst hC (v := (0 : Int64)) rfl (dOk_at dt_X10_valueOf 65 rfl) ?_
              refine j_lcmp hC (dOk_at dt_X10_valueOf 66 rfl) ?_
              refine j_if_eq hC (tgt := 173) (by decide) (dOk_at dt_X10_valueOf 67 rfl) (fun q_6 => ?_) (fun q_6 => ?_)
              · refine j_lconst hC (v := (0 : Int64)) rfl (dOk_at dt_X10_valueOf 70 rfl) ?_
                exact j_lret hC hret (dOk_at dt_X10_valueOf 71 rfl)
              · refine j_lconst hC (v := (1 : Int64)) rfl (dOk_at dt_X10_valueOf 68 rfl) ?_
                refine j_goto hC (tgt := 174) (by decide) (dOk_at dt_X10_valueOf 69 rfl) ?_
                exact j_lret hC hret (dOk_at dt_X10_valueOf 71 rfl)
          refine j_ite (P := (hI h 130 (Int32.toNatClampNeg x1)) = (4 : Int32)) (fun q_7 => ?_) (fun _ => ?_)
          · refine j_tswIn hC (tgt := 175) q_7 (by decide) (by decide) rfl (by decide) (dOk_at dt_X10_valueOf 59 rfl) ?_
            refine j_lload_n hC 1 rfl rfl (dOk_at dt_X10_valueOf 72 rfl) ?_
            refine j_lconst hC (v := (0 : Int64)) rfl (dOk_at dt_X10_valueOf 73 rfl) ?_
            refine j_lcmp hC (dOk_at dt_X10_valueOf 74 rfl) ?_
            refine j_if_ne hC (tgt := 188) (by decide) (dOk_at dt_X10_valueOf 75 rfl) (fun q_8 => ?_) (fun q_8 => ?_)
            · refine j_lconst hC (v := (1 : Int64)) rfl (dOk_at dt_X10_valueOf 80 rfl) ?_
              refine j_goto hC (tgt := 193) (by decide) (dOk_at dt_X10_valueOf 81 rfl) ?_
              exact j_lret hC hret (dOk_at dt_X10_valueOf 83 rfl)
            · refine j_lload hC 0 rfl (dOk_at dt_X10_valueOf 76 rfl) ?_
              refine j_lconst hC (v := (0 : Int64)) rfl (dOk_at dt_X10_valueOf 77 rfl) ?_
              refine j_lcmp hC (dOk_at dt_X10_valueOf 78 rfl) ?_
              refine j_if_eq hC (tgt := 192) (by decide) (dOk_at dt_X10_valueOf 79 rfl) (fun q_9 => ?_) (fun q_9 => ?_)
              · refine j_lconst hC (v := (0 : Int64)) rfl (dOk_at dt_X10_valueOf 82 rfl) ?_
                exact j_lret hC hret (dOk_at dt_X10_valueOf 83 rfl)
              · refine j_lconst hC (v := (1 : Int64)) rfl (dOk_at dt_X10_valueOf 80 rfl) ?_
                refine j_goto hC (tgt := 193) (by decide) (dOk_at dt_X10_valueOf 81 rfl) ?_
                exact j_lret hC hret (dOk_at dt_X10_valueOf 83 rfl)
          refine j_ite (P := (hI h 130 (Int32.toNatClampNeg x1)) = (5 : Int32)) (fun q_10 => ?_) (fun _ => ?_)
          · refine j_tswIn hC (tgt := 259) q_10 (by decide) (by decide) rfl (by decide) (dOk_at dt_X10_valueOf 59 rfl) ?_
            refine j_sub [2, 3, 1, 0] rfl ?_
            exact b259 h x1 (hJ h 136 (Int32.toNatClampNeg (hI h 131 (Int32.toNatClampNeg x1)))) (hJ h 136 (Int32.toNatClampNeg (hI h 132 (Int32.toNatClampNeg x1)))) 
          refine j_ite (P := (hI h 130 (Int32.toNatClampNeg x1)) = (6 : Int32)) (fun q_11 => ?_) (fun _ => ?_)
          · refine j_tswIn hC (tgt := 259) q_11 (by decide) (by decide) rfl (by decide) (dOk_at dt_X10_valueOf 59 rfl) ?_
            refine j_sub [2, 3, 1, 0] rfl ?_
            exact b259 h x1 (hJ h 136 (Int32.toNatClampNeg (hI h 131 (Int32.toNatClampNeg x1)))) (hJ h 136 (Int32.toNatClampNeg (hI h 132 (Int32.toNatClampNeg x1)))) 
          refine j_ite (P := (hI h 130 (Int32.toNatClampNeg x1)) = (7 : Int32)) (fun q_12 => ?_) (fun _ => ?_)
          · refine j_tswIn hC (tgt := 259) q_12 (by decide) (by decide) rfl (by decide) (dOk_at dt_X10_valueOf 59 rfl) ?_
            refine j_sub [2, 3, 1, 0] rfl ?_
            exact b259 h x1 (hJ h 136 (Int32.toNatClampNeg (hI h 131 (Int32.toNatClampNeg x1)))) (hJ h 136 (Int32.toNatClampNeg (hI h 132 (Int32.toNatClampNeg x1)))) 
          refine j_ite (P := (hI h 130 (Int32.toNatClampNeg x1)) = (8 : Int32)) (fun q_13 => ?_) (fun _ => ?_)
          · refine j_tswIn hC (tgt := 259) q_13 (by decide) (by decide) rfl (by decide) (dOk_at dt_X10_valueOf 59 rfl) ?_
            refine j_sub [2, 3, 1, 0] rfl ?_
            exact b259 h x1 (hJ h 136 (Int32.toNatClampNeg (hI h 131 (Int32.toNatClampNeg x1)))) (hJ h 136 (Int32.toNatClampNeg (hI h 132 (Int32.toNatClampNeg x1)))) 
          refine j_ite (P := (hI h 130 (Int32.toNatClampNeg x1)) = (9 : Int32)) (fun q_14 => ?_) (fun _ => ?_)
          · refine j_tswIn hC (tgt := 259) q_14 (by decide) (by decide) rfl (by decide) (dOk_at dt_X10_valueOf 59 rfl) ?_
            refine j_sub [2, 3, 1, 0] rfl ?_
            exact b259 h x1 (hJ h 136 (Int32.toNatClampNeg (hI h 131 (Int32.toNatClampNeg x1)))) (hJ h 136 (Int32.toNatClampNeg (hI h 132 (Int32.toNatClampNeg x1)))) 
          refine j_ite (P := (hI h 130 (Int32.toNatClampNeg x1)) = (10 : Int32)) (fun q_15 => ?_) (fun _ => ?_)
          · refine j_tswIn hC (tgt := 259) q_15 (by decide) (by decide) rfl (by decide) (dOk_at dt_X10_valueOf 59 rfl) ?_
            refine j_sub [2, 3, 1, 0] rfl ?_
            exact b259 h x1 (hJ h 136 (Int32.toNatClampNeg (hI h 131 (Int32.toNatClampNeg x1)))) (hJ h 136 (Int32.toNatClampNeg (hI h 132 (Int32.toNatClampNeg x1)))) 
          refine j_ite (P := (hI h 130 (Int32.toNatClampNeg x1)) = (11 : Int32)) (fun q_16 => ?_) (fun _ => ?_)
          · refine j_tswIn hC (tgt := 194) q_16 (by decide) (by decide) rfl (by decide) (dOk_at dt_X10_valueOf 59 rfl) ?_
            refine j_aload_n hC 2 rfl rfl (dOk_at dt_X10_valueOf 84 rfl) ?_
            refine j_lload_n hC 1 rfl rfl (dOk_at dt_X10_valueOf 85 rfl) ?_
            refine j_lload hC 0 rfl (dOk_at dt_X10_valueOf 86 rfl) ?_
            refine j_ladd hC (dOk_at dt_X10_valueOf 87 rfl) ?_
            refine j_callVl hC clX10_373 (fun rz hrz => c_X10_bounded hN _ _ rz hrz) (show shp 107 = (10, 88) from rfl) (Nat.lt_of_lt_of_le (Nat.le_of_ble_eq_true rfl : 107 < 152) hN) (by decide) rfl rfl ⟨Nat.le_of_ble_eq_true rfl, Nat.le_of_ble_eq_true rfl⟩ ⟨Nat.le_refl 0, Nat.le_refl 0⟩ (As := [.long ((hJ h 136 (Int32.toNatClampNeg (hI h 131 (Int32.toNatClampNeg x1)))) + (hJ h 136 (Int32.toNatClampNeg (hI h 132 (Int32.toNatClampNeg x1)))))]) (st := []) rfl (Nat.le_of_ble_eq_true rfl) (dOk_at dt_X10_valueOf 88 rfl) (fun v_17 h_18 _ => ?_)
            exact j_lret hC hret (dOk_at dt_X10_valueOf 89 rfl)
          refine j_ite (P := (hI h 130 (Int32.toNatClampNeg x1)) = (12 : Int32)) (fun q_19 => ?_) (fun _ => ?_)
          · refine j_tswIn hC (tgt := 203) q_19 (by decide) (by decide) rfl (by decide) (dOk_at dt_X10_valueOf 59 rfl) ?_
            refine j_aload_n hC 2 rfl rfl (dOk_at dt_X10_valueOf 90 rfl) ?_
            refine j_lload_n hC 1 rfl rfl (dOk_at dt_X10_valueOf 91 rfl) ?_
            refine j_lload hC 0 rfl (dOk_at dt_X10_valueOf 92 rfl) ?_
            refine j_lsub hC (dOk_at dt_X10_valueOf 93 rfl) ?_
            refine j_callVl hC clX10_373 (fun rz hrz => c_X10_bounded hN _ _ rz hrz) (show shp 107 = (10, 88) from rfl) (Nat.lt_of_lt_of_le (Nat.le_of_ble_eq_true rfl : 107 < 152) hN) (by decide) rfl rfl ⟨Nat.le_of_ble_eq_true rfl, Nat.le_of_ble_eq_true rfl⟩ ⟨Nat.le_refl 0, Nat.le_refl 0⟩ (As := [.long ((hJ h 136 (Int32.toNatClampNeg (hI h 131 (Int32.toNatClampNeg x1)))) - (hJ h 136 (Int32.toNatClampNeg (hI h 132 (Int32.toNatClampNeg x1)))))]) (st := []) rfl (Nat.le_of_ble_eq_true rfl) (dOk_at dt_X10_valueOf 94 rfl) (fun v_20 h_21 _ => ?_)
            exact j_lret hC hret (dOk_at dt_X10_valueOf 95 rfl)
          refine j_ite (P := (hI h 130 (Int32.toNatClampNeg x1)) = (13 : Int32)) (fun q_22 => ?_) (fun _ => ?_)
          · refine j_tswIn hC (tgt := 212) q_22 (by decide) (by decide) rfl (by decide) (dOk_at dt_X10_valueOf 59 rfl) ?_
            refine j_aload_n hC 2 rfl rfl (dOk_at dt_X10_valueOf 96 rfl) ?_
            refine j_lload_n hC 1 rfl rfl (dOk_at dt_X10_valueOf 97 rfl) ?_
            refine j_lload hC 0 rfl (dOk_at dt_X10_valueOf 98 rfl) ?_
            refine j_callVl hC clX10_377 (fun rz hrz => c_X10_times hN _ _ _ rz hrz) (show shp 107 = (10, 88) from rfl) (Nat.lt_of_lt_of_le (Nat.le_of_ble_eq_true rfl : 107 < 152) hN) (by decide) rfl rfl ⟨Nat.le_of_ble_eq_true rfl, Nat.le_of_ble_eq_true rfl⟩ ⟨Nat.le_refl 0, Nat.le_refl 0⟩ (As := [.long (hJ h 136 (Int32.toNatClampNeg (hI h 131 (Int32.toNatClampNeg x1)))), .long (hJ h 136 (Int32.toNatClampNeg (hI h 132 (Int32.toNatClampNeg x1))))]) (st := []) rfl (Nat.le_of_ble_eq_true rfl) (dOk_at dt_X10_valueOf 99 rfl) (fun v_23 h_24 _ => ?_)
            exact j_lret hC hret (dOk_at dt_X10_valueOf 100 rfl)
          refine j_ite (P := (hI h 130 (Int32.toNatClampNeg x1)) = (14 : Int32)) (fun q_25 => ?_) (fun _ => ?_)
          · refine j_tswIn hC (tgt := 220) q_25 (by decide) (by decide) rfl (by decide) (dOk_at dt_X10_valueOf 59 rfl) ?_
            refine j_aload_n hC 2 rfl rfl (dOk_at dt_X10_valueOf 101 rfl) ?_
            refine j_aload_n hC 2 rfl rfl (dOk_at dt_X10_valueOf 102 rfl) ?_
            refine j_getI hC flX10_366 (show shp 107 = (10, 88) from rfl) (Nat.lt_of_lt_of_le (Nat.le_of_ble_eq_true rfl : 107 < 152) hN) (by decide) (by decide) (fun _ _ _ => rfl) (dOk_at dt_X10_valueOf 103 rfl) ?_
            refine j_if_ne hC (tgt := 235) (by decide) (dOk_at dt_X10_valueOf 104 rfl) (fun q_26 => ?_) (fun q_26 => ?_)
            · refine j_sub [2, 1, 0] rfl ?_
              exact b235 h (hJ h 136 (Int32.toNatClampNeg (hI h 131 (Int32.toNatClampNeg x1)))) (hJ h 136 (Int32.toNatClampNeg (hI h 132 (Int32.toNatClampNeg x1)))) 
            · refine j_lload hC 0 rfl (dOk_at dt_X10_valueOf 105 rfl) ?_
              refine j_lconst hC (v := (0 : Int64)) rfl (dOk_at dt_X10_valueOf 106 rfl) ?_
              refine j_lcmp hC (dOk_at dt_X10_valueOf 107 rfl) ?_
              refine j_if_ne hC (tgt := 239) (by decide) (dOk_at dt_X10_valueOf 108 rfl) (fun q_27 => ?_) (fun q_27 => ?_)
              · refine j_iconst hC (v := (0 : Int32)) rfl (dOk_at dt_X10_valueOf 111 rfl) ?_
                refine j_sub [2, 1, 0] rfl ?_
                exact b240 h (hJ h 136 (Int32.toNatClampNeg (hI h 131 (Int32.toNatClampNeg x1)))) (hJ h 136 (Int32.toNatClampNeg (hI h 132 (Int32.toNatClampNeg x1)))) (0 : Int32) 
              · refine j_sub [2, 1, 0] rfl ?_
                exact b235 h (hJ h 136 (Int32.toNatClampNeg (hI h 131 (Int32.toNatClampNeg x1)))) (hJ h 136 (Int32.toNatClampNeg (hI h 132 (Int32.toNatClampNeg x1)))) 
          exact j_none
        · refine j_tswOut hC (tgt := 259) q (by decide) (dOk_at dt_X10_valueOf 59 rfl) ?_
          refine j_sub [2, 3, 1, 0] rfl ?_
          exact b259 h x1 (hJ h 136 (Int32.toNatClampNeg (hI h 131 (Int32.toNatClampNeg x1)))) (hJ h 136 (Int32.toNatClampNeg (hI h 132 (Int32.toNatClampNeg x1)))) 
      · refine j_lload_n hC 0 rfl rfl (dOk_at dt_X10_valueOf 39 rfl) ?_
        refine j_lconst hC (v := (0 : Int64)) rfl (dOk_at dt_X10_valueOf 40 rfl) ?_
        refine j_lcmp hC (dOk_at dt_X10_valueOf 41 rfl) ?_
        refine j_if_ne hC (tgt := 71) (by decide) (dOk_at dt_X10_valueOf 42 rfl) (fun q_28 => ?_) (fun q_28 => ?_)
        · refine j_lconst hC (v := (0 : Int64)) rfl (dOk_at dt_X10_valueOf 45 rfl) ?_
          exact j_lret hC hret (dOk_at dt_X10_valueOf 46 rfl)
        · refine j_lconst hC (v := (1 : Int64)) rfl (dOk_at dt_X10_valueOf 43 rfl) ?_
          refine j_goto hC (tgt := 72) (by decide) (dOk_at dt_X10_valueOf 44 rfl) ?_
          exact j_lret hC hret (dOk_at dt_X10_valueOf 46 rfl)
    · refine j_aload_n hC 0 rfl rfl (dOk_at dt_X10_valueOf 17 rfl) ?_
      refine j_getR hC flX10_96 (show shp 107 = (10, 88) from rfl) (Nat.lt_of_lt_of_le (Nat.le_of_ble_eq_true rfl : 107 < 152) hN) (by decide) (by decide) (fun _ _ _ => rfl) (fun hs => hs 107 57 135 rfl) (dOk_at dt_X10_valueOf 18 rfl) ?_
      refine j_aload_n hC 0 rfl rfl (dOk_at dt_X10_valueOf 19 rfl) ?_
      refine j_getR hC flX10_84 (show shp 107 = (10, 88) from rfl) (Nat.lt_of_lt_of_le (Nat.le_of_ble_eq_true rfl : 107 < 152) hN) (by decide) (by decide) (fun _ _ _ => rfl) (fun hs => hs 107 47 131 rfl) (dOk_at dt_X10_valueOf 20 rfl) ?_
      refine j_iload_n hC 1 rfl rfl (dOk_at dt_X10_valueOf 21 rfl) ?_
      refine j_iald hC (show shp 131 = (21, 128) from rfl) (Nat.lt_of_lt_of_le (Nat.le_of_ble_eq_true rfl : 131 < 152) hN) (dOk_at dt_X10_valueOf 22 rfl) ?_
      refine j_lald hC (show shp 135 = (22, 7) from rfl) (Nat.lt_of_lt_of_le (Nat.le_of_ble_eq_true rfl : 135 < 152) hN) (dOk_at dt_X10_valueOf 23 rfl) ?_
      exact j_lret hC hret (dOk_at dt_X10_valueOf 24 rfl)
  · refine j_aload_n hC 0 rfl rfl (dOk_at dt_X10_valueOf 5 rfl) ?_
    refine j_getR hC flX10_84 (show shp 107 = (10, 88) from rfl) (Nat.lt_of_lt_of_le (Nat.le_of_ble_eq_true rfl : 107 < 152) hN) (by decide) (by decide) (fun _ _ _ => rfl) (fun hs => hs 107 47 131 rfl) (dOk_at dt_X10_valueOf 6 rfl) ?_
    refine j_iload_n hC 1 rfl rfl (dOk_at dt_X10_valueOf 7 rfl) ?_
    refine j_iald hC (show shp 131 = (21, 128) from rfl) (Nat.lt_of_lt_of_le (Nat.le_of_ble_eq_true rfl : 131 < 152) hN) (dOk_at dt_X10_valueOf 8 rfl) ?_
    refine j_i2l hC (dOk_at dt_X10_valueOf 9 rfl) ?_
    exact j_lret hC hret (dOk_at dt_X10_valueOf 10 rfl)
def tb_X10_layTried : List (Nat × Instr × Nat) := [(0, .iconst 0, 1), (1, .istore_n 1, 1), (2, .iload_n 1, 1), (3, .iconst 5, 1), (4, .if_icmp .ge 79, 3), (7, .aload_n 0, 1), (8, .getfield 103, 3), (11, .iconst 5, 1), (12, .iload_n 1, 1), (13, .iadd, 1), (14, .aload_n 0, 1), (15, .getfield 103, 3), (18, .iload_n 1, 1), (19, .iaload, 1), (20, .iastore, 1), (21, .aload_n 0, 1), (22, .getfield 106, 3), (25, .iconst 5, 1), (26, .iload_n 1, 1), (27, .iadd, 1), (28, .aload_n 0, 1), (29, .getfield 106, 3), (32, .iload_n 1, 1), (33, .baload, 1), (34, .bastore, 1), (35, .aload_n 0, 1), (36, .getfield 109, 3), (39, .iconst 5, 1), (40, .iload_n 1, 1), (41, .iadd, 1), (42, .aload_n 0, 1), (43, .getfield 109, 3), (46, .iload_n 1, 1), (47, .iaload, 1), (48, .iastore, 1), (49, .aload_n 0, 1), (50, .getfield 112, 3), (53, .iconst 5, 1), (54, .iload_n 1, 1), (55, .iadd, 1), (56, .aload_n 0, 1), (57, .getfield 112, 3), (60, .iload_n 1, 1), (61, .iaload, 1), (62, .iastore, 1), (63, .aload_n 0, 1), (64, .getfield 115, 3), (67, .iconst 5, 1), (68, .iload_n 1, 1), (69, .iadd, 1), (70, .aload_n 0, 1), (71, .getfield 115, 3), (74, .iload_n 1, 1), (75, .iaload, 1), (76, .iastore, 1), (77, .iinc 1 1, 3), (80, .goto (-78), 3), (83, .aload_n 0, 1), (84, .getfield 118, 3), (87, .iconst 1, 1), (88, .aload_n 0, 1), (89, .getfield 118, 3), (92, .iconst 0, 1), (93, .iaload, 1), (94, .iastore, 1), (95, .aload_n 0, 1), (96, .getfield 121, 3), (99, .iconst 1, 1), (100, .aload_n 0, 1), (101, .getfield 121, 3), (104, .iconst 0, 1), (105, .iaload, 1), (106, .iastore, 1), (107, .aload_n 0, 1), (108, .invokevirtual 392, 3), (111, .return_, 1)]
theorem dt_X10_layTried : dOk cX10_layTried tb_X10_layTried = true := by decide +kernel
def fX10_layTried_2 : Nat → Hp → Int32 → Option (Hp)
  | 0, _, _ => none
  | fu + 1, h, x1 => if (5 : Int32) ≤ x1 then (if inb (0 : Int32) 2 then (if inb (1 : Int32) 2 then (if inb (0 : Int32) 2 then (if inb (1 : Int32) 2 then ((fX10_plainTried (uI (uI h 142 (Int32.toNatClampNeg (1 : Int32)) (hI h 142 (Int32.toNatClampNeg (0 : Int32)))) 143 (Int32.toNatClampNeg (1 : Int32)) (hI (uI h 142 (Int32.toNatClampNeg (1 : Int32)) (hI h 142 (Int32.toNatClampNeg (0 : Int32)))) 143 (Int32.toNatClampNeg (0 : Int32))))).bind (fun h_3 => some h_3)) else none) else none) else none) else none) else (if inb x1 10 then (if inb ((5 : Int32) + x1) 10 then (if inb x1 10 then (if isZ (hI (uI h 137 (Int32.toNatClampNeg ((5 : Int32) + x1)) (hI h 137 (Int32.toNatClampNeg x1))) 138 (Int32.toNatClampNeg x1)) then (if inb ((5 : Int32) + x1) 10 then (if inb x1 10 then (if inb ((5 : Int32) + x1) 10 then (if inb x1 10 then (if inb ((5 : Int32) + x1) 10 then (if inb x1 10 then (if inb ((5 : Int32) + x1) 10 then ((fX10_layTried_2 fu) (uI (uI (uI (uI (uI h 137 (Int32.toNatClampNeg ((5 : Int32) + x1)) (hI h 137 (Int32.toNatClampNeg x1))) 138 (Int32.toNatClampNeg ((5 : Int32) + x1)) (hI (uI h 137 (Int32.toNatClampNeg ((5 : Int32) + x1)) (hI h 137 (Int32.toNatClampNeg x1))) 138 (Int32.toNatClampNeg x1))) 139 (Int32.toNatClampNeg ((5 : Int32) + x1)) (hI (uI (uI h 137 (Int32.toNatClampNeg ((5 : Int32) + x1)) (hI h 137 (Int32.toNatClampNeg x1))) 138 (Int32.toNatClampNeg ((5 : Int32) + x1)) (hI (uI h 137 (Int32.toNatClampNeg ((5 : Int32) + x1)) (hI h 137 (Int32.toNatClampNeg x1))) 138 (Int32.toNatClampNeg x1))) 139 (Int32.toNatClampNeg x1))) 140 (Int32.toNatClampNeg ((5 : Int32) + x1)) (hI (uI (uI (uI h 137 (Int32.toNatClampNeg ((5 : Int32) + x1)) (hI h 137 (Int32.toNatClampNeg x1))) 138 (Int32.toNatClampNeg ((5 : Int32) + x1)) (hI (uI h 137 (Int32.toNatClampNeg ((5 : Int32) + x1)) (hI h 137 (Int32.toNatClampNeg x1))) 138 (Int32.toNatClampNeg x1))) 139 (Int32.toNatClampNeg ((5 : Int32) + x1)) (hI (uI (uI h 137 (Int32.toNatClampNeg ((5 : Int32) + x1)) (hI h 137 (Int32.toNatClampNeg x1))) 138 (Int32.toNatClampNeg ((5 : Int32) + x1)) (hI (uI h 137 (Int32.toNatClampNeg ((5 : Int32) + x1)) (hI h 137 (Int32.toNatClampNeg x1))) 138 (Int32.toNatClampNeg x1))) 139 (Int32.toNatClampNeg x1))) 140 (Int32.toNatClampNeg x1))) 141 (Int32.toNatClampNeg ((5 : Int32) + x1)) (hI (uI (uI (uI (uI h 137 (Int32.toNatClampNeg ((5 : Int32) + x1)) (hI h 137 (Int32.toNatClampNeg x1))) 138 (Int32.toNatClampNeg ((5 : Int32) + x1)) (hI (uI h 137 (Int32.toNatClampNeg ((5 : Int32) + x1)) (hI h 137 (Int32.toNatClampNeg x1))) 138 (Int32.toNatClampNeg x1))) 139 (Int32.toNatClampNeg ((5 : Int32) + x1)) (hI (uI (uI h 137 (Int32.toNatClampNeg ((5 : Int32) + x1)) (hI h 137 (Int32.toNatClampNeg x1))) 138 (Int32.toNatClampNeg ((5 : Int32) + x1)) (hI (uI h 137 (Int32.toNatClampNeg ((5 : Int32) + x1)) (hI h 137 (Int32.toNatClampNeg x1))) 138 (Int32.toNatClampNeg x1))) 139 (Int32.toNatClampNeg x1))) 140 (Int32.toNatClampNeg ((5 : Int32) + x1)) (hI (uI (uI (uI h 137 (Int32.toNatClampNeg ((5 : Int32) + x1)) (hI h 137 (Int32.toNatClampNeg x1))) 138 (Int32.toNatClampNeg ((5 : Int32) + x1)) (hI (uI h 137 (Int32.toNatClampNeg ((5 : Int32) + x1)) (hI h 137 (Int32.toNatClampNeg x1))) 138 (Int32.toNatClampNeg x1))) 139 (Int32.toNatClampNeg ((5 : Int32) + x1)) (hI (uI (uI h 137 (Int32.toNatClampNeg ((5 : Int32) + x1)) (hI h 137 (Int32.toNatClampNeg x1))) 138 (Int32.toNatClampNeg ((5 : Int32) + x1)) (hI (uI h 137 (Int32.toNatClampNeg ((5 : Int32) + x1)) (hI h 137 (Int32.toNatClampNeg x1))) 138 (Int32.toNatClampNeg x1))) 139 (Int32.toNatClampNeg x1))) 140 (Int32.toNatClampNeg x1))) 141 (Int32.toNatClampNeg x1))) (x1 + (1 : Int32))) else none) else none) else none) else none) else none) else none) else none) else none) else none) else none) else none)
def fX10_layTried (h : Hp) : Option (Hp) := fX10_layTried_2 FU h (0 : Int32)
set_option maxRecDepth 100000 in
set_option maxHeartbeats 4000000 in
theorem c_X10_layTried {l : Launch} {sb : State} {D : va_G} {ids : Nat → ClassId} {n : Nat} (hN : 152 ≤ n) (h : Hp) (r : Hp) (hr : fX10_layTried h = some r) : jM l yX10_layTried cX10_layTried 2 none 1 sb D ids shp St n [.ref 107] h (jQv sb D ids shp St n r) := by
  refine jM_of hr rfl (Nat.le_of_ble_eq_true rfl) ?_
  intro p e s m args below meth c hC hret
  have b2 : ∀ (fu : Nat) (h : Hp) (x1 : Int32) , jJ p l e (rmD 1) s m args below meth c 2 sb D ids shp St (fun r => MQ below (jQv sb D ids shp St n r) args s 0 0 (jA sb)) n 0 0 h 2 [(0, .ref 107), (1, .int x1)] [] (fX10_layTried_2 fu h x1) := by
    intro fu 
    induction fu with
    | zero => intro h x1 ; exact j_none
    | succ fu ih =>
    intro h x1 
    rw [fX10_layTried_2]
    refine j_iload_n hC 1 rfl rfl (dOk_at dt_X10_layTried 2 rfl) ?_
    refine j_iconst hC (v := (5 : Int32)) rfl (dOk_at dt_X10_layTried 3 rfl) ?_
    refine j_icmp_ge hC (tgt := 83) (by decide) (dOk_at dt_X10_layTried 4 rfl) (fun q_1 => ?_) (fun q_1 => ?_)
    · refine j_aload_n hC 0 rfl rfl (dOk_at dt_X10_layTried 57 rfl) ?_
      refine j_getR hC flX10_118 (show shp 107 = (10, 88) from rfl) (Nat.lt_of_lt_of_le (Nat.le_of_ble_eq_true rfl : 107 < 152) hN) (by decide) (by decide) (fun _ _ _ => rfl) (fun hs => hs 107 65 142 rfl) (dOk_at dt_X10_layTried 58 rfl) ?_
      refine j_iconst hC (v := (1 : Int32)) rfl (dOk_at dt_X10_layTried 59 rfl) ?_
      refine j_aload_n hC 0 rfl rfl (dOk_at dt_X10_layTried 60 rfl) ?_
      refine j_getR hC flX10_118 (show shp 107 = (10, 88) from rfl) (Nat.lt_of_lt_of_le (Nat.le_of_ble_eq_true rfl : 107 < 152) hN) (by decide) (by decide) (fun _ _ _ => rfl) (fun hs => hs 107 65 142 rfl) (dOk_at dt_X10_layTried 61 rfl) ?_
      refine j_iconst hC (v := (0 : Int32)) rfl (dOk_at dt_X10_layTried 62 rfl) ?_
      refine j_iald hC (show shp 142 = (21, 2) from rfl) (Nat.lt_of_lt_of_le (Nat.le_of_ble_eq_true rfl : 142 < 152) hN) (dOk_at dt_X10_layTried 63 rfl) ?_
      refine j_iast hC St_SP (show shp 142 = (21, 2) from rfl) (Nat.lt_of_lt_of_le (Nat.le_of_ble_eq_true rfl : 142 < 152) hN) (dOk_at dt_X10_layTried 64 rfl) ?_
      refine j_aload_n hC 0 rfl rfl (dOk_at dt_X10_layTried 65 rfl) ?_
      refine j_getR hC flX10_121 (show shp 107 = (10, 88) from rfl) (Nat.lt_of_lt_of_le (Nat.le_of_ble_eq_true rfl : 107 < 152) hN) (by decide) (by decide) (fun _ _ _ => rfl) (fun hs => hs 107 66 143 rfl) (dOk_at dt_X10_layTried 66 rfl) ?_
      refine j_iconst hC (v := (1 : Int32)) rfl (dOk_at dt_X10_layTried 67 rfl) ?_
      refine j_aload_n hC 0 rfl rfl (dOk_at dt_X10_layTried 68 rfl) ?_
      refine j_getR hC flX10_121 (show shp 107 = (10, 88) from rfl) (Nat.lt_of_lt_of_le (Nat.le_of_ble_eq_true rfl : 107 < 152) hN) (by decide) (by decide) (fun _ _ _ => rfl) (fun hs => hs 107 66 143 rfl) (dOk_at dt_X10_layTried 69 rfl) ?_
      refine j_iconst hC (v := (0 : Int32)) rfl (dOk_at dt_X10_layTried 70 rfl) ?_
      refine j_iald hC (show shp 143 = (21, 2) from rfl) (Nat.lt_of_lt_of_le (Nat.le_of_ble_eq_true rfl : 143 < 152) hN) (dOk_at dt_X10_layTried 71 rfl) ?_
      refine j_iast hC St_SP (show shp 143 = (21, 2) from rfl) (Nat.lt_of_lt_of_le (Nat.le_of_ble_eq_true rfl : 143 < 152) hN) (dOk_at dt_X10_layTried 72 rfl) ?_
      refine j_aload_n hC 0 rfl rfl (dOk_at dt_X10_layTried 73 rfl) ?_
      refine j_callVv hC clX10_392 (fun rz hrz => c_X10_plainTried hN _ rz hrz) (show shp 107 = (10, 88) from rfl) (Nat.lt_of_lt_of_le (Nat.le_of_ble_eq_true rfl : 107 < 152) hN) (by decide) rfl rfl ⟨Nat.le_of_ble_eq_true rfl, Nat.le_of_ble_eq_true rfl⟩ ⟨Nat.le_refl 0, Nat.le_refl 0⟩ (As := []) (st := []) rfl (Nat.le_of_ble_eq_true rfl) (dOk_at dt_X10_layTried 74 rfl) (fun h_3 _ => ?_)
      exact j_vret hC hret (dOk_at dt_X10_layTried 75 rfl)
    · refine j_aload_n hC 0 rfl rfl (dOk_at dt_X10_layTried 5 rfl) ?_
      refine j_getR hC flX10_103 (show shp 107 = (10, 88) from rfl) (Nat.lt_of_lt_of_le (Nat.le_of_ble_eq_true rfl : 107 < 152) hN) (by decide) (by decide) (fun _ _ _ => rfl) (fun hs => hs 107 60 137 rfl) (dOk_at dt_X10_layTried 6 rfl) ?_
      refine j_iconst hC (v := (5 : Int32)) rfl (dOk_at dt_X10_layTried 7 rfl) ?_
      refine j_iload_n hC 1 rfl rfl (dOk_at dt_X10_layTried 8 rfl) ?_
      refine j_iadd hC (dOk_at dt_X10_layTried 9 rfl) ?_
      refine j_aload_n hC 0 rfl rfl (dOk_at dt_X10_layTried 10 rfl) ?_
      refine j_getR hC flX10_103 (show shp 107 = (10, 88) from rfl) (Nat.lt_of_lt_of_le (Nat.le_of_ble_eq_true rfl : 107 < 152) hN) (by decide) (by decide) (fun _ _ _ => rfl) (fun hs => hs 107 60 137 rfl) (dOk_at dt_X10_layTried 11 rfl) ?_
      refine j_iload_n hC 1 rfl rfl (dOk_at dt_X10_layTried 12 rfl) ?_
      refine j_iald hC (show shp 137 = (21, 10) from rfl) (Nat.lt_of_lt_of_le (Nat.le_of_ble_eq_true rfl : 137 < 152) hN) (dOk_at dt_X10_layTried 13 rfl) ?_
      refine j_iast hC St_SP (show shp 137 = (21, 10) from rfl) (Nat.lt_of_lt_of_le (Nat.le_of_ble_eq_true rfl : 137 < 152) hN) (dOk_at dt_X10_layTried 14 rfl) ?_
      refine j_aload_n hC 0 rfl rfl (dOk_at dt_X10_layTried 15 rfl) ?_
      refine j_getR hC flX10_106 (show shp 107 = (10, 88) from rfl) (Nat.lt_of_lt_of_le (Nat.le_of_ble_eq_true rfl : 107 < 152) hN) (by decide) (by decide) (fun _ _ _ => rfl) (fun hs => hs 107 61 138 rfl) (dOk_at dt_X10_layTried 16 rfl) ?_
      refine j_iconst hC (v := (5 : Int32)) rfl (dOk_at dt_X10_layTried 17 rfl) ?_
      refine j_iload_n hC 1 rfl rfl (dOk_at dt_X10_layTried 18 rfl) ?_
      refine j_iadd hC (dOk_at dt_X10_layTried 19 rfl) ?_
      refine j_aload_n hC 0 rfl rfl (dOk_at dt_X10_layTried 20 rfl) ?_
      refine j_getR hC flX10_106 (show shp 107 = (10, 88) from rfl) (Nat.lt_of_lt_of_le (Nat.le_of_ble_eq_true rfl : 107 < 152) hN) (by decide) (by decide) (fun _ _ _ => rfl) (fun hs => hs 107 61 138 rfl) (dOk_at dt_X10_layTried 21 rfl) ?_
      refine j_iload_n hC 1 rfl rfl (dOk_at dt_X10_layTried 22 rfl) ?_
      refine j_zald hC (show shp 138 = (23, 10) from rfl) (Nat.lt_of_lt_of_le (Nat.le_of_ble_eq_true rfl : 138 < 152) hN) (dOk_at dt_X10_layTried 23 rfl) ?_
      refine j_ite (P := isZ (hI (uI h 137 (Int32.toNatClampNeg ((5 : Int32) + x1)) (hI h 137 (Int32.toNatClampNeg x1))) 138 (Int32.toNatClampNeg x1)) = true) (fun hz_4 => ?_) (fun _ => j_none)
      refine j_zast hC St_SP (show shp 138 = (23, 10) from rfl) (Nat.lt_of_lt_of_le (Nat.le_of_ble_eq_true rfl : 138 < 152) hN) hz_4 (dOk_at dt_X10_layTried 24 rfl) ?_
      refine j_aload_n hC 0 rfl rfl (dOk_at dt_X10_layTried 25 rfl) ?_
      refine j_getR hC flX10_109 (show shp 107 = (10, 88) from rfl) (Nat.lt_of_lt_of_le (Nat.le_of_ble_eq_true rfl : 107 < 152) hN) (by decide) (by decide) (fun _ _ _ => rfl) (fun hs => hs 107 62 139 rfl) (dOk_at dt_X10_layTried 26 rfl) ?_
      refine j_iconst hC (v := (5 : Int32)) rfl (dOk_at dt_X10_layTried 27 rfl) ?_
      refine j_iload_n hC 1 rfl rfl (dOk_at dt_X10_layTried 28 rfl) ?_
      refine j_iadd hC (dOk_at dt_X10_layTried 29 rfl) ?_
      refine j_aload_n hC 0 rfl rfl (dOk_at dt_X10_layTried 30 rfl) ?_
      refine j_getR hC flX10_109 (show shp 107 = (10, 88) from rfl) (Nat.lt_of_lt_of_le (Nat.le_of_ble_eq_true rfl : 107 < 152) hN) (by decide) (by decide) (fun _ _ _ => rfl) (fun hs => hs 107 62 139 rfl) (dOk_at dt_X10_layTried 31 rfl) ?_
      refine j_iload_n hC 1 rfl rfl (dOk_at dt_X10_layTried 32 rfl) ?_
      refine j_iald hC (show shp 139 = (21, 10) from rfl) (Nat.lt_of_lt_of_le (Nat.le_of_ble_eq_true rfl : 139 < 152) hN) (dOk_at dt_X10_layTried 33 rfl) ?_
      refine j_iast hC St_SP (show shp 139 = (21, 10) from rfl) (Nat.lt_of_lt_of_le (Nat.le_of_ble_eq_true rfl : 139 < 152) hN) (dOk_at dt_X10_layTried 34 rfl) ?_
      refine j_aload_n hC 0 rfl rfl (dOk_at dt_X10_layTried 35 rfl) ?_
      refine j_getR hC flX10_112 (show shp 107 = (10, 88) from rfl) (Nat.lt_of_lt_of_le (Nat.le_of_ble_eq_true rfl : 107 < 152) hN) (by decide) (by decide) (fun _ _ _ => rfl) (fun hs => hs 107 63 140 rfl) (dOk_at dt_X10_layTried 36 rfl) ?_
      refine j_iconst hC (v := (5 : Int32)) rfl (dOk_at dt_X10_layTried 37 rfl) ?_
      refine j_iload_n hC 1 rfl rfl (dOk_at dt_X10_layTried 38 rfl) ?_
      refine j_iadd hC (dOk_at dt_X10_layTried 39 rfl) ?_
      refine j_aload_n hC 0 rfl rfl (dOk_at dt_X10_layTried 40 rfl) ?_
      refine j_getR hC flX10_112 (show shp 107 = (10, 88) from rfl) (Nat.lt_of_lt_of_le (Nat.le_of_ble_eq_true rfl : 107 < 152) hN) (by decide) (by decide) (fun _ _ _ => rfl) (fun hs => hs 107 63 140 rfl) (dOk_at dt_X10_layTried 41 rfl) ?_
      refine j_iload_n hC 1 rfl rfl (dOk_at dt_X10_layTried 42 rfl) ?_
      refine j_iald hC (show shp 140 = (21, 10) from rfl) (Nat.lt_of_lt_of_le (Nat.le_of_ble_eq_true rfl : 140 < 152) hN) (dOk_at dt_X10_layTried 43 rfl) ?_
      refine j_iast hC St_SP (show shp 140 = (21, 10) from rfl) (Nat.lt_of_lt_of_le (Nat.le_of_ble_eq_true rfl : 140 < 152) hN) (dOk_at dt_X10_layTried 44 rfl) ?_
      refine j_aload_n hC 0 rfl rfl (dOk_at dt_X10_layTried 45 rfl) ?_
      refine j_getR hC flX10_115 (show shp 107 = (10, 88) from rfl) (Nat.lt_of_lt_of_le (Nat.le_of_ble_eq_true rfl : 107 < 152) hN) (by decide) (by decide) (fun _ _ _ => rfl) (fun hs => hs 107 64 141 rfl) (dOk_at dt_X10_layTried 46 rfl) ?_
      refine j_iconst hC (v := (5 : Int32)) rfl (dOk_at dt_X10_layTried 47 rfl) ?_
      refine j_iload_n hC 1 rfl rfl (dOk_at dt_X10_layTried 48 rfl) ?_
      refine j_iadd hC (dOk_at dt_X10_layTried 49 rfl) ?_
      refine j_aload_n hC 0 rfl rfl (dOk_at dt_X10_layTried 50 rfl) ?_
      refine j_getR hC flX10_115 (show shp 107 = (10, 88) from rfl) (Nat.lt_of_lt_of_le (Nat.le_of_ble_eq_true rfl : 107 < 152) hN) (by decide) (by decide) (fun _ _ _ => rfl) (fun hs => hs 107 64 141 rfl) (dOk_at dt_X10_layTried 51 rfl) ?_
      refine j_iload_n hC 1 rfl rfl (dOk_at dt_X10_layTried 52 rfl) ?_
      refine j_iald hC (show shp 141 = (21, 10) from rfl) (Nat.lt_of_lt_of_le (Nat.le_of_ble_eq_true rfl : 141 < 152) hN) (dOk_at dt_X10_layTried 53 rfl) ?_
      refine j_iast hC St_SP (show shp 141 = (21, 10) from rfl) (Nat.lt_of_lt_of_le (Nat.le_of_ble_eq_true rfl : 141 < 152) hN) (dOk_at dt_X10_layTried 54 rfl) ?_
      refine j_iinc hC (v := (x1 + (1 : Int32))) (lv' := [(1, .int (x1 + (1 : Int32))), (0, .ref 107)]) 1 rfl (congrArg (fun z => x1 + z) (show Int32.ofInt (1) = (1 : Int32) from by decide)) (by decide) rfl (dOk_at dt_X10_layTried 55 rfl) ?_
      refine j_goto hC (tgt := 2) (by decide) (dOk_at dt_X10_layTried 56 rfl) ?_
      refine j_sub [1, 0] rfl ?_
      exact ih (uI (uI (uI (uI (uI h 137 (Int32.toNatClampNeg ((5 : Int32) + x1)) (hI h 137 (Int32.toNatClampNeg x1))) 138 (Int32.toNatClampNeg ((5 : Int32) + x1)) (hI (uI h 137 (Int32.toNatClampNeg ((5 : Int32) + x1)) (hI h 137 (Int32.toNatClampNeg x1))) 138 (Int32.toNatClampNeg x1))) 139 (Int32.toNatClampNeg ((5 : Int32) + x1)) (hI (uI (uI h 137 (Int32.toNatClampNeg ((5 : Int32) + x1)) (hI h 137 (Int32.toNatClampNeg x1))) 138 (Int32.toNatClampNeg ((5 : Int32) + x1)) (hI (uI h 137 (Int32.toNatClampNeg ((5 : Int32) + x1)) (hI h 137 (Int32.toNatClampNeg x1))) 138 (Int32.toNatClampNeg x1))) 139 (Int32.toNatClampNeg x1))) 140 (Int32.toNatClampNeg ((5 : Int32) + x1)) (hI (uI (uI (uI h 137 (Int32.toNatClampNeg ((5 : Int32) + x1)) (hI h 137 (Int32.toNatClampNeg x1))) 138 (Int32.toNatClampNeg ((5 : Int32) + x1)) (hI (uI h 137 (Int32.toNatClampNeg ((5 : Int32) + x1)) (hI h 137 (Int32.toNatClampNeg x1))) 138 (Int32.toNatClampNeg x1))) 139 (Int32.toNatClampNeg ((5 : Int32) + x1)) (hI (uI (uI h 137 (Int32.toNatClampNeg ((5 : Int32) + x1)) (hI h 137 (Int32.toNatClampNeg x1))) 138 (Int32.toNatClampNeg ((5 : Int32) + x1)) (hI (uI h 137 (Int32.toNatClampNeg ((5 : Int32) + x1)) (hI h 137 (Int32.toNatClampNeg x1))) 138 (Int32.toNatClampNeg x1))) 139 (Int32.toNatClampNeg x1))) 140 (Int32.toNatClampNeg x1))) 141 (Int32.toNatClampNeg ((5 : Int32) + x1)) (hI (uI (uI (uI (uI h 137 (Int32.toNatClampNeg ((5 : Int32) + x1)) (hI h 137 (Int32.toNatClampNeg x1))) 138 (Int32.toNatClampNeg ((5 : Int32) + x1)) (hI (uI h 137 (Int32.toNatClampNeg ((5 : Int32) + x1)) (hI h 137 (Int32.toNatClampNeg x1))) 138 (Int32.toNatClampNeg x1))) 139 (Int32.toNatClampNeg ((5 : Int32) + x1)) (hI (uI (uI h 137 (Int32.toNatClampNeg ((5 : Int32) + x1)) (hI h 137 (Int32.toNatClampNeg x1))) 138 (Int32.toNatClampNeg ((5 : Int32) + x1)) (hI (uI h 137 (Int32.toNatClampNeg ((5 : Int32) + x1)) (hI h 137 (Int32.toNatClampNeg x1))) 138 (Int32.toNatClampNeg x1))) 139 (Int32.toNatClampNeg x1))) 140 (Int32.toNatClampNeg ((5 : Int32) + x1)) (hI (uI (uI (uI h 137 (Int32.toNatClampNeg ((5 : Int32) + x1)) (hI h 137 (Int32.toNatClampNeg x1))) 138 (Int32.toNatClampNeg ((5 : Int32) + x1)) (hI (uI h 137 (Int32.toNatClampNeg ((5 : Int32) + x1)) (hI h 137 (Int32.toNatClampNeg x1))) 138 (Int32.toNatClampNeg x1))) 139 (Int32.toNatClampNeg ((5 : Int32) + x1)) (hI (uI (uI h 137 (Int32.toNatClampNeg ((5 : Int32) + x1)) (hI h 137 (Int32.toNatClampNeg x1))) 138 (Int32.toNatClampNeg ((5 : Int32) + x1)) (hI (uI h 137 (Int32.toNatClampNeg ((5 : Int32) + x1)) (hI h 137 (Int32.toNatClampNeg x1))) 138 (Int32.toNatClampNeg x1))) 139 (Int32.toNatClampNeg x1))) 140 (Int32.toNatClampNeg x1))) 141 (Int32.toNatClampNeg x1))) (x1 + (1 : Int32)) 
  unfold fX10_layTried
  refine j_iconst hC (v := (0 : Int32)) rfl (dOk_at dt_X10_layTried 0 rfl) ?_
  refine j_istore_n hC rfl (lv' := [(1, .int (0 : Int32)), (0, .ref 107)]) (by decide) rfl (dOk_at dt_X10_layTried 1 rfl) ?_
  refine j_sub [1, 0] rfl ?_
  exact b2 FU h (0 : Int32) 
def tb_X10_isClaim : List (Nat × Instr × Nat) := [(0, .iload_n 1, 1), (1, .ifCond .lt 15, 3), (4, .iload_n 1, 1), (5, .aload_n 0, 1), (6, .getfield 243, 3), (9, .if_icmp .ge 7, 3), (12, .iconst 1, 1), (13, .goto 4, 3), (16, .iconst 0, 1), (17, .ireturn, 1)]
theorem dt_X10_isClaim : dOk cX10_isClaim tb_X10_isClaim = true := by decide +kernel
def fX10_isClaim (h : Hp) (x1 : Int32) : Option (Int32 × Hp) := if x1 < 0 then (some ((0 : Int32), h)) else (if (hI h 107 12) ≤ x1 then (some ((0 : Int32), h)) else (some ((1 : Int32), h)))
set_option maxRecDepth 100000 in
set_option maxHeartbeats 4000000 in
theorem c_X10_isClaim {l : Launch} {sb : State} {D : va_G} {ids : Nat → ClassId} {n : Nat} (hN : 152 ≤ n) (h : Hp) (x1 : Int32) (r : Int32 × Hp) (hr : fX10_isClaim h x1 = some r) : jM l yX10_isClaim cX10_isClaim 2 (some .boolean) 0 sb D ids shp St n [.ref 107, .int x1] h (jQi sb D ids shp St n r) := by
  refine jM_of hr rfl (Nat.le_of_ble_eq_true rfl) ?_
  intro p e s m args below meth c hC hret
  unfold fX10_isClaim
  refine j_iload_n hC 1 rfl rfl (dOk_at dt_X10_isClaim 0 rfl) ?_
  refine j_if_lt hC (tgt := 16) (by decide) (dOk_at dt_X10_isClaim 1 rfl) (fun q_1 => ?_) (fun q_1 => ?_)
  · refine j_iconst hC (v := (0 : Int32)) rfl (dOk_at dt_X10_isClaim 8 rfl) ?_
    exact j_zretK hC hret rfl (dOk_at dt_X10_isClaim 9 rfl)
  · refine j_iload_n hC 1 rfl rfl (dOk_at dt_X10_isClaim 2 rfl) ?_
    refine j_aload_n hC 0 rfl rfl (dOk_at dt_X10_isClaim 3 rfl) ?_
    refine j_getI hC flX10_243 (show shp 107 = (10, 88) from rfl) (Nat.lt_of_lt_of_le (Nat.le_of_ble_eq_true rfl : 107 < 152) hN) (by decide) (by decide) (fun _ _ _ => rfl) (dOk_at dt_X10_isClaim 4 rfl) ?_
    refine j_icmp_ge hC (tgt := 16) (by decide) (dOk_at dt_X10_isClaim 5 rfl) (fun q_2 => ?_) (fun q_2 => ?_)
    · refine j_iconst hC (v := (0 : Int32)) rfl (dOk_at dt_X10_isClaim 8 rfl) ?_
      exact j_zretK hC hret rfl (dOk_at dt_X10_isClaim 9 rfl)
    · refine j_iconst hC (v := (1 : Int32)) rfl (dOk_at dt_X10_isClaim 6 rfl) ?_
      refine j_goto hC (tgt := 17) (by decide) (dOk_at dt_X10_isClaim 7 rfl) ?_
      exact j_zretK hC hret rfl (dOk_at dt_X10_isClaim 9 rfl)
def tb_X10_isStraw : List (Nat × Instr × Nat) := [(0, .iload_n 1, 1), (1, .ifCond .lt 15, 3), (4, .iload_n 1, 1), (5, .aload_n 0, 1), (6, .getfield 249, 3), (9, .if_icmp .ge 7, 3), (12, .iconst 1, 1), (13, .goto 4, 3), (16, .iconst 0, 1), (17, .ireturn, 1)]
theorem dt_X10_isStraw : dOk cX10_isStraw tb_X10_isStraw = true := by decide +kernel
def fX10_isStraw (h : Hp) (x1 : Int32) : Option (Int32 × Hp) := if x1 < 0 then (some ((0 : Int32), h)) else (if (hI h 107 14) ≤ x1 then (some ((0 : Int32), h)) else (some ((1 : Int32), h)))
set_option maxRecDepth 100000 in
set_option maxHeartbeats 4000000 in
theorem c_X10_isStraw {l : Launch} {sb : State} {D : va_G} {ids : Nat → ClassId} {n : Nat} (hN : 152 ≤ n) (h : Hp) (x1 : Int32) (r : Int32 × Hp) (hr : fX10_isStraw h x1 = some r) : jM l yX10_isStraw cX10_isStraw 2 (some .boolean) 0 sb D ids shp St n [.ref 107, .int x1] h (jQi sb D ids shp St n r) := by
  refine jM_of hr rfl (Nat.le_of_ble_eq_true rfl) ?_
  intro p e s m args below meth c hC hret
  unfold fX10_isStraw
  refine j_iload_n hC 1 rfl rfl (dOk_at dt_X10_isStraw 0 rfl) ?_
  refine j_if_lt hC (tgt := 16) (by decide) (dOk_at dt_X10_isStraw 1 rfl) (fun q_1 => ?_) (fun q_1 => ?_)
  · refine j_iconst hC (v := (0 : Int32)) rfl (dOk_at dt_X10_isStraw 8 rfl) ?_
    exact j_zretK hC hret rfl (dOk_at dt_X10_isStraw 9 rfl)
  · refine j_iload_n hC 1 rfl rfl (dOk_at dt_X10_isStraw 2 rfl) ?_
    refine j_aload_n hC 0 rfl rfl (dOk_at dt_X10_isStraw 3 rfl) ?_
    refine j_getI hC flX10_249 (show shp 107 = (10, 88) from rfl) (Nat.lt_of_lt_of_le (Nat.le_of_ble_eq_true rfl : 107 < 152) hN) (by decide) (by decide) (fun _ _ _ => rfl) (dOk_at dt_X10_isStraw 4 rfl) ?_
    refine j_icmp_ge hC (tgt := 16) (by decide) (dOk_at dt_X10_isStraw 5 rfl) (fun q_2 => ?_) (fun q_2 => ?_)
    · refine j_iconst hC (v := (0 : Int32)) rfl (dOk_at dt_X10_isStraw 8 rfl) ?_
      exact j_zretK hC hret rfl (dOk_at dt_X10_isStraw 9 rfl)
    · refine j_iconst hC (v := (1 : Int32)) rfl (dOk_at dt_X10_isStraw 6 rfl) ?_
      refine j_goto hC (tgt := 17) (by decide) (dOk_at dt_X10_isStraw 7 rfl) ?_
      exact j_zretK hC hret rfl (dOk_at dt_X10_isStraw 9 rfl)
def tb_X10_isMember : List (Nat × Instr × Nat) := [(0, .iload_n 1, 1), (1, .ifCond .lt 15, 3), (4, .iload_n 1, 1), (5, .aload_n 0, 1), (6, .getfield 252, 3), (9, .if_icmp .ge 7, 3), (12, .iconst 1, 1), (13, .goto 4, 3), (16, .iconst 0, 1), (17, .ireturn, 1)]
theorem dt_X10_isMember : dOk cX10_isMember tb_X10_isMember = true := by decide +kernel
def fX10_isMember (h : Hp) (x1 : Int32) : Option (Int32 × Hp) := if x1 < 0 then (some ((0 : Int32), h)) else (if (hI h 107 15) ≤ x1 then (some ((0 : Int32), h)) else (some ((1 : Int32), h)))
set_option maxRecDepth 100000 in
set_option maxHeartbeats 4000000 in
theorem c_X10_isMember {l : Launch} {sb : State} {D : va_G} {ids : Nat → ClassId} {n : Nat} (hN : 152 ≤ n) (h : Hp) (x1 : Int32) (r : Int32 × Hp) (hr : fX10_isMember h x1 = some r) : jM l yX10_isMember cX10_isMember 2 (some .boolean) 0 sb D ids shp St n [.ref 107, .int x1] h (jQi sb D ids shp St n r) := by
  refine jM_of hr rfl (Nat.le_of_ble_eq_true rfl) ?_
  intro p e s m args below meth c hC hret
  unfold fX10_isMember
  refine j_iload_n hC 1 rfl rfl (dOk_at dt_X10_isMember 0 rfl) ?_
  refine j_if_lt hC (tgt := 16) (by decide) (dOk_at dt_X10_isMember 1 rfl) (fun q_1 => ?_) (fun q_1 => ?_)
  · refine j_iconst hC (v := (0 : Int32)) rfl (dOk_at dt_X10_isMember 8 rfl) ?_
    exact j_zretK hC hret rfl (dOk_at dt_X10_isMember 9 rfl)
  · refine j_iload_n hC 1 rfl rfl (dOk_at dt_X10_isMember 2 rfl) ?_
    refine j_aload_n hC 0 rfl rfl (dOk_at dt_X10_isMember 3 rfl) ?_
    refine j_getI hC flX10_252 (show shp 107 = (10, 88) from rfl) (Nat.lt_of_lt_of_le (Nat.le_of_ble_eq_true rfl : 107 < 152) hN) (by decide) (by decide) (fun _ _ _ => rfl) (dOk_at dt_X10_isMember 4 rfl) ?_
    refine j_icmp_ge hC (tgt := 16) (by decide) (dOk_at dt_X10_isMember 5 rfl) (fun q_2 => ?_) (fun q_2 => ?_)
    · refine j_iconst hC (v := (0 : Int32)) rfl (dOk_at dt_X10_isMember 8 rfl) ?_
      exact j_zretK hC hret rfl (dOk_at dt_X10_isMember 9 rfl)
    · refine j_iconst hC (v := (1 : Int32)) rfl (dOk_at dt_X10_isMember 6 rfl) ?_
      refine j_goto hC (tgt := 17) (by decide) (dOk_at dt_X10_isMember 7 rfl) ?_
      exact j_zretK hC hret rfl (dOk_at dt_X10_isMember 9 rfl)
def tb_X10_manyOf : List (Nat × Instr × Nat) := [(0, .iconst 0, 1), (1, .istore_n 1, 1), (2, .iconst 0, 1), (3, .istore_n 2, 1), (4, .iload_n 2, 1), (5, .bipush 9, 2), (7, .if_icmp .ge 17, 3), (10, .iload_n 1, 1), (11, .iload_n 0, 1), (12, .iload_n 2, 1), (13, .ishr, 1), (14, .iconst 1, 1), (15, .iand, 1), (16, .iadd, 1), (17, .istore_n 1, 1), (18, .iinc 2 1, 3), (21, .goto (-17), 3), (24, .iload_n 1, 1), (25, .ireturn, 1)]
theorem dt_X10_manyOf : dOk cX10_manyOf tb_X10_manyOf = true := by decide +kernel
def fX10_manyOf_4 : Nat → Hp → Int32 → Int32 → Int32 → Option (Int32 × Hp)
  | 0, _, _, _, _ => none
  | fu + 1, h, x0, x1, x2 => if (9 : Int32) ≤ x2 then (some (x1, h)) else ((fX10_manyOf_4 fu) h x0 (x1 + ((x0 >>> (x2 &&& 31)) &&& (1 : Int32))) (x2 + (1 : Int32)))
def fX10_manyOf (h : Hp) (x0 : Int32) : Option (Int32 × Hp) := fX10_manyOf_4 FU h x0 (0 : Int32) (0 : Int32)
set_option maxRecDepth 100000 in
set_option maxHeartbeats 4000000 in
theorem c_X10_manyOf {l : Launch} {sb : State} {D : va_G} {ids : Nat → ClassId} {n : Nat} (hN : 152 ≤ n) (h : Hp) (x0 : Int32) (r : Int32 × Hp) (hr : fX10_manyOf h x0 = some r) : jM l yX10_manyOf cX10_manyOf 3 (some .int) 0 sb D ids shp St n [.int x0] h (jQi sb D ids shp St n r) := by
  refine jM_of hr rfl (Nat.le_of_ble_eq_true rfl) ?_
  intro p e s m args below meth c hC hret
  have b4 : ∀ (fu : Nat) (h : Hp) (x0 : Int32) (x1 : Int32) (x2 : Int32) , jJ p l e (rmD 0) s m args below meth c 3 sb D ids shp St (fun r => MQ below (jQi sb D ids shp St n r) args s 0 0 (jA sb)) n 0 0 h 4 [(0, .int x0), (1, .int x1), (2, .int x2)] [] (fX10_manyOf_4 fu h x0 x1 x2) := by
    intro fu 
    induction fu with
    | zero => intro h x0 x1 x2 ; exact j_none
    | succ fu ih =>
    intro h x0 x1 x2 
    rw [fX10_manyOf_4]
    refine j_iload_n hC 2 rfl rfl (dOk_at dt_X10_manyOf 4 rfl) ?_
    refine j_bipush hC (v := (9 : Int32)) rfl (dOk_at dt_X10_manyOf 5 rfl) ?_
    refine j_icmp_ge hC (tgt := 24) (by decide) (dOk_at dt_X10_manyOf 6 rfl) (fun q_1 => ?_) (fun q_1 => ?_)
    · refine j_iload_n hC 1 rfl rfl (dOk_at dt_X10_manyOf 17 rfl) ?_
      exact j_iret hC hret (dOk_at dt_X10_manyOf 18 rfl)
    · refine j_iload_n hC 1 rfl rfl (dOk_at dt_X10_manyOf 7 rfl) ?_
      refine j_iload_n hC 0 rfl rfl (dOk_at dt_X10_manyOf 8 rfl) ?_
      refine j_iload_n hC 2 rfl rfl (dOk_at dt_X10_manyOf 9 rfl) ?_
      refine j_ishr hC (dOk_at dt_X10_manyOf 10 rfl) ?_
      refine j_iconst hC (v := (1 : Int32)) rfl (dOk_at dt_X10_manyOf 11 rfl) ?_
      refine j_iand hC (dOk_at dt_X10_manyOf 12 rfl) ?_
      refine j_iadd hC (dOk_at dt_X10_manyOf 13 rfl) ?_
      refine j_istore_n hC rfl (lv' := [(1, .int (x1 + ((x0 >>> (x2 &&& 31)) &&& (1 : Int32)))), (0, .int x0), (2, .int x2)]) (by decide) rfl (dOk_at dt_X10_manyOf 14 rfl) ?_
      refine j_iinc hC (v := (x2 + (1 : Int32))) (lv' := [(2, .int (x2 + (1 : Int32))), (1, .int (x1 + ((x0 >>> (x2 &&& 31)) &&& (1 : Int32)))), (0, .int x0)]) 2 rfl (congrArg (fun z => x2 + z) (show Int32.ofInt (1) = (1 : Int32) from by decide)) (by decide) rfl (dOk_at dt_X10_manyOf 15 rfl) ?_
      refine j_goto hC (tgt := 4) (by decide) (dOk_at dt_X10_manyOf 16 rfl) ?_
      refine j_sub [2, 1, 0] rfl ?_
      exact ih h x0 (x1 + ((x0 >>> (x2 &&& 31)) &&& (1 : Int32))) (x2 + (1 : Int32)) 
  unfold fX10_manyOf
  refine j_iconst hC (v := (0 : Int32)) rfl (dOk_at dt_X10_manyOf 0 rfl) ?_
  refine j_istore_n hC rfl (lv' := [(1, .int (0 : Int32)), (0, .int x0)]) (by decide) rfl (dOk_at dt_X10_manyOf 1 rfl) ?_
  refine j_iconst hC (v := (0 : Int32)) rfl (dOk_at dt_X10_manyOf 2 rfl) ?_
  refine j_istore_n hC rfl (lv' := [(2, .int (0 : Int32)), (1, .int (0 : Int32)), (0, .int x0)]) (by decide) rfl (dOk_at dt_X10_manyOf 3 rfl) ?_
  refine j_sub [2, 1, 0] rfl ?_
  exact b4 FU h x0 (0 : Int32) (0 : Int32) 
def tb_X10_forceOf : List (Nat × Instr × Nat) := [(0, .iconst 0, 1), (1, .istore 4, 2), (3, .iconst 0, 1), (4, .istore 5, 2), (6, .iload 5, 2), (8, .aload_n 0, 1), (9, .getfield 246, 3), (12, .if_icmp .ge 105, 3), (15, .aload_n 0, 1), (16, .getfield 39, 3), (19, .iload 5, 2), (21, .iaload, 1), (22, .iload_n 3, 1), (23, .if_icmp .ne 13, 3), (26, .aload_n 0, 1), (27, .getfield 36, 3), (30, .iload 5, 2), (32, .iaload, 1), (33, .goto 32, 3), (36, .aload_n 0, 1), (37, .getfield 413, 3), (40, .ifCond .eq 24, 3), (43, .aload_n 0, 1), (44, .getfield 36, 3), (47, .iload 5, 2), (49, .iaload, 1), (50, .iload_n 3, 1), (51, .if_icmp .ne 13, 3), (54, .aload_n 0, 1), (55, .getfield 39, 3), (58, .iload 5, 2), (60, .iaload, 1), (61, .goto 4, 3), (64, .iconst (-1), 1), (65, .istore 6, 2), (67, .iload 6, 2), (69, .ifCond .lt 42, 3), (72, .aload_n 0, 1), (73, .getfield 109, 3), (76, .iconst 5, 1), (77, .iload_n 1, 1), (78, .imul, 1), (79, .iload_n 2, 1), (80, .iadd, 1), (81, .iaload, 1), (82, .iload 6, 2), (84, .invokestatic 282, 3), (87, .ifCond .eq 24, 3), (90, .aload_n 0, 1), (91, .getfield 30, 3), (94, .iload 6, 2), (96, .iaload, 1), (97, .iload 4, 2), (99, .if_icmp .le 12, 3), (102, .aload_n 0, 1), (103, .getfield 30, 3), (106, .iload 6, 2), (108, .iaload, 1), (109, .istore 4, 2), (111, .iinc 5 1, 3), (114, .goto (-108), 3), (117, .iload 4, 2), (119, .ireturn, 1)]
theorem dt_X10_forceOf : dOk cX10_forceOf tb_X10_forceOf = true := by decide +kernel
def fX10_forceOf_111 (rec6 : Hp → Int32 → Int32 → Int32 → Int32 → Int32 → Option (Int32 × Hp)) (h : Hp) (x1 : Int32) (x2 : Int32) (x3 : Int32) (x4 : Int32) (x5 : Int32) : Option (Int32 × Hp) := rec6 h x1 x2 x3 x4 (x5 + (1 : Int32))
def fX10_forceOf_65 (rec6 : Hp → Int32 → Int32 → Int32 → Int32 → Int32 → Option (Int32 × Hp)) (h : Hp) (x1 : Int32) (x2 : Int32) (x3 : Int32) (x4 : Int32) (x5 : Int32) (s0 : Int32) : Option (Int32 × Hp) := if s0 < 0 then (fX10_forceOf_111 rec6 h x1 x2 x3 x4 x5) else (if inb (((5 : Int32) * x1) + x2) 10 then (bnd (fX10_isOf h (hI h 139 (Int32.toNatClampNeg (((5 : Int32) * x1) + x2))) s0) (fun v_6 h_7 => if v_6 = 0 then (fX10_forceOf_111 rec6 h_7 x1 x2 x3 x4 x5) else (if inb s0 16 then (if (hI h_7 113 (Int32.toNatClampNeg s0)) ≤ x4 then (fX10_forceOf_111 rec6 h_7 x1 x2 x3 x4 x5) else (if inb s0 16 then (fX10_forceOf_111 rec6 h_7 x1 x2 x3 (hI h_7 113 (Int32.toNatClampNeg s0)) x5) else none)) else none))) else none)
def fX10_forceOf_64 (rec6 : Hp → Int32 → Int32 → Int32 → Int32 → Int32 → Option (Int32 × Hp)) (h : Hp) (x1 : Int32) (x2 : Int32) (x3 : Int32) (x4 : Int32) (x5 : Int32) : Option (Int32 × Hp) := fX10_forceOf_65 rec6 h x1 x2 x3 x4 x5 (-1 : Int32)
def fX10_forceOf_6 : Nat → Hp → Int32 → Int32 → Int32 → Int32 → Int32 → Option (Int32 × Hp)
  | 0, _, _, _, _, _, _ => none
  | fu + 1, h, x1, x2, x3, x4, x5 => if (hI h 107 13) ≤ x5 then (some (x4, h)) else (if inb x5 32 then (if (hI h 116 (Int32.toNatClampNeg x5)) = x3 then (if inb x5 32 then (fX10_forceOf_65 (fX10_forceOf_6 fu) h x1 x2 x3 x4 x5 (hI h 115 (Int32.toNatClampNeg x5))) else none) else (if (hI h 107 71) = 0 then (fX10_forceOf_64 (fX10_forceOf_6 fu) h x1 x2 x3 x4 x5) else (if inb x5 32 then (if (hI h 115 (Int32.toNatClampNeg x5)) = x3 then (if inb x5 32 then (fX10_forceOf_65 (fX10_forceOf_6 fu) h x1 x2 x3 x4 x5 (hI h 116 (Int32.toNatClampNeg x5))) else none) else (fX10_forceOf_64 (fX10_forceOf_6 fu) h x1 x2 x3 x4 x5)) else none))) else none)
def fX10_forceOf (h : Hp) (x1 : Int32) (x2 : Int32) (x3 : Int32) : Option (Int32 × Hp) := fX10_forceOf_6 FU h x1 x2 x3 (0 : Int32) (0 : Int32)
set_option maxRecDepth 100000 in
set_option maxHeartbeats 4000000 in
theorem c_X10_forceOf {l : Launch} {sb : State} {D : va_G} {ids : Nat → ClassId} {n : Nat} (hN : 152 ≤ n) (h : Hp) (x1 : Int32) (x2 : Int32) (x3 : Int32) (r : Int32 × Hp) (hr : fX10_forceOf h x1 x2 x3 = some r) : jM l yX10_forceOf cX10_forceOf 7 (some .int) 1 sb D ids shp St n [.ref 107, .int x1, .int x2, .int x3] h (jQi sb D ids shp St n r) := by
  refine jM_of hr rfl (Nat.le_of_ble_eq_true rfl) ?_
  intro p e s m args below meth c hC hret
  have b111 : ∀ (rec6 : Hp → Int32 → Int32 → Int32 → Int32 → Int32 → Option (Int32 × Hp)) (hrec6 : ∀ (h : Hp) (x1 : Int32) (x2 : Int32) (x3 : Int32) (x4 : Int32) (x5 : Int32) , jJ p l e (rmD 1) s m args below meth c 7 sb D ids shp St (fun r => MQ below (jQi sb D ids shp St n r) args s 0 0 (jA sb)) n 0 0 h 6 [(0, .ref 107), (1, .int x1), (2, .int x2), (3, .int x3), (4, .int x4), (5, .int x5)] [] (rec6 h x1 x2 x3 x4 x5)) (h : Hp) (x1 : Int32) (x2 : Int32) (x3 : Int32) (x4 : Int32) (x5 : Int32) , jJ p l e (rmD 1) s m args below meth c 7 sb D ids shp St (fun r => MQ below (jQi sb D ids shp St n r) args s 0 0 (jA sb)) n 0 0 h 111 [(0, .ref 107), (1, .int x1), (2, .int x2), (3, .int x3), (4, .int x4), (5, .int x5)] [] (fX10_forceOf_111 rec6 h x1 x2 x3 x4 x5) := by
    intro rec6 hrec6 h x1 x2 x3 x4 x5 
    unfold fX10_forceOf_111
    refine j_iinc hC (v := (x5 + (1 : Int32))) (lv' := [(5, .int (x5 + (1 : Int32))), (0, .ref 107), (1, .int x1), (2, .int x2), (3, .int x3), (4, .int x4)]) 5 rfl (congrArg (fun z => x5 + z) (show Int32.ofInt (1) = (1 : Int32) from by decide)) (by decide) rfl (dOk_at dt_X10_forceOf 59 rfl) ?_
    refine j_goto hC (tgt := 6) (by decide) (dOk_at dt_X10_forceOf 60 rfl) ?_
    refine j_sub [1, 2, 3, 4, 5, 0] rfl ?_
    exact hrec6 h x1 x2 x3 x4 (x5 + (1 : Int32)) 
  have b65 : ∀ (rec6 : Hp → Int32 → Int32 → Int32 → Int32 → Int32 → Option (Int32 × Hp)) (hrec6 : ∀ (h : Hp) (x1 : Int32) (x2 : Int32) (x3 : Int32) (x4 : Int32) (x5 : Int32) , jJ p l e (rmD 1) s m args below meth c 7 sb D ids shp St (fun r => MQ below (jQi sb D ids shp St n r) args s 0 0 (jA sb)) n 0 0 h 6 [(0, .ref 107), (1, .int x1), (2, .int x2), (3, .int x3), (4, .int x4), (5, .int x5)] [] (rec6 h x1 x2 x3 x4 x5)) (h : Hp) (x1 : Int32) (x2 : Int32) (x3 : Int32) (x4 : Int32) (x5 : Int32) (s0 : Int32) , jJ p l e (rmD 1) s m args below meth c 7 sb D ids shp St (fun r => MQ below (jQi sb D ids shp St n r) args s 0 0 (jA sb)) n 0 0 h 65 [(0, .ref 107), (1, .int x1), (2, .int x2), (3, .int x3), (4, .int x4), (5, .int x5)] [.int s0] (fX10_forceOf_65 rec6 h x1 x2 x3 x4 x5 s0) := by
    intro rec6 hrec6 h x1 x2 x3 x4 x5 s0 
    unfold fX10_forceOf_65
    refine j_istore hC (lv' := [(6, .int s0), (0, .ref 107), (1, .int x1), (2, .int x2), (3, .int x3), (4, .int x4), (5, .int x5)]) (by decide) rfl (dOk_at dt_X10_forceOf 34 rfl) ?_
    refine j_iload hC 0 rfl (dOk_at dt_X10_forceOf 35 rfl) ?_
    refine j_if_lt hC (tgt := 111) (by decide) (dOk_at dt_X10_forceOf 36 rfl) (fun q_5 => ?_) (fun q_5 => ?_)
    · refine j_sub [1, 2, 3, 4, 5, 6] rfl ?_
      exact b111 rec6 hrec6 h x1 x2 x3 x4 x5 
    · refine j_aload_n hC 1 rfl rfl (dOk_at dt_X10_forceOf 37 rfl) ?_
      refine j_getR hC flX10_109 (show shp 107 = (10, 88) from rfl) (Nat.lt_of_lt_of_le (Nat.le_of_ble_eq_true rfl : 107 < 152) hN) (by decide) (by decide) (fun _ _ _ => rfl) (fun hs => hs 107 62 139 rfl) (dOk_at dt_X10_forceOf 38 rfl) ?_
      refine j_iconst hC (v := (5 : Int32)) rfl (dOk_at dt_X10_forceOf 39 rfl) ?_
      refine j_iload_n hC 2 rfl rfl (dOk_at dt_X10_forceOf 40 rfl) ?_
      refine j_imul hC (dOk_at dt_X10_forceOf 41 rfl) ?_
      refine j_iload_n hC 3 rfl rfl (dOk_at dt_X10_forceOf 42 rfl) ?_
      refine j_iadd hC (dOk_at dt_X10_forceOf 43 rfl) ?_
      refine j_iald hC (show shp 139 = (21, 10) from rfl) (Nat.lt_of_lt_of_le (Nat.le_of_ble_eq_true rfl : 139 < 152) hN) (dOk_at dt_X10_forceOf 44 rfl) ?_
      refine j_iload hC 0 rfl (dOk_at dt_X10_forceOf 45 rfl) ?_
      refine j_callSi hC clX10_282 (fun rz hrz => c_X10_isOf hN _ _ _ rz hrz) rfl ⟨Nat.le_of_ble_eq_true rfl, Nat.le_of_ble_eq_true rfl⟩ ⟨Nat.le_refl 0, Nat.le_refl 0⟩ (As := [.int (hI h 139 (Int32.toNatClampNeg (((5 : Int32) * x1) + x2))), .int s0]) (st := []) rfl (Nat.le_of_ble_eq_true rfl) (dOk_at dt_X10_forceOf 46 rfl) (fun v_6 h_7 _ => ?_)
      refine j_if_eq hC (tgt := 111) (by decide) (dOk_at dt_X10_forceOf 47 rfl) (fun q_8 => ?_) (fun q_8 => ?_)
      · refine j_sub [1, 2, 3, 4, 5, 6] rfl ?_
        exact b111 rec6 hrec6 h_7 x1 x2 x3 x4 x5 
      · refine j_aload_n hC 1 rfl rfl (dOk_at dt_X10_forceOf 48 rfl) ?_
        refine j_getR hC flX10_30 (show shp 107 = (10, 88) from rfl) (Nat.lt_of_lt_of_le (Nat.le_of_ble_eq_true rfl : 107 < 152) hN) (by decide) (by decide) (fun _ _ _ => rfl) (fun hs => hs 107 29 113 rfl) (dOk_at dt_X10_forceOf 49 rfl) ?_
        refine j_iload hC 0 rfl (dOk_at dt_X10_forceOf 50 rfl) ?_
        refine j_iald hC (show shp 113 = (21, 16) from rfl) (Nat.lt_of_lt_of_le (Nat.le_of_ble_eq_true rfl : 113 < 152) hN) (dOk_at dt_X10_forceOf 51 rfl) ?_
        refine j_iload hC 5 rfl (dOk_at dt_X10_forceOf 52 rfl) ?_
        refine j_icmp_le hC (tgt := 111) (by decide) (dOk_at dt_X10_forceOf 53 rfl) (fun q_9 => ?_) (fun q_9 => ?_)
        · refine j_sub [1, 2, 3, 4, 5, 6] rfl ?_
          exact b111 rec6 hrec6 h_7 x1 x2 x3 x4 x5 
        · refine j_aload_n hC 1 rfl rfl (dOk_at dt_X10_forceOf 54 rfl) ?_
          refine j_getR hC flX10_30 (show shp 107 = (10, 88) from rfl) (Nat.lt_of_lt_of_le (Nat.le_of_ble_eq_true rfl : 107 < 152) hN) (by decide) (by decide) (fun _ _ _ => rfl) (fun hs => hs 107 29 113 rfl) (dOk_at dt_X10_forceOf 55 rfl) ?_
          refine j_iload hC 0 rfl (dOk_at dt_X10_forceOf 56 rfl) ?_
          refine j_iald hC (show shp 113 = (21, 16) from rfl) (Nat.lt_of_lt_of_le (Nat.le_of_ble_eq_true rfl : 113 < 152) hN) (dOk_at dt_X10_forceOf 57 rfl) ?_
          refine j_istore hC (lv' := [(4, .int (hI h_7 113 (Int32.toNatClampNeg s0))), (6, .int s0), (0, .ref 107), (1, .int x1), (2, .int x2), (3, .int x3), (5, .int x5)]) (by decide) rfl (dOk_at dt_X10_forceOf 58 rfl) ?_
          refine j_sub [2, 3, 4, 5, 0, 6] rfl ?_
          exact b111 rec6 hrec6 h_7 x1 x2 x3 (hI h_7 113 (Int32.toNatClampNeg s0)) x5 
  have b64 : ∀ (rec6 : Hp → Int32 → Int32 → Int32 → Int32 → Int32 → Option (Int32 × Hp)) (hrec6 : ∀ (h : Hp) (x1 : Int32) (x2 : Int32) (x3 : Int32) (x4 : Int32) (x5 : Int32) , jJ p l e (rmD 1) s m args below meth c 7 sb D ids shp St (fun r => MQ below (jQi sb D ids shp St n r) args s 0 0 (jA sb)) n 0 0 h 6 [(0, .ref 107), (1, .int x1), (2, .int x2), (3, .int x3), (4, .int x4), (5, .int x5)] [] (rec6 h x1 x2 x3 x4 x5)) (h : Hp) (x1 : Int32) (x2 : Int32) (x3 : Int32) (x4 : Int32) (x5 : Int32) , jJ p l e (rmD 1) s m args below meth c 7 sb D ids shp St (fun r => MQ below (jQi sb D ids shp St n r) args s 0 0 (jA sb)) n 0 0 h 64 [(0, .ref 107), (1, .int x1), (2, .int x2), (3, .int x3), (4, .int x4), (5, .int x5)] [] (fX10_forceOf_64 rec6 h x1 x2 x3 x4 x5) := by
    intro rec6 hrec6 h x1 x2 x3 x4 x5 
    unfold fX10_forceOf_64
    refine j_iconst hC (v := (-1 : Int32)) rfl (dOk_at dt_X10_forceOf 33 rfl) ?_
    exact b65 rec6 hrec6 h x1 x2 x3 x4 x5 (-1 : Int32) 
  have b6 : ∀ (fu : Nat) (h : Hp) (x1 : Int32) (x2 : Int32) (x3 : Int32) (x4 : Int32) (x5 : Int32) , jJ p l e (rmD 1) s m args below meth c 7 sb D ids shp St (fun r => MQ below (jQi sb D ids shp St n r) args s 0 0 (jA sb)) n 0 0 h 6 [(0, .ref 107), (1, .int x1), (2, .int x2), (3, .int x3), (4, .int x4), (5, .int x5)] [] (fX10_forceOf_6 fu h x1 x2 x3 x4 x5) := by
    intro fu 
    induction fu with
    | zero => intro h x1 x2 x3 x4 x5 ; exact j_none
    | succ fu ih =>
    intro h x1 x2 x3 x4 x5 
    rw [fX10_forceOf_6]
    refine j_iload hC 5 rfl (dOk_at dt_X10_forceOf 4 rfl) ?_
    refine j_aload_n hC 0 rfl rfl (dOk_at dt_X10_forceOf 5 rfl) ?_
    refine j_getI hC flX10_246 (show shp 107 = (10, 88) from rfl) (Nat.lt_of_lt_of_le (Nat.le_of_ble_eq_true rfl : 107 < 152) hN) (by decide) (by decide) (fun _ _ _ => rfl) (dOk_at dt_X10_forceOf 6 rfl) ?_
    refine j_icmp_ge hC (tgt := 117) (by decide) (dOk_at dt_X10_forceOf 7 rfl) (fun q_1 => ?_) (fun q_1 => ?_)
    · refine j_iload hC 4 rfl (dOk_at dt_X10_forceOf 61 rfl) ?_
      exact j_iret hC hret (dOk_at dt_X10_forceOf 62 rfl)
    · refine j_aload_n hC 0 rfl rfl (dOk_at dt_X10_forceOf 8 rfl) ?_
      refine j_getR hC flX10_39 (show shp 107 = (10, 88) from rfl) (Nat.lt_of_lt_of_le (Nat.le_of_ble_eq_true rfl : 107 < 152) hN) (by decide) (by decide) (fun _ _ _ => rfl) (fun hs => hs 107 32 116 rfl) (dOk_at dt_X10_forceOf 9 rfl) ?_
      refine j_iload hC 5 rfl (dOk_at dt_X10_forceOf 10 rfl) ?_
      refine j_iald hC (show shp 116 = (21, 32) from rfl) (Nat.lt_of_lt_of_le (Nat.le_of_ble_eq_true rfl : 116 < 152) hN) (dOk_at dt_X10_forceOf 11 rfl) ?_
      refine j_iload_n hC 3 rfl rfl (dOk_at dt_X10_forceOf 12 rfl) ?_
      refine j_icmp_ne hC (tgt := 36) (by decide) (dOk_at dt_X10_forceOf 13 rfl) (fun q_2 => ?_) (fun q_2 => ?_)
      · refine j_aload_n hC 0 rfl rfl (dOk_at dt_X10_forceOf 19 rfl) ?_
        refine j_getI hC flX10_413 (show shp 107 = (10, 88) from rfl) (Nat.lt_of_lt_of_le (Nat.le_of_ble_eq_true rfl : 107 < 152) hN) (by decide) (by decide) (fun _ _ _ => rfl) (dOk_at dt_X10_forceOf 20 rfl) ?_
        refine j_if_eq hC (tgt := 64) (by decide) (dOk_at dt_X10_forceOf 21 rfl) (fun q_3 => ?_) (fun q_3 => ?_)
        · exact b64 (fX10_forceOf_6 fu) ih h x1 x2 x3 x4 x5 
        · refine j_aload_n hC 0 rfl rfl (dOk_at dt_X10_forceOf 22 rfl) ?_
          refine j_getR hC flX10_36 (show shp 107 = (10, 88) from rfl) (Nat.lt_of_lt_of_le (Nat.le_of_ble_eq_true rfl : 107 < 152) hN) (by decide) (by decide) (fun _ _ _ => rfl) (fun hs => hs 107 31 115 rfl) (dOk_at dt_X10_forceOf 23 rfl) ?_
          refine j_iload hC 5 rfl (dOk_at dt_X10_forceOf 24 rfl) ?_
          refine j_iald hC (show shp 115 = (21, 32) from rfl) (Nat.lt_of_lt_of_le (Nat.le_of_ble_eq_true rfl : 115 < 152) hN) (dOk_at dt_X10_forceOf 25 rfl) ?_
          refine j_iload_n hC 3 rfl rfl (dOk_at dt_X10_forceOf 26 rfl) ?_
          refine j_icmp_ne hC (tgt := 64) (by decide) (dOk_at dt_X10_forceOf 27 rfl) (fun q_4 => ?_) (fun q_4 => ?_)
          · exact b64 (fX10_forceOf_6 fu) ih h x1 x2 x3 x4 x5 
          · refine j_aload_n hC 0 rfl rfl (dOk_at dt_X10_forceOf 28 rfl) ?_
            refine j_getR hC flX10_39 (show shp 107 = (10, 88) from rfl) (Nat.lt_of_lt_of_le (Nat.le_of_ble_eq_true rfl : 107 < 152) hN) (by decide) (by decide) (fun _ _ _ => rfl) (fun hs => hs 107 32 116 rfl) (dOk_at dt_X10_forceOf 29 rfl) ?_
            refine j_iload hC 5 rfl (dOk_at dt_X10_forceOf 30 rfl) ?_
            refine j_iald hC (show shp 116 = (21, 32) from rfl) (Nat.lt_of_lt_of_le (Nat.le_of_ble_eq_true rfl : 116 < 152) hN) (dOk_at dt_X10_forceOf 31 rfl) ?_
            refine j_goto hC (tgt := 65) (by decide) (dOk_at dt_X10_forceOf 32 rfl) ?_
            exact b65 (fX10_forceOf_6 fu) ih h x1 x2 x3 x4 x5 (hI h 116 (Int32.toNatClampNeg x5)) 
      · refine j_aload_n hC 0 rfl rfl (dOk_at dt_X10_forceOf 14 rfl) ?_
        refine j_getR hC flX10_36 (show shp 107 = (10, 88) from rfl) (Nat.lt_of_lt_of_le (Nat.le_of_ble_eq_true rfl : 107 < 152) hN) (by decide) (by decide) (fun _ _ _ => rfl) (fun hs => hs 107 31 115 rfl) (dOk_at dt_X10_forceOf 15 rfl) ?_
        refine j_iload hC 5 rfl (dOk_at dt_X10_forceOf 16 rfl) ?_
        refine j_iald hC (show shp 115 = (21, 32) from rfl) (Nat.lt_of_lt_of_le (Nat.le_of_ble_eq_true rfl : 115 < 152) hN) (dOk_at dt_X10_forceOf 17 rfl) ?_
        refine j_goto hC (tgt := 65) (by decide) (dOk_at dt_X10_forceOf 18 rfl) ?_
        exact b65 (fX10_forceOf_6 fu) ih h x1 x2 x3 x4 x5 (hI h 115 (Int32.toNatClampNeg x5)) 
  unfold fX10_forceOf
  refine j_iconst hC (v := (0 : Int32)) rfl (dOk_at dt_X10_forceOf 0 rfl) ?_
  refine j_istore hC (lv' := [(4, .int (0 : Int32)), (0, .ref 107), (1, .int x1), (2, .int x2), (3, .int x3)]) (by decide) rfl (dOk_at dt_X10_forceOf 1 rfl) ?_
  refine j_iconst hC (v := (0 : Int32)) rfl (dOk_at dt_X10_forceOf 2 rfl) ?_
  refine j_istore hC (lv' := [(5, .int (0 : Int32)), (4, .int (0 : Int32)), (0, .ref 107), (1, .int x1), (2, .int x2), (3, .int x3)]) (by decide) rfl (dOk_at dt_X10_forceOf 3 rfl) ?_
  refine j_sub [2, 3, 4, 5, 1, 0] rfl ?_
  exact b6 FU h x1 x2 x3 (0 : Int32) (0 : Int32) 
def tb_X10_layNames : List (Nat × Instr × Nat) := [(0, .aload_n 0, 1), (1, .getfield 45, 3), (4, .iload_n 2, 1), (5, .iaload, 1), (6, .istore 4, 2), (8, .aload_n 0, 1), (9, .getfield 96, 3), (12, .iconst 0, 1), (13, .aload_n 0, 1), (14, .getfield 30, 3), (17, .iload 4, 2), (19, .iaload, 1), (20, .i2l, 1), (21, .lastore, 1), (22, .aload_n 0, 1), (23, .getfield 96, 3), (26, .iconst 1, 1), (27, .aload_n 0, 1), (28, .getfield 33, 3), (31, .iload 4, 2), (33, .iaload, 1), (34, .i2l, 1), (35, .lastore, 1), (36, .aload_n 0, 1), (37, .getfield 96, 3), (40, .iconst 2, 1), (41, .aload_n 0, 1), (42, .getfield 103, 3), (45, .iconst 5, 1), (46, .iload_n 1, 1), (47, .imul, 1), (48, .iload_n 2, 1), (49, .iadd, 1), (50, .iaload, 1), (51, .i2l, 1), (52, .lastore, 1), (53, .aload_n 0, 1), (54, .getfield 96, 3), (57, .iconst 3, 1), (58, .aload_n 0, 1), (59, .iload_n 1, 1), (60, .iload_n 3, 1), (61, .iload 4, 2), (63, .invokevirtual 419, 3), (66, .i2l, 1), (67, .lastore, 1), (68, .aload_n 0, 1), (69, .getfield 96, 3), (72, .iconst 4, 1), (73, .aload_n 0, 1), (74, .getfield 112, 3), (77, .iconst 5, 1), (78, .iload_n 1, 1), (79, .imul, 1), (80, .iload_n 3, 1), (81, .iadd, 1), (82, .iaload, 1), (83, .i2l, 1), (84, .lastore, 1), (85, .aload_n 0, 1), (86, .getfield 96, 3), (89, .iconst 5, 1), (90, .aload_n 0, 1), (91, .getfield 109, 3), (94, .iconst 5, 1), (95, .iload_n 1, 1), (96, .imul, 1), (97, .iload_n 3, 1), (98, .iadd, 1), (99, .iaload, 1), (100, .invokestatic 423, 3), (103, .i2l, 1), (104, .lastore, 1), (105, .aload_n 0, 1), (106, .getfield 96, 3), (109, .bipush 6, 2), (111, .aload_n 0, 1), (112, .getfield 121, 3), (115, .iload_n 1, 1), (116, .iaload, 1), (117, .i2l, 1), (118, .lastore, 1), (119, .return_, 1)]
theorem dt_X10_layNames : dOk cX10_layNames tb_X10_layNames = true := by decide +kernel
def fX10_layNames (h : Hp) (x1 : Int32) (x2 : Int32) (x3 : Int32) : Option (Hp) := if inb x2 10 then (if inb (hI h 118 (Int32.toNatClampNeg x2)) 16 then (if inb (0 : Int32) 7 then (if inb (hI h 118 (Int32.toNatClampNeg x2)) 16 then (if inb (1 : Int32) 7 then (if inb (((5 : Int32) * x1) + x2) 10 then (if inb (2 : Int32) 7 then (bnd (fX10_forceOf (uJ (uJ (uJ h 135 (Int32.toNatClampNeg (0 : Int32)) (Int32.toInt64 (hI h 113 (Int32.toNatClampNeg (hI h 118 (Int32.toNatClampNeg x2)))))) 135 (Int32.toNatClampNeg (1 : Int32)) (Int32.toInt64 (hI (uJ h 135 (Int32.toNatClampNeg (0 : Int32)) (Int32.toInt64 (hI h 113 (Int32.toNatClampNeg (hI h 118 (Int32.toNatClampNeg x2)))))) 114 (Int32.toNatClampNeg (hI h 118 (Int32.toNatClampNeg x2)))))) 135 (Int32.toNatClampNeg (2 : Int32)) (Int32.toInt64 (hI (uJ (uJ h 135 (Int32.toNatClampNeg (0 : Int32)) (Int32.toInt64 (hI h 113 (Int32.toNatClampNeg (hI h 118 (Int32.toNatClampNeg x2)))))) 135 (Int32.toNatClampNeg (1 : Int32)) (Int32.toInt64 (hI (uJ h 135 (Int32.toNatClampNeg (0 : Int32)) (Int32.toInt64 (hI h 113 (Int32.toNatClampNeg (hI h 118 (Int32.toNatClampNeg x2)))))) 114 (Int32.toNatClampNeg (hI h 118 (Int32.toNatClampNeg x2)))))) 137 (Int32.toNatClampNeg (((5 : Int32) * x1) + x2))))) x1 x3 (hI h 118 (Int32.toNatClampNeg x2))) (fun v_1 h_2 => if inb (3 : Int32) 7 then (if inb (((5 : Int32) * x1) + x3) 10 then (if inb (4 : Int32) 7 then (if inb (((5 : Int32) * x1) + x3) 10 then (bnd (fX10_manyOf (uJ (uJ h_2 135 (Int32.toNatClampNeg (3 : Int32)) (Int32.toInt64 v_1)) 135 (Int32.toNatClampNeg (4 : Int32)) (Int32.toInt64 (hI (uJ h_2 135 (Int32.toNatClampNeg (3 : Int32)) (Int32.toInt64 v_1)) 140 (Int32.toNatClampNeg (((5 : Int32) * x1) + x3))))) (hI (uJ (uJ h_2 135 (Int32.toNatClampNeg (3 : Int32)) (Int32.toInt64 v_1)) 135 (Int32.toNatClampNeg (4 : Int32)) (Int32.toInt64 (hI (uJ h_2 135 (Int32.toNatClampNeg (3 : Int32)) (Int32.toInt64 v_1)) 140 (Int32.toNatClampNeg (((5 : Int32) * x1) + x3))))) 139 (Int32.toNatClampNeg (((5 : Int32) * x1) + x3)))) (fun v_3 h_4 => if inb (5 : Int32) 7 then (if inb x1 2 then (if inb (6 : Int32) 7 then (some (uJ (uJ h_4 135 (Int32.toNatClampNeg (5 : Int32)) (Int32.toInt64 v_3)) 135 (Int32.toNatClampNeg (6 : Int32)) (Int32.toInt64 (hI (uJ h_4 135 (Int32.toNatClampNeg (5 : Int32)) (Int32.toInt64 v_3)) 143 (Int32.toNatClampNeg x1))))) else none) else none) else none)) else none) else none) else none) else none)) else none) else none) else none) else none) else none) else none) else none
set_option maxRecDepth 100000 in
set_option maxHeartbeats 4000000 in
theorem c_X10_layNames {l : Launch} {sb : State} {D : va_G} {ids : Nat → ClassId} {n : Nat} (hN : 152 ≤ n) (h : Hp) (x1 : Int32) (x2 : Int32) (x3 : Int32) (r : Hp) (hr : fX10_layNames h x1 x2 x3 = some r) : jM l yX10_layNames cX10_layNames 5 none 2 sb D ids shp St n [.ref 107, .int x1, .int x2, .int x3] h (jQv sb D ids shp St n r) := by
  refine jM_of hr rfl (Nat.le_of_ble_eq_true rfl) ?_
  intro p e s m args below meth c hC hret
  unfold fX10_layNames
  refine j_aload_n hC 0 rfl rfl (dOk_at dt_X10_layNames 0 rfl) ?_
  refine j_getR hC flX10_45 (show shp 107 = (10, 88) from rfl) (Nat.lt_of_lt_of_le (Nat.le_of_ble_eq_true rfl : 107 < 152) hN) (by decide) (by decide) (fun _ _ _ => rfl) (fun hs => hs 107 34 118 rfl) (dOk_at dt_X10_layNames 1 rfl) ?_
  refine j_iload_n hC 2 rfl rfl (dOk_at dt_X10_layNames 2 rfl) ?_
  refine j_iald hC (show shp 118 = (21, 10) from rfl) (Nat.lt_of_lt_of_le (Nat.le_of_ble_eq_true rfl : 118 < 152) hN) (dOk_at dt_X10_layNames 3 rfl) ?_
  refine j_istore hC (lv' := [(4, .int (hI h 118 (Int32.toNatClampNeg x2))), (0, .ref 107), (1, .int x1), (2, .int x2), (3, .int x3)]) (by decide) rfl (dOk_at dt_X10_layNames 4 rfl) ?_
  refine j_aload_n hC 1 rfl rfl (dOk_at dt_X10_layNames 5 rfl) ?_
  refine j_getR hC flX10_96 (show shp 107 = (10, 88) from rfl) (Nat.lt_of_lt_of_le (Nat.le_of_ble_eq_true rfl : 107 < 152) hN) (by decide) (by decide) (fun _ _ _ => rfl) (fun hs => hs 107 57 135 rfl) (dOk_at dt_X10_layNames 6 rfl) ?_
  refine j_iconst hC (v := (0 : Int32)) rfl (dOk_at dt_X10_layNames 7 rfl) ?_
  refine j_aload_n hC 1 rfl rfl (dOk_at dt_X10_layNames 8 rfl) ?_
  refine j_getR hC flX10_30 (show shp 107 = (10, 88) from rfl) (Nat.lt_of_lt_of_le (Nat.le_of_ble_eq_true rfl : 107 < 152) hN) (by decide) (by decide) (fun _ _ _ => rfl) (fun hs => hs 107 29 113 rfl) (dOk_at dt_X10_layNames 9 rfl) ?_
  refine j_iload hC 0 rfl (dOk_at dt_X10_layNames 10 rfl) ?_
  refine j_iald hC (show shp 113 = (21, 16) from rfl) (Nat.lt_of_lt_of_le (Nat.le_of_ble_eq_true rfl : 113 < 152) hN) (dOk_at dt_X10_layNames 11 rfl) ?_
  refine j_i2l hC (dOk_at dt_X10_layNames 12 rfl) ?_
  refine j_last hC St_SP (show shp 135 = (22, 7) from rfl) (Nat.lt_of_lt_of_le (Nat.le_of_ble_eq_true rfl : 135 < 152) hN) (dOk_at dt_X10_layNames 13 rfl) ?_
  refine j_aload_n hC 1 rfl rfl (dOk_at dt_X10_layNames 14 rfl) ?_
  refine j_getR hC flX10_96 (show shp 107 = (10, 88) from rfl) (Nat.lt_of_lt_of_le (Nat.le_of_ble_eq_true rfl : 107 < 152) hN) (by decide) (by decide) (fun _ _ _ => rfl) (fun hs => hs 107 57 135 rfl) (dOk_at dt_X10_layNames 15 rfl) ?_
  refine j_iconst hC (v := (1 : Int32)) rfl (dOk_at dt_X10_layNames 16 rfl) ?_
  refine j_aload_n hC 1 rfl rfl (dOk_at dt_X10_layNames 17 rfl) ?_
  refine j_getR hC flX10_33 (show shp 107 = (10, 88) from rfl) (Nat.lt_of_lt_of_le (Nat.le_of_ble_eq_true rfl : 107 < 152) hN) (by decide) (by decide) (fun _ _ _ => rfl) (fun hs => hs 107 30 114 rfl) (dOk_at dt_X10_layNames 18 rfl) ?_
  refine j_iload hC 0 rfl (dOk_at dt_X10_layNames 19 rfl) ?_
  refine j_iald hC (show shp 114 = (21, 16) from rfl) (Nat.lt_of_lt_of_le (Nat.le_of_ble_eq_true rfl : 114 < 152) hN) (dOk_at dt_X10_layNames 20 rfl) ?_
  refine j_i2l hC (dOk_at dt_X10_layNames 21 rfl) ?_
  refine j_last hC St_SP (show shp 135 = (22, 7) from rfl) (Nat.lt_of_lt_of_le (Nat.le_of_ble_eq_true rfl : 135 < 152) hN) (dOk_at dt_X10_layNames 22 rfl) ?_
  refine j_aload_n hC 1 rfl rfl (dOk_at dt_X10_layNames 23 rfl) ?_
  refine j_getR hC flX10_96 (show shp 107 = (10, 88) from rfl) (Nat.lt_of_lt_of_le (Nat.le_of_ble_eq_true rfl : 107 < 152) hN) (by decide) (by decide) (fun _ _ _ => rfl) (fun hs => hs 107 57 135 rfl) (dOk_at dt_X10_layNames 24 rfl) ?_
  refine j_iconst hC (v := (2 : Int32)) rfl (dOk_at dt_X10_layNames 25 rfl) ?_
  refine j_aload_n hC 1 rfl rfl (dOk_at dt_X10_layNames 26 rfl) ?_
  refine j_getR hC flX10_103 (show shp 107 = (10, 88) from rfl) (Nat.lt_of_lt_of_le (Nat.le_of_ble_eq_true rfl : 107 < 152) hN) (by decide) (by decide) (fun _ _ _ => rfl) (fun hs => hs 107 60 137 rfl) (dOk_at dt_X10_layNames 27 rfl) ?_
  refine j_iconst hC (v := (5 : Int32)) rfl (dOk_at dt_X10_layNames 28 rfl) ?_
  refine j_iload_n hC 2 rfl rfl (dOk_at dt_X10_layNames 29 rfl) ?_
  refine j_imul hC (dOk_at dt_X10_layNames 30 rfl) ?_
  refine j_iload_n hC 3 rfl rfl (dOk_at dt_X10_layNames 31 rfl) ?_
  refine j_iadd hC (dOk_at dt_X10_layNames 32 rfl) ?_
  refine j_iald hC (show shp 137 = (21, 10) from rfl) (Nat.lt_of_lt_of_le (Nat.le_of_ble_eq_true rfl : 137 < 152) hN) (dOk_at dt_X10_layNames 33 rfl) ?_
  refine j_i2l hC (dOk_at dt_X10_layNames 34 rfl) ?_
  refine j_last hC St_SP (show shp 135 = (22, 7) from rfl) (Nat.lt_of_lt_of_le (Nat.le_of_ble_eq_true rfl : 135 < 152) hN) (dOk_at dt_X10_layNames 35 rfl) ?_
  refine j_aload_n hC 1 rfl rfl (dOk_at dt_X10_layNames 36 rfl) ?_
  refine j_getR hC flX10_96 (show shp 107 = (10, 88) from rfl) (Nat.lt_of_lt_of_le (Nat.le_of_ble_eq_true rfl : 107 < 152) hN) (by decide) (by decide) (fun _ _ _ => rfl) (fun hs => hs 107 57 135 rfl) (dOk_at dt_X10_layNames 37 rfl) ?_
  refine j_iconst hC (v := (3 : Int32)) rfl (dOk_at dt_X10_layNames 38 rfl) ?_
  refine j_aload_n hC 1 rfl rfl (dOk_at dt_X10_layNames 39 rfl) ?_
  refine j_iload_n hC 2 rfl rfl (dOk_at dt_X10_layNames 40 rfl) ?_
  refine j_iload_n hC 4 rfl rfl (dOk_at dt_X10_layNames 41 rfl) ?_
  refine j_iload hC 0 rfl (dOk_at dt_X10_layNames 42 rfl) ?_
  refine j_callVi hC clX10_419 (fun rz hrz => c_X10_forceOf hN _ _ _ _ rz hrz) (show shp 107 = (10, 88) from rfl) (Nat.lt_of_lt_of_le (Nat.le_of_ble_eq_true rfl : 107 < 152) hN) (by decide) rfl rfl ⟨Nat.le_of_ble_eq_true rfl, Nat.le_of_ble_eq_true rfl⟩ ⟨Nat.le_refl 0, Nat.le_refl 0⟩ (As := [.int x1, .int x3, .int (hI h 118 (Int32.toNatClampNeg x2))]) (st := [.int (3 : Int32), .ref 135]) rfl (Nat.le_of_ble_eq_true rfl) (dOk_at dt_X10_layNames 43 rfl) (fun v_1 h_2 _ => ?_)
  refine j_i2l hC (dOk_at dt_X10_layNames 44 rfl) ?_
  refine j_last hC St_SP (show shp 135 = (22, 7) from rfl) (Nat.lt_of_lt_of_le (Nat.le_of_ble_eq_true rfl : 135 < 152) hN) (dOk_at dt_X10_layNames 45 rfl) ?_
  refine j_aload_n hC 1 rfl rfl (dOk_at dt_X10_layNames 46 rfl) ?_
  refine j_getR hC flX10_96 (show shp 107 = (10, 88) from rfl) (Nat.lt_of_lt_of_le (Nat.le_of_ble_eq_true rfl : 107 < 152) hN) (by decide) (by decide) (fun _ _ _ => rfl) (fun hs => hs 107 57 135 rfl) (dOk_at dt_X10_layNames 47 rfl) ?_
  refine j_iconst hC (v := (4 : Int32)) rfl (dOk_at dt_X10_layNames 48 rfl) ?_
  refine j_aload_n hC 1 rfl rfl (dOk_at dt_X10_layNames 49 rfl) ?_
  refine j_getR hC flX10_112 (show shp 107 = (10, 88) from rfl) (Nat.lt_of_lt_of_le (Nat.le_of_ble_eq_true rfl : 107 < 152) hN) (by decide) (by decide) (fun _ _ _ => rfl) (fun hs => hs 107 63 140 rfl) (dOk_at dt_X10_layNames 50 rfl) ?_
  refine j_iconst hC (v := (5 : Int32)) rfl (dOk_at dt_X10_layNames 51 rfl) ?_
  refine j_iload_n hC 2 rfl rfl (dOk_at dt_X10_layNames 52 rfl) ?_
  refine j_imul hC (dOk_at dt_X10_layNames 53 rfl) ?_
  refine j_iload_n hC 4 rfl rfl (dOk_at dt_X10_layNames 54 rfl) ?_
  refine j_iadd hC (dOk_at dt_X10_layNames 55 rfl) ?_
  refine j_iald hC (show shp 140 = (21, 10) from rfl) (Nat.lt_of_lt_of_le (Nat.le_of_ble_eq_true rfl : 140 < 152) hN) (dOk_at dt_X10_layNames 56 rfl) ?_
  refine j_i2l hC (dOk_at dt_X10_layNames 57 rfl) ?_
  refine j_last hC St_SP (show shp 135 = (22, 7) from rfl) (Nat.lt_of_lt_of_le (Nat.le_of_ble_eq_true rfl : 135 < 152) hN) (dOk_at dt_X10_layNames 58 rfl) ?_
  refine j_aload_n hC 1 rfl rfl (dOk_at dt_X10_layNames 59 rfl) ?_
  refine j_getR hC flX10_96 (show shp 107 = (10, 88) from rfl) (Nat.lt_of_lt_of_le (Nat.le_of_ble_eq_true rfl : 107 < 152) hN) (by decide) (by decide) (fun _ _ _ => rfl) (fun hs => hs 107 57 135 rfl) (dOk_at dt_X10_layNames 60 rfl) ?_
  refine j_iconst hC (v := (5 : Int32)) rfl (dOk_at dt_X10_layNames 61 rfl) ?_
  refine j_aload_n hC 1 rfl rfl (dOk_at dt_X10_layNames 62 rfl) ?_
  refine j_getR hC flX10_109 (show shp 107 = (10, 88) from rfl) (Nat.lt_of_lt_of_le (Nat.le_of_ble_eq_true rfl : 107 < 152) hN) (by decide) (by decide) (fun _ _ _ => rfl) (fun hs => hs 107 62 139 rfl) (dOk_at dt_X10_layNames 63 rfl) ?_
  refine j_iconst hC (v := (5 : Int32)) rfl (dOk_at dt_X10_layNames 64 rfl) ?_
  refine j_iload_n hC 2 rfl rfl (dOk_at dt_X10_layNames 65 rfl) ?_
  refine j_imul hC (dOk_at dt_X10_layNames 66 rfl) ?_
  refine j_iload_n hC 4 rfl rfl (dOk_at dt_X10_layNames 67 rfl) ?_
  refine j_iadd hC (dOk_at dt_X10_layNames 68 rfl) ?_
  refine j_iald hC (show shp 139 = (21, 10) from rfl) (Nat.lt_of_lt_of_le (Nat.le_of_ble_eq_true rfl : 139 < 152) hN) (dOk_at dt_X10_layNames 69 rfl) ?_
  refine j_callSi hC clX10_423 (fun rz hrz => c_X10_manyOf hN _ _ rz hrz) rfl ⟨Nat.le_of_ble_eq_true rfl, Nat.le_of_ble_eq_true rfl⟩ ⟨Nat.le_refl 0, Nat.le_refl 0⟩ (As := [.int (hI (uJ (uJ h_2 135 (Int32.toNatClampNeg (3 : Int32)) (Int32.toInt64 v_1)) 135 (Int32.toNatClampNeg (4 : Int32)) (Int32.toInt64 (hI (uJ h_2 135 (Int32.toNatClampNeg (3 : Int32)) (Int32.toInt64 v_1)) 140 (Int32.toNatClampNeg (((5 : Int32) * x1) + x3))))) 139 (Int32.toNatClampNeg (((5 : Int32) * x1) + x3)))]) (st := [.int (5 : Int32), .ref 135]) rfl (Nat.le_of_ble_eq_true rfl) (dOk_at dt_X10_layNames 70 rfl) (fun v_3 h_4 _ => ?_)
  refine j_i2l hC (dOk_at dt_X10_layNames 71 rfl) ?_
  refine j_last hC St_SP (show shp 135 = (22, 7) from rfl) (Nat.lt_of_lt_of_le (Nat.le_of_ble_eq_true rfl : 135 < 152) hN) (dOk_at dt_X10_layNames 72 rfl) ?_
  refine j_aload_n hC 1 rfl rfl (dOk_at dt_X10_layNames 73 rfl) ?_
  refine j_getR hC flX10_96 (show shp 107 = (10, 88) from rfl) (Nat.lt_of_lt_of_le (Nat.le_of_ble_eq_true rfl : 107 < 152) hN) (by decide) (by decide) (fun _ _ _ => rfl) (fun hs => hs 107 57 135 rfl) (dOk_at dt_X10_layNames 74 rfl) ?_
  refine j_bipush hC (v := (6 : Int32)) rfl (dOk_at dt_X10_layNames 75 rfl) ?_
  refine j_aload_n hC 1 rfl rfl (dOk_at dt_X10_layNames 76 rfl) ?_
  refine j_getR hC flX10_121 (show shp 107 = (10, 88) from rfl) (Nat.lt_of_lt_of_le (Nat.le_of_ble_eq_true rfl : 107 < 152) hN) (by decide) (by decide) (fun _ _ _ => rfl) (fun hs => hs 107 66 143 rfl) (dOk_at dt_X10_layNames 77 rfl) ?_
  refine j_iload_n hC 2 rfl rfl (dOk_at dt_X10_layNames 78 rfl) ?_
  refine j_iald hC (show shp 143 = (21, 2) from rfl) (Nat.lt_of_lt_of_le (Nat.le_of_ble_eq_true rfl : 143 < 152) hN) (dOk_at dt_X10_layNames 79 rfl) ?_
  refine j_i2l hC (dOk_at dt_X10_layNames 80 rfl) ?_
  refine j_last hC St_SP (show shp 135 = (22, 7) from rfl) (Nat.lt_of_lt_of_le (Nat.le_of_ble_eq_true rfl : 135 < 152) hN) (dOk_at dt_X10_layNames 81 rfl) ?_
  exact j_vret hC hret (dOk_at dt_X10_layNames 82 rfl)
def tb_X10_lawOf : List (Nat × Instr × Nat) := [(0, .aload_n 0, 1), (1, .iconst 0, 1), (2, .putfield 366, 3), (5, .aload_n 0, 1), (6, .getfield 75, 3), (9, .iload_n 1, 1), (10, .iaload, 1), (11, .istore_n 2, 1), (12, .iload_n 2, 1), (13, .aload_n 0, 1), (14, .getfield 78, 3), (17, .iload_n 1, 1), (18, .iaload, 1), (19, .if_icmp .ge 20, 3), (22, .aload_n 0, 1), (23, .getfield 100, 3), (26, .iload_n 2, 1), (27, .aload_n 0, 1), (28, .iload_n 2, 1), (29, .invokevirtual 426, 3), (32, .lastore, 1), (33, .iinc 2 1, 3), (36, .goto (-24), 3), (39, .aload_n 0, 1), (40, .getfield 366, 3), (43, .ifCond .eq 7, 3), (46, .lconst 0, 1), (47, .goto 16, 3), (50, .aload_n 0, 1), (51, .getfield 100, 3), (54, .aload_n 0, 1), (55, .getfield 78, 3), (58, .iload_n 1, 1), (59, .iaload, 1), (60, .iconst 1, 1), (61, .isub, 1), (62, .laload, 1), (63, .lreturn, 1)]
theorem dt_X10_lawOf : dOk cX10_lawOf tb_X10_lawOf = true := by decide +kernel
def fX10_lawOf_12 : Nat → Hp → Int32 → Int32 → Option (Int64 × Hp)
  | 0, _, _, _ => none
  | fu + 1, h, x1, x2 => if inb x1 6 then (if (hI h 129 (Int32.toNatClampNeg x1)) ≤ x2 then (if (hI h 107 59) = 0 then (if inb x1 6 then (if inb ((hI h 129 (Int32.toNatClampNeg x1)) - (1 : Int32)) 64 then (some ((hJ h 136 (Int32.toNatClampNeg ((hI h 129 (Int32.toNatClampNeg x1)) - (1 : Int32)))), h)) else none) else none) else (some ((0 : Int64), h))) else (bnd (fX10_valueOf h x2) (fun v_3 h_4 => if inb x2 64 then ((fX10_lawOf_12 fu) (uJ h_4 136 (Int32.toNatClampNeg x2) v_3) x1 (x2 + (1 : Int32))) else none))) else none
def fX10_lawOf (h : Hp) (x1 : Int32) : Option (Int64 × Hp) := if inb x1 6 then (fX10_lawOf_12 FU (uI h 107 59 (0 : Int32)) x1 (hI (uI h 107 59 (0 : Int32)) 128 (Int32.toNatClampNeg x1))) else none
set_option maxRecDepth 100000 in
set_option maxHeartbeats 4000000 in
theorem c_X10_lawOf {l : Launch} {sb : State} {D : va_G} {ids : Nat → ClassId} {n : Nat} (hN : 152 ≤ n) (h : Hp) (x1 : Int32) (r : Int64 × Hp) (hr : fX10_lawOf h x1 = some r) : jM l yX10_lawOf cX10_lawOf 3 (some .long) 2 sb D ids shp St n [.ref 107, .int x1] h (jQl sb D ids shp St n r) := by
  refine jM_of hr rfl (Nat.le_of_ble_eq_true rfl) ?_
  intro p e s m args below meth c hC hret
  have b12 : ∀ (fu : Nat) (h : Hp) (x1 : Int32) (x2 : Int32) , jJ p l e (rmD 2) s m args below meth c 3 sb D ids shp St (fun r => MQ below (jQl sb D ids shp St n r) args s 0 0 (jA sb)) n 0 0 h 12 [(0, .ref 107), (1, .int x1), (2, .int x2)] [] (fX10_lawOf_12 fu h x1 x2) := by
    intro fu 
    induction fu with
    | zero => intro h x1 x2 ; exact j_none
    | succ fu ih =>
    intro h x1 x2 
    rw [fX10_lawOf_12]
    refine j_iload_n hC 2 rfl rfl (dOk_at dt_X10_lawOf 8 rfl) ?_
    refine j_aload_n hC 0 rfl rfl (dOk_at dt_X10_lawOf 9 rfl) ?_
    refine j_getR hC flX10_78 (show shp 107 = (10, 88) from rfl) (Nat.lt_of_lt_of_le (Nat.le_of_ble_eq_true rfl : 107 < 152) hN) (by decide) (by decide) (fun _ _ _ => rfl) (fun hs => hs 107 45 129 rfl) (dOk_at dt_X10_lawOf 10 rfl) ?_
    refine j_iload_n hC 1 rfl rfl (dOk_at dt_X10_lawOf 11 rfl) ?_
    refine j_iald hC (show shp 129 = (21, 6) from rfl) (Nat.lt_of_lt_of_le (Nat.le_of_ble_eq_true rfl : 129 < 152) hN) (dOk_at dt_X10_lawOf 12 rfl) ?_
    refine j_icmp_ge hC (tgt := 39) (by decide) (dOk_at dt_X10_lawOf 13 rfl) (fun q_1 => ?_) (fun q_1 => ?_)
    · refine j_aload_n hC 0 rfl rfl (dOk_at dt_X10_lawOf 23 rfl) ?_
      refine j_getI hC flX10_366 (show shp 107 = (10, 88) from rfl) (Nat.lt_of_lt_of_le (Nat.le_of_ble_eq_true rfl : 107 < 152) hN) (by decide) (by decide) (fun _ _ _ => rfl) (dOk_at dt_X10_lawOf 24 rfl) ?_
      refine j_if_eq hC (tgt := 50) (by decide) (dOk_at dt_X10_lawOf 25 rfl) (fun q_2 => ?_) (fun q_2 => ?_)
      · refine j_aload_n hC 0 rfl rfl (dOk_at dt_X10_lawOf 28 rfl) ?_
        refine j_getR hC flX10_100 (show shp 107 = (10, 88) from rfl) (Nat.lt_of_lt_of_le (Nat.le_of_ble_eq_true rfl : 107 < 152) hN) (by decide) (by decide) (fun _ _ _ => rfl) (fun hs => hs 107 58 136 rfl) (dOk_at dt_X10_lawOf 29 rfl) ?_
        refine j_aload_n hC 0 rfl rfl (dOk_at dt_X10_lawOf 30 rfl) ?_
        refine j_getR hC flX10_78 (show shp 107 = (10, 88) from rfl) (Nat.lt_of_lt_of_le (Nat.le_of_ble_eq_true rfl : 107 < 152) hN) (by decide) (by decide) (fun _ _ _ => rfl) (fun hs => hs 107 45 129 rfl) (dOk_at dt_X10_lawOf 31 rfl) ?_
        refine j_iload_n hC 1 rfl rfl (dOk_at dt_X10_lawOf 32 rfl) ?_
        refine j_iald hC (show shp 129 = (21, 6) from rfl) (Nat.lt_of_lt_of_le (Nat.le_of_ble_eq_true rfl : 129 < 152) hN) (dOk_at dt_X10_lawOf 33 rfl) ?_
        refine j_iconst hC (v := (1 : Int32)) rfl (dOk_at dt_X10_lawOf 34 rfl) ?_
        refine j_isub hC (dOk_at dt_X10_lawOf 35 rfl) ?_
        refine j_lald hC (show shp 136 = (22, 64) from rfl) (Nat.lt_of_lt_of_le (Nat.le_of_ble_eq_true rfl : 136 < 152) hN) (dOk_at dt_X10_lawOf 36 rfl) ?_
        exact j_lret hC hret (dOk_at dt_X10_lawOf 37 rfl)
      · refine j_lconst hC (v := (0 : Int64)) rfl (dOk_at dt_X10_lawOf 26 rfl) ?_
        refine j_goto hC (tgt := 63) (by decide) (dOk_at dt_X10_lawOf 27 rfl) ?_
        exact j_lret hC hret (dOk_at dt_X10_lawOf 37 rfl)
    · refine j_aload_n hC 0 rfl rfl (dOk_at dt_X10_lawOf 14 rfl) ?_
      refine j_getR hC flX10_100 (show shp 107 = (10, 88) from rfl) (Nat.lt_of_lt_of_le (Nat.le_of_ble_eq_true rfl : 107 < 152) hN) (by decide) (by decide) (fun _ _ _ => rfl) (fun hs => hs 107 58 136 rfl) (dOk_at dt_X10_lawOf 15 rfl) ?_
      refine j_iload_n hC 2 rfl rfl (dOk_at dt_X10_lawOf 16 rfl) ?_
      refine j_aload_n hC 0 rfl rfl (dOk_at dt_X10_lawOf 17 rfl) ?_
      refine j_iload_n hC 2 rfl rfl (dOk_at dt_X10_lawOf 18 rfl) ?_
      refine j_callVl hC clX10_426 (fun rz hrz => c_X10_valueOf hN _ _ rz hrz) (show shp 107 = (10, 88) from rfl) (Nat.lt_of_lt_of_le (Nat.le_of_ble_eq_true rfl : 107 < 152) hN) (by decide) rfl rfl ⟨Nat.le_of_ble_eq_true rfl, Nat.le_of_ble_eq_true rfl⟩ ⟨Nat.le_refl 0, Nat.le_refl 0⟩ (As := [.int x2]) (st := [.int x2, .ref 136]) rfl (Nat.le_of_ble_eq_true rfl) (dOk_at dt_X10_lawOf 19 rfl) (fun v_3 h_4 _ => ?_)
      refine j_last hC St_SP (show shp 136 = (22, 64) from rfl) (Nat.lt_of_lt_of_le (Nat.le_of_ble_eq_true rfl : 136 < 152) hN) (dOk_at dt_X10_lawOf 20 rfl) ?_
      refine j_iinc hC (v := (x2 + (1 : Int32))) (lv' := [(2, .int (x2 + (1 : Int32))), (0, .ref 107), (1, .int x1)]) 2 rfl (congrArg (fun z => x2 + z) (show Int32.ofInt (1) = (1 : Int32) from by decide)) (by decide) rfl (dOk_at dt_X10_lawOf 21 rfl) ?_
      refine j_goto hC (tgt := 12) (by decide) (dOk_at dt_X10_lawOf 22 rfl) ?_
      refine j_sub [1, 2, 0] rfl ?_
      exact ih (uJ h_4 136 (Int32.toNatClampNeg x2) v_3) x1 (x2 + (1 : Int32)) 
  unfold fX10_lawOf
  refine j_aload_n hC 0 rfl rfl (dOk_at dt_X10_lawOf 0 rfl) ?_
  refine j_iconst hC (v := (0 : Int32)) rfl (dOk_at dt_X10_lawOf 1 rfl) ?_
  refine j_putZ hC St_SP flX10_366 (show shp 107 = (10, 88) from rfl) (Nat.lt_of_lt_of_le (Nat.le_of_ble_eq_true rfl : 107 < 152) hN) (by decide) (by decide) rfl rfl rfl (dOk_at dt_X10_lawOf 2 rfl) ?_
  refine j_aload_n hC 0 rfl rfl (dOk_at dt_X10_lawOf 3 rfl) ?_
  refine j_getR hC flX10_75 (show shp 107 = (10, 88) from rfl) (Nat.lt_of_lt_of_le (Nat.le_of_ble_eq_true rfl : 107 < 152) hN) (by decide) (by decide) (fun _ _ _ => rfl) (fun hs => hs 107 44 128 rfl) (dOk_at dt_X10_lawOf 4 rfl) ?_
  refine j_iload_n hC 1 rfl rfl (dOk_at dt_X10_lawOf 5 rfl) ?_
  refine j_iald hC (show shp 128 = (21, 6) from rfl) (Nat.lt_of_lt_of_le (Nat.le_of_ble_eq_true rfl : 128 < 152) hN) (dOk_at dt_X10_lawOf 6 rfl) ?_
  refine j_istore_n hC rfl (lv' := [(2, .int (hI (uI h 107 59 (0 : Int32)) 128 (Int32.toNatClampNeg x1))), (0, .ref 107), (1, .int x1)]) (by decide) rfl (dOk_at dt_X10_lawOf 7 rfl) ?_
  refine j_sub [1, 2, 0] rfl ?_
  exact b12 FU (uI h 107 59 (0 : Int32)) x1 (hI (uI h 107 59 (0 : Int32)) 128 (Int32.toNatClampNeg x1)) 
def tb_X10_boundLaw : List (Nat × Instr × Nat) := [(0, .aload_n 0, 1), (1, .getfield 72, 3), (4, .iload_n 1, 1), (5, .baload, 1), (6, .ifCond .ne 5, 3), (9, .iload_n 2, 1), (10, .ireturn, 1), (11, .aload_n 0, 1), (12, .iload_n 1, 1), (13, .invokevirtual 430, 3), (16, .lstore 4, 2), (18, .aload_n 0, 1), (19, .getfield 366, 3), (22, .ifCond .eq 5, 3), (25, .iload_n 2, 1), (26, .ireturn, 1), (27, .lload 4, 2), (29, .lconst 0, 1), (30, .lcmp, 1), (31, .ifCond .ge 7, 3), (34, .iconst 0, 1), (35, .goto 18, 3), (38, .lload 4, 2), (40, .iload_n 3, 1), (41, .i2l, 1), (42, .lcmp, 1), (43, .ifCond .le 7, 3), (46, .iload_n 3, 1), (47, .goto 6, 3), (50, .lload 4, 2), (52, .l2i, 1), (53, .ireturn, 1)]
theorem dt_X10_boundLaw : dOk cX10_boundLaw tb_X10_boundLaw = true := by decide +kernel
def fX10_boundLaw (h : Hp) (x1 : Int32) (x2 : Int32) (x3 : Int32) : Option (Int32 × Hp) := if inb x1 6 then (if (hI h 127 (Int32.toNatClampNeg x1)) = 0 then (some (x2, h)) else (bnd (fX10_lawOf h x1) (fun v_2 h_3 => if (hI h_3 107 59) = 0 then (if 0 ≤ (lg_cmp v_2 (0 : Int64)) then (if (lg_cmp v_2 (Int32.toInt64 x3)) ≤ 0 then (some ((Int64.toInt32 v_2), h_3)) else (some (x3, h_3))) else (some ((0 : Int32), h_3))) else (some (x2, h_3))))) else none
set_option maxRecDepth 100000 in
set_option maxHeartbeats 4000000 in
theorem c_X10_boundLaw {l : Launch} {sb : State} {D : va_G} {ids : Nat → ClassId} {n : Nat} (hN : 152 ≤ n) (h : Hp) (x1 : Int32) (x2 : Int32) (x3 : Int32) (r : Int32 × Hp) (hr : fX10_boundLaw h x1 x2 x3 = some r) : jM l yX10_boundLaw cX10_boundLaw 6 (some .int) 3 sb D ids shp St n [.ref 107, .int x1, .int x2, .int x3] h (jQi sb D ids shp St n r) := by
  refine jM_of hr rfl (Nat.le_of_ble_eq_true rfl) ?_
  intro p e s m args below meth c hC hret
  unfold fX10_boundLaw
  refine j_aload_n hC 0 rfl rfl (dOk_at dt_X10_boundLaw 0 rfl) ?_
  refine j_getR hC flX10_72 (show shp 107 = (10, 88) from rfl) (Nat.lt_of_lt_of_le (Nat.le_of_ble_eq_true rfl : 107 < 152) hN) (by decide) (by decide) (fun _ _ _ => rfl) (fun hs => hs 107 43 127 rfl) (dOk_at dt_X10_boundLaw 1 rfl) ?_
  refine j_iload_n hC 1 rfl rfl (dOk_at dt_X10_boundLaw 2 rfl) ?_
  refine j_zald hC (show shp 127 = (23, 6) from rfl) (Nat.lt_of_lt_of_le (Nat.le_of_ble_eq_true rfl : 127 < 152) hN) (dOk_at dt_X10_boundLaw 3 rfl) ?_
  refine j_if_ne hC (tgt := 11) (by decide) (dOk_at dt_X10_boundLaw 4 rfl) (fun q_1 => ?_) (fun q_1 => ?_)
  · refine j_aload_n hC 0 rfl rfl (dOk_at dt_X10_boundLaw 7 rfl) ?_
    refine j_iload_n hC 1 rfl rfl (dOk_at dt_X10_boundLaw 8 rfl) ?_
    refine j_callVl hC clX10_430 (fun rz hrz => c_X10_lawOf hN _ _ rz hrz) (show shp 107 = (10, 88) from rfl) (Nat.lt_of_lt_of_le (Nat.le_of_ble_eq_true rfl : 107 < 152) hN) (by decide) rfl rfl ⟨Nat.le_of_ble_eq_true rfl, Nat.le_of_ble_eq_true rfl⟩ ⟨Nat.le_refl 0, Nat.le_refl 0⟩ (As := [.int x1]) (st := []) rfl (Nat.le_of_ble_eq_true rfl) (dOk_at dt_X10_boundLaw 9 rfl) (fun v_2 h_3 _ => ?_)
    refine j_lstore hC (lv' := [(4, .long v_2), (0, .ref 107), (1, .int x1), (2, .int x2), (3, .int x3)]) (by decide) rfl (dOk_at dt_X10_boundLaw 10 rfl) ?_
    refine j_aload_n hC 1 rfl rfl (dOk_at dt_X10_boundLaw 11 rfl) ?_
    refine j_getI hC flX10_366 (show shp 107 = (10, 88) from rfl) (Nat.lt_of_lt_of_le (Nat.le_of_ble_eq_true rfl : 107 < 152) hN) (by decide) (by decide) (fun _ _ _ => rfl) (dOk_at dt_X10_boundLaw 12 rfl) ?_
    refine j_if_eq hC (tgt := 27) (by decide) (dOk_at dt_X10_boundLaw 13 rfl) (fun q_4 => ?_) (fun q_4 => ?_)
    · refine j_lload hC 0 rfl (dOk_at dt_X10_boundLaw 16 rfl) ?_
      refine j_lconst hC (v := (0 : Int64)) rfl (dOk_at dt_X10_boundLaw 17 rfl) ?_
      refine j_lcmp hC (dOk_at dt_X10_boundLaw 18 rfl) ?_
      refine j_if_ge hC (tgt := 38) (by decide) (dOk_at dt_X10_boundLaw 19 rfl) (fun q_5 => ?_) (fun q_5 => ?_)
      · refine j_lload hC 0 rfl (dOk_at dt_X10_boundLaw 22 rfl) ?_
        refine j_iload_n hC 4 rfl rfl (dOk_at dt_X10_boundLaw 23 rfl) ?_
        refine j_i2l hC (dOk_at dt_X10_boundLaw 24 rfl) ?_
        refine j_lcmp hC (dOk_at dt_X10_boundLaw 25 rfl) ?_
        refine j_if_le hC (tgt := 50) (by decide) (dOk_at dt_X10_boundLaw 26 rfl) (fun q_6 => ?_) (fun q_6 => ?_)
        · refine j_lload hC 0 rfl (dOk_at dt_X10_boundLaw 29 rfl) ?_
          refine j_l2i hC (dOk_at dt_X10_boundLaw 30 rfl) ?_
          exact j_iret hC hret (dOk_at dt_X10_boundLaw 31 rfl)
        · refine j_iload_n hC 4 rfl rfl (dOk_at dt_X10_boundLaw 27 rfl) ?_
          refine j_goto hC (tgt := 53) (by decide) (dOk_at dt_X10_boundLaw 28 rfl) ?_
          exact j_iret hC hret (dOk_at dt_X10_boundLaw 31 rfl)
      · refine j_iconst hC (v := (0 : Int32)) rfl (dOk_at dt_X10_boundLaw 20 rfl) ?_
        refine j_goto hC (tgt := 53) (by decide) (dOk_at dt_X10_boundLaw 21 rfl) ?_
        exact j_iret hC hret (dOk_at dt_X10_boundLaw 31 rfl)
    · refine j_iload_n hC 3 rfl rfl (dOk_at dt_X10_boundLaw 14 rfl) ?_
      exact j_iret hC hret (dOk_at dt_X10_boundLaw 15 rfl)
  · refine j_iload_n hC 2 rfl rfl (dOk_at dt_X10_boundLaw 5 rfl) ?_
    exact j_iret hC hret (dOk_at dt_X10_boundLaw 6 rfl)
def tb_X10_leanOf : List (Nat × Instr × Nat) := [(0, .aload_n 0, 1), (1, .iload_n 1, 1), (2, .iload_n 2, 1), (3, .iload_n 3, 1), (4, .invokevirtual 433, 3), (7, .aload_n 0, 1), (8, .iconst 0, 1), (9, .aload_n 0, 1), (10, .getfield 30, 3), (13, .aload_n 0, 1), (14, .getfield 45, 3), (17, .iload_n 2, 1), (18, .iaload, 1), (19, .iaload, 1), (20, .aload_n 0, 1), (21, .getfield 103, 3), (24, .iconst 5, 1), (25, .iload_n 1, 1), (26, .imul, 1), (27, .iload_n 2, 1), (28, .iadd, 1), (29, .iaload, 1), (30, .imul, 1), (31, .bipush 100, 2), (33, .idiv, 1), (34, .sipush 999, 3), (37, .invokevirtual 436, 3), (40, .ireturn, 1)]
theorem dt_X10_leanOf : dOk cX10_leanOf tb_X10_leanOf = true := by decide +kernel
def fX10_leanOf (h : Hp) (x1 : Int32) (x2 : Int32) (x3 : Int32) : Option (Int32 × Hp) := (fX10_layNames h x1 x2 x3).bind (fun h_2 => if inb x2 10 then (if inb (hI h_2 118 (Int32.toNatClampNeg x2)) 16 then (if inb (((5 : Int32) * x1) + x2) 10 then (bnd (fX10_boundLaw h_2 (0 : Int32) (((hI h_2 113 (Int32.toNatClampNeg (hI h_2 118 (Int32.toNatClampNeg x2)))) * (hI h_2 137 (Int32.toNatClampNeg (((5 : Int32) * x1) + x2)))) / (100 : Int32)) (999 : Int32)) (fun v_3 h_4 => some (v_3, h_4))) else none) else none) else none)
set_option maxRecDepth 100000 in
set_option maxHeartbeats 4000000 in
theorem c_X10_leanOf {l : Launch} {sb : State} {D : va_G} {ids : Nat → ClassId} {n : Nat} (hN : 152 ≤ n) (h : Hp) (x1 : Int32) (x2 : Int32) (x3 : Int32) (r : Int32 × Hp) (hr : fX10_leanOf h x1 x2 x3 = some r) : jM l yX10_leanOf cX10_leanOf 4 (some .int) 4 sb D ids shp St n [.ref 107, .int x1, .int x2, .int x3] h (jQi sb D ids shp St n r) := by
  refine jM_of hr rfl (Nat.le_of_ble_eq_true rfl) ?_
  intro p e s m args below meth c hC hret
  unfold fX10_leanOf
  refine j_aload_n hC 0 rfl rfl (dOk_at dt_X10_leanOf 0 rfl) ?_
  refine j_iload_n hC 1 rfl rfl (dOk_at dt_X10_leanOf 1 rfl) ?_
  refine j_iload_n hC 2 rfl rfl (dOk_at dt_X10_leanOf 2 rfl) ?_
  refine j_iload_n hC 3 rfl rfl (dOk_at dt_X10_leanOf 3 rfl) ?_
  refine j_callVv hC clX10_433 (fun rz hrz => c_X10_layNames hN _ _ _ _ rz hrz) (show shp 107 = (10, 88) from rfl) (Nat.lt_of_lt_of_le (Nat.le_of_ble_eq_true rfl : 107 < 152) hN) (by decide) rfl rfl ⟨Nat.le_of_ble_eq_true rfl, Nat.le_of_ble_eq_true rfl⟩ ⟨Nat.le_refl 0, Nat.le_refl 0⟩ (As := [.int x1, .int x2, .int x3]) (st := []) rfl (Nat.le_of_ble_eq_true rfl) (dOk_at dt_X10_leanOf 4 rfl) (fun h_2 _ => ?_)
  refine j_aload_n hC 0 rfl rfl (dOk_at dt_X10_leanOf 5 rfl) ?_
  refine j_iconst hC (v := (0 : Int32)) rfl (dOk_at dt_X10_leanOf 6 rfl) ?_
  refine j_aload_n hC 0 rfl rfl (dOk_at dt_X10_leanOf 7 rfl) ?_
  refine j_getR hC flX10_30 (show shp 107 = (10, 88) from rfl) (Nat.lt_of_lt_of_le (Nat.le_of_ble_eq_true rfl : 107 < 152) hN) (by decide) (by decide) (fun _ _ _ => rfl) (fun hs => hs 107 29 113 rfl) (dOk_at dt_X10_leanOf 8 rfl) ?_
  refine j_aload_n hC 0 rfl rfl (dOk_at dt_X10_leanOf 9 rfl) ?_
  refine j_getR hC flX10_45 (show shp 107 = (10, 88) from rfl) (Nat.lt_of_lt_of_le (Nat.le_of_ble_eq_true rfl : 107 < 152) hN) (by decide) (by decide) (fun _ _ _ => rfl) (fun hs => hs 107 34 118 rfl) (dOk_at dt_X10_leanOf 10 rfl) ?_
  refine j_iload_n hC 2 rfl rfl (dOk_at dt_X10_leanOf 11 rfl) ?_
  refine j_iald hC (show shp 118 = (21, 10) from rfl) (Nat.lt_of_lt_of_le (Nat.le_of_ble_eq_true rfl : 118 < 152) hN) (dOk_at dt_X10_leanOf 12 rfl) ?_
  refine j_iald hC (show shp 113 = (21, 16) from rfl) (Nat.lt_of_lt_of_le (Nat.le_of_ble_eq_true rfl : 113 < 152) hN) (dOk_at dt_X10_leanOf 13 rfl) ?_
  refine j_aload_n hC 0 rfl rfl (dOk_at dt_X10_leanOf 14 rfl) ?_
  refine j_getR hC flX10_103 (show shp 107 = (10, 88) from rfl) (Nat.lt_of_lt_of_le (Nat.le_of_ble_eq_true rfl : 107 < 152) hN) (by decide) (by decide) (fun _ _ _ => rfl) (fun hs => hs 107 60 137 rfl) (dOk_at dt_X10_leanOf 15 rfl) ?_
  refine j_iconst hC (v := (5 : Int32)) rfl (dOk_at dt_X10_leanOf 16 rfl) ?_
  refine j_iload_n hC 1 rfl rfl (dOk_at dt_X10_leanOf 17 rfl) ?_
  refine j_imul hC (dOk_at dt_X10_leanOf 18 rfl) ?_
  refine j_iload_n hC 2 rfl rfl (dOk_at dt_X10_leanOf 19 rfl) ?_
  refine j_iadd hC (dOk_at dt_X10_leanOf 20 rfl) ?_
  refine j_iald hC (show shp 137 = (21, 10) from rfl) (Nat.lt_of_lt_of_le (Nat.le_of_ble_eq_true rfl : 137 < 152) hN) (dOk_at dt_X10_leanOf 21 rfl) ?_
  refine j_imul hC (dOk_at dt_X10_leanOf 22 rfl) ?_
  refine j_bipush hC (v := (100 : Int32)) rfl (dOk_at dt_X10_leanOf 23 rfl) ?_
  refine j_idivK hC (by decide) (dOk_at dt_X10_leanOf 24 rfl) ?_
  refine j_sipush hC (v := (999 : Int32)) rfl (dOk_at dt_X10_leanOf 25 rfl) ?_
  refine j_callVi hC clX10_436 (fun rz hrz => c_X10_boundLaw hN _ _ _ _ rz hrz) (show shp 107 = (10, 88) from rfl) (Nat.lt_of_lt_of_le (Nat.le_of_ble_eq_true rfl : 107 < 152) hN) (by decide) rfl rfl ⟨Nat.le_of_ble_eq_true rfl, Nat.le_of_ble_eq_true rfl⟩ ⟨Nat.le_refl 0, Nat.le_refl 0⟩ (As := [.int (0 : Int32), .int (((hI h_2 113 (Int32.toNatClampNeg (hI h_2 118 (Int32.toNatClampNeg x2)))) * (hI h_2 137 (Int32.toNatClampNeg (((5 : Int32) * x1) + x2)))) / (100 : Int32)), .int (999 : Int32)]) (st := []) rfl (Nat.le_of_ble_eq_true rfl) (dOk_at dt_X10_leanOf 26 rfl) (fun v_3 h_4 _ => ?_)
  exact j_iret hC hret (dOk_at dt_X10_leanOf 27 rfl)
def tb_X10_winsBy : List (Nat × Instr × Nat) := [(0, .aload_n 0, 1), (1, .iload_n 1, 1), (2, .iload_n 2, 1), (3, .aload_n 0, 1), (4, .getfield 45, 3), (7, .iload_n 3, 1), (8, .iaload, 1), (9, .invokevirtual 419, 3), (12, .aload_n 0, 1), (13, .iload_n 1, 1), (14, .iload_n 3, 1), (15, .iload_n 2, 1), (16, .invokevirtual 439, 3), (19, .if_icmp .le 7, 3), (22, .iconst 1, 1), (23, .goto 4, 3), (26, .iconst 0, 1), (27, .ireturn, 1)]
theorem dt_X10_winsBy : dOk cX10_winsBy tb_X10_winsBy = true := by decide +kernel
def fX10_winsBy (h : Hp) (x1 : Int32) (x2 : Int32) (x3 : Int32) : Option (Int32 × Hp) := if inb x3 10 then (bnd (fX10_forceOf h x1 x2 (hI h 118 (Int32.toNatClampNeg x3))) (fun v_1 h_2 => bnd (fX10_leanOf h_2 x1 x3 x2) (fun v_3 h_4 => if v_1 ≤ v_3 then (some ((0 : Int32), h_4)) else (some ((1 : Int32), h_4))))) else none
set_option maxRecDepth 100000 in
set_option maxHeartbeats 4000000 in
theorem c_X10_winsBy {l : Launch} {sb : State} {D : va_G} {ids : Nat → ClassId} {n : Nat} (hN : 152 ≤ n) (h : Hp) (x1 : Int32) (x2 : Int32) (x3 : Int32) (r : Int32 × Hp) (hr : fX10_winsBy h x1 x2 x3 = some r) : jM l yX10_winsBy cX10_winsBy 4 (some .boolean) 5 sb D ids shp St n [.ref 107, .int x1, .int x2, .int x3] h (jQi sb D ids shp St n r) := by
  refine jM_of hr rfl (Nat.le_of_ble_eq_true rfl) ?_
  intro p e s m args below meth c hC hret
  unfold fX10_winsBy
  refine j_aload_n hC 0 rfl rfl (dOk_at dt_X10_winsBy 0 rfl) ?_
  refine j_iload_n hC 1 rfl rfl (dOk_at dt_X10_winsBy 1 rfl) ?_
  refine j_iload_n hC 2 rfl rfl (dOk_at dt_X10_winsBy 2 rfl) ?_
  refine j_aload_n hC 0 rfl rfl (dOk_at dt_X10_winsBy 3 rfl) ?_
  refine j_getR hC flX10_45 (show shp 107 = (10, 88) from rfl) (Nat.lt_of_lt_of_le (Nat.le_of_ble_eq_true rfl : 107 < 152) hN) (by decide) (by decide) (fun _ _ _ => rfl) (fun hs => hs 107 34 118 rfl) (dOk_at dt_X10_winsBy 4 rfl) ?_
  refine j_iload_n hC 3 rfl rfl (dOk_at dt_X10_winsBy 5 rfl) ?_
  refine j_iald hC (show shp 118 = (21, 10) from rfl) (Nat.lt_of_lt_of_le (Nat.le_of_ble_eq_true rfl : 118 < 152) hN) (dOk_at dt_X10_winsBy 6 rfl) ?_
  refine j_callVi hC clX10_419 (fun rz hrz => c_X10_forceOf hN _ _ _ _ rz hrz) (show shp 107 = (10, 88) from rfl) (Nat.lt_of_lt_of_le (Nat.le_of_ble_eq_true rfl : 107 < 152) hN) (by decide) rfl rfl ⟨Nat.le_of_ble_eq_true rfl, Nat.le_of_ble_eq_true rfl⟩ ⟨Nat.le_refl 0, Nat.le_refl 0⟩ (As := [.int x1, .int x2, .int (hI h 118 (Int32.toNatClampNeg x3))]) (st := []) rfl (Nat.le_of_ble_eq_true rfl) (dOk_at dt_X10_winsBy 7 rfl) (fun v_1 h_2 _ => ?_)
  refine j_aload_n hC 0 rfl rfl (dOk_at dt_X10_winsBy 8 rfl) ?_
  refine j_iload_n hC 1 rfl rfl (dOk_at dt_X10_winsBy 9 rfl) ?_
  refine j_iload_n hC 3 rfl rfl (dOk_at dt_X10_winsBy 10 rfl) ?_
  refine j_iload_n hC 2 rfl rfl (dOk_at dt_X10_winsBy 11 rfl) ?_
  refine j_callVi hC clX10_439 (fun rz hrz => c_X10_leanOf hN _ _ _ _ rz hrz) (show shp 107 = (10, 88) from rfl) (Nat.lt_of_lt_of_le (Nat.le_of_ble_eq_true rfl : 107 < 152) hN) (by decide) rfl rfl ⟨Nat.le_of_ble_eq_true rfl, Nat.le_of_ble_eq_true rfl⟩ ⟨Nat.le_refl 0, Nat.le_refl 0⟩ (As := [.int x1, .int x3, .int x2]) (st := [.int v_1]) rfl (Nat.le_of_ble_eq_true rfl) (dOk_at dt_X10_winsBy 12 rfl) (fun v_3 h_4 _ => ?_)
  refine j_icmp_le hC (tgt := 26) (by decide) (dOk_at dt_X10_winsBy 13 rfl) (fun q_5 => ?_) (fun q_5 => ?_)
  · refine j_iconst hC (v := (0 : Int32)) rfl (dOk_at dt_X10_winsBy 16 rfl) ?_
    exact j_zretK hC hret rfl (dOk_at dt_X10_winsBy 17 rfl)
  · refine j_iconst hC (v := (1 : Int32)) rfl (dOk_at dt_X10_winsBy 14 rfl) ?_
    refine j_goto hC (tgt := 27) (by decide) (dOk_at dt_X10_winsBy 15 rfl) ?_
    exact j_zretK hC hret rfl (dOk_at dt_X10_winsBy 17 rfl)
def tb_X10_debatesOne : List (Nat × Instr × Nat) := [(0, .aload_n 0, 1), (1, .iload_n 1, 1), (2, .iload_n 2, 1), (3, .iload_n 3, 1), (4, .invokevirtual 442, 3), (7, .istore 4, 2), (9, .aload_n 0, 1), (10, .iload_n 1, 1), (11, .iload_n 3, 1), (12, .iload_n 2, 1), (13, .invokevirtual 433, 3), (16, .iload 4, 2), (18, .ifCond .eq 83, 3), (21, .aload_n 0, 1), (22, .getfield 410, 3), (25, .ifCond .eq 7, 3), (28, .iconst 0, 1), (29, .goto 12, 3), (32, .aload_n 0, 1), (33, .iconst 1, 1), (34, .bipush 10, 2), (36, .bipush 99, 2), (38, .invokevirtual 436, 3), (41, .istore 5, 2), (43, .aload_n 0, 1), (44, .getfield 112, 3), (47, .iconst 5, 1), (48, .iload_n 1, 1), (49, .imul, 1), (50, .iload_n 2, 1), (51, .iadd, 1), (52, .dup2, 1), (53, .iaload, 1), (54, .iconst 1, 1), (55, .iadd, 1), (56, .iastore, 1), (57, .aload_n 0, 1), (58, .getfield 103, 3), (61, .iconst 5, 1), (62, .iload_n 1, 1), (63, .imul, 1), (64, .iload_n 3, 1), (65, .iadd, 1), (66, .aload_n 0, 1), (67, .getfield 103, 3), (70, .iconst 5, 1), (71, .iload_n 1, 1), (72, .imul, 1), (73, .iload_n 3, 1), (74, .iadd, 1), (75, .iaload, 1), (76, .iload 5, 2), (78, .if_icmp .le 19, 3), (81, .aload_n 0, 1), (82, .getfield 103, 3), (85, .iconst 5, 1), (86, .iload_n 1, 1), (87, .imul, 1), (88, .iload_n 3, 1), (89, .iadd, 1), (90, .iaload, 1), (91, .iload 5, 2), (93, .isub, 1), (94, .goto 4, 3), (97, .iconst 0, 1), (98, .iastore, 1), (99, .iconst 1, 1), (100, .ireturn, 1), (101, .aload_n 0, 1), (102, .getfield 72, 3), (105, .iconst 2, 1), (106, .baload, 1), (107, .ifCond .eq 17, 3), (110, .aload_n 0, 1), (111, .iconst 2, 1), (112, .invokevirtual 430, 3), (115, .lconst 0, 1), (116, .lcmp, 1), (117, .ifCond .eq 7, 3), (120, .iconst 1, 1), (121, .goto 4, 3), (124, .iconst 0, 1), (125, .istore 5, 2), (127, .aload_n 0, 1), (128, .getfield 115, 3), (131, .iconst 5, 1), (132, .iload_n 1, 1), (133, .imul, 1), (134, .iload_n 2, 1), (135, .iadd, 1), (136, .dup2, 1), (137, .iaload, 1), (138, .iconst 1, 1), (139, .iadd, 1), (140, .iastore, 1), (141, .iload 5, 2), (143, .ifCond .eq 31, 3), (146, .aload_n 0, 1), (147, .getfield 366, 3), (150, .ifCond .ne 24, 3), (153, .aload_n 0, 1), (154, .getfield 109, 3), (157, .iconst 5, 1), (158, .iload_n 1, 1), (159, .imul, 1), (160, .iload_n 2, 1), (161, .iadd, 1), (162, .dup2, 1), (163, .iaload, 1), (164, .iconst 1, 1), (165, .aload_n 0, 1), (166, .getfield 45, 3), (169, .iload_n 3, 1), (170, .iaload, 1), (171, .ishl, 1), (172, .ior, 1), (173, .iastore, 1), (174, .iconst 0, 1), (175, .ireturn, 1)]
theorem dt_X10_debatesOne : dOk cX10_debatesOne tb_X10_debatesOne = true := by decide +kernel
def fX10_debatesOne_125 (h : Hp) (x1 : Int32) (x2 : Int32) (x3 : Int32) (s0 : Int32) : Option (Int32 × Hp) := if inb (((5 : Int32) * x1) + x2) 10 then (if inb (((5 : Int32) * x1) + x2) 10 then (if s0 = 0 then (some ((0 : Int32), (uI h 141 (Int32.toNatClampNeg (((5 : Int32) * x1) + x2)) ((hI h 141 (Int32.toNatClampNeg (((5 : Int32) * x1) + x2))) + (1 : Int32))))) else (if (hI (uI h 141 (Int32.toNatClampNeg (((5 : Int32) * x1) + x2)) ((hI h 141 (Int32.toNatClampNeg (((5 : Int32) * x1) + x2))) + (1 : Int32))) 107 59) = 0 then (if inb (((5 : Int32) * x1) + x2) 10 then (if inb x3 10 then (if inb (((5 : Int32) * x1) + x2) 10 then (some ((0 : Int32), (uI (uI h 141 (Int32.toNatClampNeg (((5 : Int32) * x1) + x2)) ((hI h 141 (Int32.toNatClampNeg (((5 : Int32) * x1) + x2))) + (1 : Int32))) 139 (Int32.toNatClampNeg (((5 : Int32) * x1) + x2)) ((hI (uI h 141 (Int32.toNatClampNeg (((5 : Int32) * x1) + x2)) ((hI h 141 (Int32.toNatClampNeg (((5 : Int32) * x1) + x2))) + (1 : Int32))) 139 (Int32.toNatClampNeg (((5 : Int32) * x1) + x2))) ||| ((1 : Int32) <<< ((hI (uI h 141 (Int32.toNatClampNeg (((5 : Int32) * x1) + x2)) ((hI h 141 (Int32.toNatClampNeg (((5 : Int32) * x1) + x2))) + (1 : Int32))) 118 (Int32.toNatClampNeg x3)) &&& 31)))))) else none) else none) else none) else (some ((0 : Int32), (uI h 141 (Int32.toNatClampNeg (((5 : Int32) * x1) + x2)) ((hI h 141 (Int32.toNatClampNeg (((5 : Int32) * x1) + x2))) + (1 : Int32))))))) else none) else none
def fX10_debatesOne_124 (h : Hp) (x1 : Int32) (x2 : Int32) (x3 : Int32) : Option (Int32 × Hp) := fX10_debatesOne_125 h x1 x2 x3 (0 : Int32)
def fX10_debatesOne_41 (h : Hp) (x1 : Int32) (x2 : Int32) (x3 : Int32) (s0 : Int32) : Option (Int32 × Hp) := if inb (((5 : Int32) * x1) + x2) 10 then (if inb (((5 : Int32) * x1) + x2) 10 then (if inb (((5 : Int32) * x1) + x3) 10 then (if (hI (uI h 140 (Int32.toNatClampNeg (((5 : Int32) * x1) + x2)) ((hI h 140 (Int32.toNatClampNeg (((5 : Int32) * x1) + x2))) + (1 : Int32))) 137 (Int32.toNatClampNeg (((5 : Int32) * x1) + x3))) ≤ s0 then (if inb (((5 : Int32) * x1) + x3) 10 then (some ((1 : Int32), (uI (uI h 140 (Int32.toNatClampNeg (((5 : Int32) * x1) + x2)) ((hI h 140 (Int32.toNatClampNeg (((5 : Int32) * x1) + x2))) + (1 : Int32))) 137 (Int32.toNatClampNeg (((5 : Int32) * x1) + x3)) (0 : Int32)))) else none) else (if inb (((5 : Int32) * x1) + x3) 10 then (if inb (((5 : Int32) * x1) + x3) 10 then (some ((1 : Int32), (uI (uI h 140 (Int32.toNatClampNeg (((5 : Int32) * x1) + x2)) ((hI h 140 (Int32.toNatClampNeg (((5 : Int32) * x1) + x2))) + (1 : Int32))) 137 (Int32.toNatClampNeg (((5 : Int32) * x1) + x3)) ((hI (uI h 140 (Int32.toNatClampNeg (((5 : Int32) * x1) + x2)) ((hI h 140 (Int32.toNatClampNeg (((5 : Int32) * x1) + x2))) + (1 : Int32))) 137 (Int32.toNatClampNeg (((5 : Int32) * x1) + x3))) - s0)))) else none) else none)) else none) else none) else none
def fX10_debatesOne (h : Hp) (x1 : Int32) (x2 : Int32) (x3 : Int32) : Option (Int32 × Hp) := bnd (fX10_winsBy h x1 x2 x3) (fun v_1 h_2 => (fX10_layNames h_2 x1 x3 x2).bind (fun h_4 => if v_1 = 0 then (if inb (2 : Int32) 6 then (if (hI h_4 127 (Int32.toNatClampNeg (2 : Int32))) = 0 then (fX10_debatesOne_124 h_4 x1 x2 x3) else (bnd (fX10_lawOf h_4 (2 : Int32)) (fun v_7 h_8 => if (lg_cmp v_7 (0 : Int64)) = 0 then (fX10_debatesOne_124 h_8 x1 x2 x3) else (fX10_debatesOne_125 h_8 x1 x2 x3 (1 : Int32))))) else none) else (if (hI h_4 107 70) = 0 then (bnd (fX10_boundLaw h_4 (1 : Int32) (10 : Int32) (99 : Int32)) (fun v_11 h_12 => fX10_debatesOne_41 h_12 x1 x2 x3 v_11)) else (fX10_debatesOne_41 h_4 x1 x2 x3 (0 : Int32)))))
set_option maxRecDepth 100000 in
set_option maxHeartbeats 4000000 in
theorem c_X10_debatesOne {l : Launch} {sb : State} {D : va_G} {ids : Nat → ClassId} {n : Nat} (hN : 152 ≤ n) (h : Hp) (x1 : Int32) (x2 : Int32) (x3 : Int32) (r : Int32 × Hp) (hr : fX10_debatesOne h x1 x2 x3 = some r) : jM l yX10_debatesOne cX10_debatesOne 6 (some .boolean) 6 sb D ids shp St n [.ref 107, .int x1, .int x2, .int x3] h (jQi sb D ids shp St n r) := by
  refine jM_of hr rfl (Nat.le_of_ble_eq_true rfl) ?_
  intro p e s m args below meth c hC hret
  have b125 : ∀ (h : Hp) (x1 : Int32) (x2 : Int32) (x3 : Int32) (s0 : Int32) , jJ p l e (rmD 6) s m args below meth c 6 sb D ids shp St (fun r => MQ below (jQi sb D ids shp St n r) args s 0 0 (jA sb)) n 0 0 h 125 [(0, .ref 107), (1, .int x1), (2, .int x2), (3, .int x3)] [.int s0] (fX10_debatesOne_125 h x1 x2 x3 s0) := by
    intro h x1 x2 x3 s0 
    unfold fX10_debatesOne_125
    refine j_istore hC (lv' := [(5, .int s0), (0, .ref 107), (1, .int x1), (2, .int x2), (3, .int x3)]) (by decide) rfl (dOk_at dt_X10_debatesOne 82 rfl) ?_
    refine j_aload_n hC 1 rfl rfl (dOk_at dt_X10_debatesOne 83 rfl) ?_
    refine j_getR hC flX10_115 (show shp 107 = (10, 88) from rfl) (Nat.lt_of_lt_of_le (Nat.le_of_ble_eq_true rfl : 107 < 152) hN) (by decide) (by decide) (fun _ _ _ => rfl) (fun hs => hs 107 64 141 rfl) (dOk_at dt_X10_debatesOne 84 rfl) ?_
    refine j_iconst hC (v := (5 : Int32)) rfl (dOk_at dt_X10_debatesOne 85 rfl) ?_
    refine j_iload_n hC 2 rfl rfl (dOk_at dt_X10_debatesOne 86 rfl) ?_
    refine j_imul hC (dOk_at dt_X10_debatesOne 87 rfl) ?_
    refine j_iload_n hC 3 rfl rfl (dOk_at dt_X10_debatesOne 88 rfl) ?_
    refine j_iadd hC (dOk_at dt_X10_debatesOne 89 rfl) ?_
    refine j_dup2 hC (dOk_at dt_X10_debatesOne 90 rfl) ?_
    refine j_iald hC (show shp 141 = (21, 10) from rfl) (Nat.lt_of_lt_of_le (Nat.le_of_ble_eq_true rfl : 141 < 152) hN) (dOk_at dt_X10_debatesOne 91 rfl) ?_
    refine j_iconst hC (v := (1 : Int32)) rfl (dOk_at dt_X10_debatesOne 92 rfl) ?_
    refine j_iadd hC (dOk_at dt_X10_debatesOne 93 rfl) ?_
    refine j_iast hC St_SP (show shp 141 = (21, 10) from rfl) (Nat.lt_of_lt_of_le (Nat.le_of_ble_eq_true rfl : 141 < 152) hN) (dOk_at dt_X10_debatesOne 94 rfl) ?_
    refine j_iload hC 0 rfl (dOk_at dt_X10_debatesOne 95 rfl) ?_
    refine j_if_eq hC (tgt := 174) (by decide) (dOk_at dt_X10_debatesOne 96 rfl) (fun q_13 => ?_) (fun q_13 => ?_)
    · refine j_iconst hC (v := (0 : Int32)) rfl (dOk_at dt_X10_debatesOne 117 rfl) ?_
      exact j_zretK hC hret rfl (dOk_at dt_X10_debatesOne 118 rfl)
    · refine j_aload_n hC 1 rfl rfl (dOk_at dt_X10_debatesOne 97 rfl) ?_
      refine j_getI hC flX10_366 (show shp 107 = (10, 88) from rfl) (Nat.lt_of_lt_of_le (Nat.le_of_ble_eq_true rfl : 107 < 152) hN) (by decide) (by decide) (fun _ _ _ => rfl) (dOk_at dt_X10_debatesOne 98 rfl) ?_
      refine j_if_ne hC (tgt := 174) (by decide) (dOk_at dt_X10_debatesOne 99 rfl) (fun q_14 => ?_) (fun q_14 => ?_)
      · refine j_iconst hC (v := (0 : Int32)) rfl (dOk_at dt_X10_debatesOne 117 rfl) ?_
        exact j_zretK hC hret rfl (dOk_at dt_X10_debatesOne 118 rfl)
      · refine j_aload_n hC 1 rfl rfl (dOk_at dt_X10_debatesOne 100 rfl) ?_
        refine j_getR hC flX10_109 (show shp 107 = (10, 88) from rfl) (Nat.lt_of_lt_of_le (Nat.le_of_ble_eq_true rfl : 107 < 152) hN) (by decide) (by decide) (fun _ _ _ => rfl) (fun hs => hs 107 62 139 rfl) (dOk_at dt_X10_debatesOne 101 rfl) ?_
        refine j_iconst hC (v := (5 : Int32)) rfl (dOk_at dt_X10_debatesOne 102 rfl) ?_
        refine j_iload_n hC 2 rfl rfl (dOk_at dt_X10_debatesOne 103 rfl) ?_
        refine j_imul hC (dOk_at dt_X10_debatesOne 104 rfl) ?_
        refine j_iload_n hC 3 rfl rfl (dOk_at dt_X10_debatesOne 105 rfl) ?_
        refine j_iadd hC (dOk_at dt_X10_debatesOne 106 rfl) ?_
        refine j_dup2 hC (dOk_at dt_X10_debatesOne 107 rfl) ?_
        refine j_iald hC (show shp 139 = (21, 10) from rfl) (Nat.lt_of_lt_of_le (Nat.le_of_ble_eq_true rfl : 139 < 152) hN) (dOk_at dt_X10_debatesOne 108 rfl) ?_
        refine j_iconst hC (v := (1 : Int32)) rfl (dOk_at dt_X10_debatesOne 109 rfl) ?_
        refine j_aload_n hC 1 rfl rfl (dOk_at dt_X10_debatesOne 110 rfl) ?_
        refine j_getR hC flX10_45 (show shp 107 = (10, 88) from rfl) (Nat.lt_of_lt_of_le (Nat.le_of_ble_eq_true rfl : 107 < 152) hN) (by decide) (by decide) (fun _ _ _ => rfl) (fun hs => hs 107 34 118 rfl) (dOk_at dt_X10_debatesOne 111 rfl) ?_
        refine j_iload_n hC 4 rfl rfl (dOk_at dt_X10_debatesOne 112 rfl) ?_
        refine j_iald hC (show shp 118 = (21, 10) from rfl) (Nat.lt_of_lt_of_le (Nat.le_of_ble_eq_true rfl : 118 < 152) hN) (dOk_at dt_X10_debatesOne 113 rfl) ?_
        refine j_ishl hC (dOk_at dt_X10_debatesOne 114 rfl) ?_
        refine j_ior hC (dOk_at dt_X10_debatesOne 115 rfl) ?_
        refine j_iast hC St_SP (show shp 139 = (21, 10) from rfl) (Nat.lt_of_lt_of_le (Nat.le_of_ble_eq_true rfl : 139 < 152) hN) (dOk_at dt_X10_debatesOne 116 rfl) ?_
        refine j_iconst hC (v := (0 : Int32)) rfl (dOk_at dt_X10_debatesOne 117 rfl) ?_
        exact j_zretK hC hret rfl (dOk_at dt_X10_debatesOne 118 rfl)
  have b124 : ∀ (h : Hp) (x1 : Int32) (x2 : Int32) (x3 : Int32) , jJ p l e (rmD 6) s m args below meth c 6 sb D ids shp St (fun r => MQ below (jQi sb D ids shp St n r) args s 0 0 (jA sb)) n 0 0 h 124 [(0, .ref 107), (1, .int x1), (2, .int x2), (3, .int x3)] [] (fX10_debatesOne_124 h x1 x2 x3) := by
    intro h x1 x2 x3 
    unfold fX10_debatesOne_124
    refine j_iconst hC (v := (0 : Int32)) rfl (dOk_at dt_X10_debatesOne 81 rfl) ?_
    exact b125 h x1 x2 x3 (0 : Int32) 
  have b41 : ∀ (h : Hp) (x1 : Int32) (x2 : Int32) (x3 : Int32) (s0 : Int32) , jJ p l e (rmD 6) s m args below meth c 6 sb D ids shp St (fun r => MQ below (jQi sb D ids shp St n r) args s 0 0 (jA sb)) n 0 0 h 41 [(0, .ref 107), (1, .int x1), (2, .int x2), (3, .int x3)] [.int s0] (fX10_debatesOne_41 h x1 x2 x3 s0) := by
    intro h x1 x2 x3 s0 
    unfold fX10_debatesOne_41
    refine j_istore hC (lv' := [(5, .int s0), (0, .ref 107), (1, .int x1), (2, .int x2), (3, .int x3)]) (by decide) rfl (dOk_at dt_X10_debatesOne 23 rfl) ?_
    refine j_aload_n hC 1 rfl rfl (dOk_at dt_X10_debatesOne 24 rfl) ?_
    refine j_getR hC flX10_112 (show shp 107 = (10, 88) from rfl) (Nat.lt_of_lt_of_le (Nat.le_of_ble_eq_true rfl : 107 < 152) hN) (by decide) (by decide) (fun _ _ _ => rfl) (fun hs => hs 107 63 140 rfl) (dOk_at dt_X10_debatesOne 25 rfl) ?_
    refine j_iconst hC (v := (5 : Int32)) rfl (dOk_at dt_X10_debatesOne 26 rfl) ?_
    refine j_iload_n hC 2 rfl rfl (dOk_at dt_X10_debatesOne 27 rfl) ?_
    refine j_imul hC (dOk_at dt_X10_debatesOne 28 rfl) ?_
    refine j_iload_n hC 3 rfl rfl (dOk_at dt_X10_debatesOne 29 rfl) ?_
    refine j_iadd hC (dOk_at dt_X10_debatesOne 30 rfl) ?_
    refine j_dup2 hC (dOk_at dt_X10_debatesOne 31 rfl) ?_
    refine j_iald hC (show shp 140 = (21, 10) from rfl) (Nat.lt_of_lt_of_le (Nat.le_of_ble_eq_true rfl : 140 < 152) hN) (dOk_at dt_X10_debatesOne 32 rfl) ?_
    refine j_iconst hC (v := (1 : Int32)) rfl (dOk_at dt_X10_debatesOne 33 rfl) ?_
    refine j_iadd hC (dOk_at dt_X10_debatesOne 34 rfl) ?_
    refine j_iast hC St_SP (show shp 140 = (21, 10) from rfl) (Nat.lt_of_lt_of_le (Nat.le_of_ble_eq_true rfl : 140 < 152) hN) (dOk_at dt_X10_debatesOne 35 rfl) ?_
    refine j_aload_n hC 1 rfl rfl (dOk_at dt_X10_debatesOne 36 rfl) ?_
    refine j_getR hC flX10_103 (show shp 107 = (10, 88) from rfl) (Nat.lt_of_lt_of_le (Nat.le_of_ble_eq_true rfl : 107 < 152) hN) (by decide) (by decide) (fun _ _ _ => rfl) (fun hs => hs 107 60 137 rfl) (dOk_at dt_X10_debatesOne 37 rfl) ?_
    refine j_iconst hC (v := (5 : Int32)) rfl (dOk_at dt_X10_debatesOne 38 rfl) ?_
    refine j_iload_n hC 2 rfl rfl (dOk_at dt_X10_debatesOne 39 rfl) ?_
    refine j_imul hC (dOk_at dt_X10_debatesOne 40 rfl) ?_
    refine j_iload_n hC 4 rfl rfl (dOk_at dt_X10_debatesOne 41 rfl) ?_
    refine j_iadd hC (dOk_at dt_X10_debatesOne 42 rfl) ?_
    refine j_aload_n hC 1 rfl rfl (dOk_at dt_X10_debatesOne 43 rfl) ?_
    refine j_getR hC flX10_103 (show shp 107 = (10, 88) from rfl) (Nat.lt_of_lt_of_le (Nat.le_of_ble_eq_true rfl : 107 < 152) hN) (by decide) (by decide) (fun _ _ _ => rfl) (fun hs => hs 107 60 137 rfl) (dOk_at dt_X10_debatesOne 44 rfl) ?_
    refine j_iconst hC (v := (5 : Int32)) rfl (dOk_at dt_X10_debatesOne 45 rfl) ?_
    refine j_iload_n hC 2 rfl rfl (dOk_at dt_X10_debatesOne 46 rfl) ?_
    refine j_imul hC (dOk_at dt_X10_debatesOne 47 rfl) ?_
    refine j_iload_n hC 4 rfl rfl (dOk_at dt_X10_debatesOne 48 rfl) ?_
    refine j_iadd hC (dOk_at dt_X10_debatesOne 49 rfl) ?_
    refine j_iald hC (show shp 137 = (21, 10) from rfl) (Nat.lt_of_lt_of_le (Nat.le_of_ble_eq_true rfl : 137 < 152) hN) (dOk_at dt_X10_debatesOne 50 rfl) ?_
    refine j_iload hC 0 rfl (dOk_at dt_X10_debatesOne 51 rfl) ?_
    refine j_icmp_le hC (tgt := 97) (by decide) (dOk_at dt_X10_debatesOne 52 rfl) (fun q_15 => ?_) (fun q_15 => ?_)
    · refine j_iconst hC (v := (0 : Int32)) rfl (dOk_at dt_X10_debatesOne 64 rfl) ?_
      refine j_iast hC St_SP (show shp 137 = (21, 10) from rfl) (Nat.lt_of_lt_of_le (Nat.le_of_ble_eq_true rfl : 137 < 152) hN) (dOk_at dt_X10_debatesOne 65 rfl) ?_
      refine j_iconst hC (v := (1 : Int32)) rfl (dOk_at dt_X10_debatesOne 66 rfl) ?_
      exact j_zretK hC hret rfl (dOk_at dt_X10_debatesOne 67 rfl)
    · refine j_aload_n hC 1 rfl rfl (dOk_at dt_X10_debatesOne 53 rfl) ?_
      refine j_getR hC flX10_103 (show shp 107 = (10, 88) from rfl) (Nat.lt_of_lt_of_le (Nat.le_of_ble_eq_true rfl : 107 < 152) hN) (by decide) (by decide) (fun _ _ _ => rfl) (fun hs => hs 107 60 137 rfl) (dOk_at dt_X10_debatesOne 54 rfl) ?_
      refine j_iconst hC (v := (5 : Int32)) rfl (dOk_at dt_X10_debatesOne 55 rfl) ?_
      refine j_iload_n hC 2 rfl rfl (dOk_at dt_X10_debatesOne 56 rfl) ?_
      refine j_imul hC (dOk_at dt_X10_debatesOne 57 rfl) ?_
      refine j_iload_n hC 4 rfl rfl (dOk_at dt_X10_debatesOne 58 rfl) ?_
      refine j_iadd hC (dOk_at dt_X10_debatesOne 59 rfl) ?_
      refine j_iald hC (show shp 137 = (21, 10) from rfl) (Nat.lt_of_lt_of_le (Nat.le_of_ble_eq_true rfl : 137 < 152) hN) (dOk_at dt_X10_debatesOne 60 rfl) ?_
      refine j_iload hC 0 rfl (dOk_at dt_X10_debatesOne 61 rfl) ?_
      refine j_isub hC (dOk_at dt_X10_debatesOne 62 rfl) ?_
      refine j_goto hC (tgt := 98) (by decide) (dOk_at dt_X10_debatesOne 63 rfl) ?_
      refine j_iast hC St_SP (show shp 137 = (21, 10) from rfl) (Nat.lt_of_lt_of_le (Nat.le_of_ble_eq_true rfl : 137 < 152) hN) (dOk_at dt_X10_debatesOne 65 rfl) ?_
      refine j_iconst hC (v := (1 : Int32)) rfl (dOk_at dt_X10_debatesOne 66 rfl) ?_
      exact j_zretK hC hret rfl (dOk_at dt_X10_debatesOne 67 rfl)
  unfold fX10_debatesOne
  refine j_aload_n hC 0 rfl rfl (dOk_at dt_X10_debatesOne 0 rfl) ?_
  refine j_iload_n hC 1 rfl rfl (dOk_at dt_X10_debatesOne 1 rfl) ?_
  refine j_iload_n hC 2 rfl rfl (dOk_at dt_X10_debatesOne 2 rfl) ?_
  refine j_iload_n hC 3 rfl rfl (dOk_at dt_X10_debatesOne 3 rfl) ?_
  refine j_callVi hC clX10_442 (fun rz hrz => c_X10_winsBy hN _ _ _ _ rz hrz) (show shp 107 = (10, 88) from rfl) (Nat.lt_of_lt_of_le (Nat.le_of_ble_eq_true rfl : 107 < 152) hN) (by decide) rfl rfl ⟨Nat.le_of_ble_eq_true rfl, Nat.le_of_ble_eq_true rfl⟩ ⟨Nat.le_refl 0, Nat.le_refl 0⟩ (As := [.int x1, .int x2, .int x3]) (st := []) rfl (Nat.le_of_ble_eq_true rfl) (dOk_at dt_X10_debatesOne 4 rfl) (fun v_1 h_2 _ => ?_)
  refine j_istore hC (lv' := [(4, .int v_1), (0, .ref 107), (1, .int x1), (2, .int x2), (3, .int x3)]) (by decide) rfl (dOk_at dt_X10_debatesOne 5 rfl) ?_
  refine j_aload_n hC 1 rfl rfl (dOk_at dt_X10_debatesOne 6 rfl) ?_
  refine j_iload_n hC 2 rfl rfl (dOk_at dt_X10_debatesOne 7 rfl) ?_
  refine j_iload_n hC 4 rfl rfl (dOk_at dt_X10_debatesOne 8 rfl) ?_
  refine j_iload_n hC 3 rfl rfl (dOk_at dt_X10_debatesOne 9 rfl) ?_
  refine j_callVv hC clX10_433 (fun rz hrz => c_X10_layNames hN _ _ _ _ rz hrz) (show shp 107 = (10, 88) from rfl) (Nat.lt_of_lt_of_le (Nat.le_of_ble_eq_true rfl : 107 < 152) hN) (by decide) rfl rfl ⟨Nat.le_of_ble_eq_true rfl, Nat.le_of_ble_eq_true rfl⟩ ⟨Nat.le_refl 0, Nat.le_refl 0⟩ (As := [.int x1, .int x3, .int x2]) (st := []) rfl (Nat.le_of_ble_eq_true rfl) (dOk_at dt_X10_debatesOne 10 rfl) (fun h_4 _ => ?_)
  refine j_iload hC 0 rfl (dOk_at dt_X10_debatesOne 11 rfl) ?_
  refine j_if_eq hC (tgt := 101) (by decide) (dOk_at dt_X10_debatesOne 12 rfl) (fun q_5 => ?_) (fun q_5 => ?_)
  · refine j_aload_n hC 1 rfl rfl (dOk_at dt_X10_debatesOne 68 rfl) ?_
    refine j_getR hC flX10_72 (show shp 107 = (10, 88) from rfl) (Nat.lt_of_lt_of_le (Nat.le_of_ble_eq_true rfl : 107 < 152) hN) (by decide) (by decide) (fun _ _ _ => rfl) (fun hs => hs 107 43 127 rfl) (dOk_at dt_X10_debatesOne 69 rfl) ?_
    refine j_iconst hC (v := (2 : Int32)) rfl (dOk_at dt_X10_debatesOne 70 rfl) ?_
    refine j_zald hC (show shp 127 = (23, 6) from rfl) (Nat.lt_of_lt_of_le (Nat.le_of_ble_eq_true rfl : 127 < 152) hN) (dOk_at dt_X10_debatesOne 71 rfl) ?_
    refine j_if_eq hC (tgt := 124) (by decide) (dOk_at dt_X10_debatesOne 72 rfl) (fun q_6 => ?_) (fun q_6 => ?_)
    · refine j_sub [1, 2, 3, 4] rfl ?_
      exact b124 h_4 x1 x2 x3 
    · refine j_aload_n hC 1 rfl rfl (dOk_at dt_X10_debatesOne 73 rfl) ?_
      refine j_iconst hC (v := (2 : Int32)) rfl (dOk_at dt_X10_debatesOne 74 rfl) ?_
      refine j_callVl hC clX10_430 (fun rz hrz => c_X10_lawOf hN _ _ rz hrz) (show shp 107 = (10, 88) from rfl) (Nat.lt_of_lt_of_le (Nat.le_of_ble_eq_true rfl : 107 < 152) hN) (by decide) rfl rfl ⟨Nat.le_of_ble_eq_true rfl, Nat.le_of_ble_eq_true rfl⟩ ⟨Nat.le_refl 0, Nat.le_refl 0⟩ (As := [.int (2 : Int32)]) (st := []) rfl (Nat.le_of_ble_eq_true rfl) (dOk_at dt_X10_debatesOne 75 rfl) (fun v_7 h_8 _ => ?_)
      refine j_lconst hC (v := (0 : Int64)) rfl (dOk_at dt_X10_debatesOne 76 rfl) ?_
      refine j_lcmp hC (dOk_at dt_X10_debatesOne 77 rfl) ?_
      refine j_if_eq hC (tgt := 124) (by decide) (dOk_at dt_X10_debatesOne 78 rfl) (fun q_9 => ?_) (fun q_9 => ?_)
      · refine j_sub [1, 2, 3, 4] rfl ?_
        exact b124 h_8 x1 x2 x3 
      · refine j_iconst hC (v := (1 : Int32)) rfl (dOk_at dt_X10_debatesOne 79 rfl) ?_
        refine j_goto hC (tgt := 125) (by decide) (dOk_at dt_X10_debatesOne 80 rfl) ?_
        refine j_sub [1, 2, 3, 4] rfl ?_
        exact b125 h_8 x1 x2 x3 (1 : Int32) 
  · refine j_aload_n hC 1 rfl rfl (dOk_at dt_X10_debatesOne 13 rfl) ?_
    refine j_getI hC flX10_410 (show shp 107 = (10, 88) from rfl) (Nat.lt_of_lt_of_le (Nat.le_of_ble_eq_true rfl : 107 < 152) hN) (by decide) (by decide) (fun _ _ _ => rfl) (dOk_at dt_X10_debatesOne 14 rfl) ?_
    refine j_if_eq hC (tgt := 32) (by decide) (dOk_at dt_X10_debatesOne 15 rfl) (fun q_10 => ?_) (fun q_10 => ?_)
    · refine j_aload_n hC 1 rfl rfl (dOk_at dt_X10_debatesOne 18 rfl) ?_
      refine j_iconst hC (v := (1 : Int32)) rfl (dOk_at dt_X10_debatesOne 19 rfl) ?_
      refine j_bipush hC (v := (10 : Int32)) rfl (dOk_at dt_X10_debatesOne 20 rfl) ?_
      refine j_bipush hC (v := (99 : Int32)) rfl (dOk_at dt_X10_debatesOne 21 rfl) ?_
      refine j_callVi hC clX10_436 (fun rz hrz => c_X10_boundLaw hN _ _ _ _ rz hrz) (show shp 107 = (10, 88) from rfl) (Nat.lt_of_lt_of_le (Nat.le_of_ble_eq_true rfl : 107 < 152) hN) (by decide) rfl rfl ⟨Nat.le_of_ble_eq_true rfl, Nat.le_of_ble_eq_true rfl⟩ ⟨Nat.le_refl 0, Nat.le_refl 0⟩ (As := [.int (1 : Int32), .int (10 : Int32), .int (99 : Int32)]) (st := []) rfl (Nat.le_of_ble_eq_true rfl) (dOk_at dt_X10_debatesOne 22 rfl) (fun v_11 h_12 _ => ?_)
      refine j_sub [1, 2, 3, 4] rfl ?_
      exact b41 h_12 x1 x2 x3 v_11 
    · refine j_iconst hC (v := (0 : Int32)) rfl (dOk_at dt_X10_debatesOne 16 rfl) ?_
      refine j_goto hC (tgt := 41) (by decide) (dOk_at dt_X10_debatesOne 17 rfl) ?_
      refine j_sub [1, 2, 3, 4] rfl ?_
      exact b41 h_4 x1 x2 x3 (0 : Int32) 
def tb_X10_number1 : List (Nat × Instr × Nat) := [(0, .aload_n 0, 1), (1, .aload_n 0, 1), (2, .getfield 388, 3), (5, .ldc2_w 445, 3), (8, .lmul, 1), (9, .ldc2_w 447, 3), (12, .ladd, 1), (13, .ldc2_w 449, 3), (16, .land, 1), (17, .putfield 388, 3), (20, .aload_n 0, 1), (21, .getfield 388, 3), (24, .ldc2_w 451, 3), (27, .ldiv, 1), (28, .iload_n 1, 1), (29, .i2l, 1), (30, .lrem, 1), (31, .l2i, 1), (32, .ireturn, 1)]
theorem dt_X10_number1 : dOk cX10_number1 tb_X10_number1 = true := by decide +kernel
def fX10_number1 (h : Hp) (x1 : Int32) : Option (Int32 × Hp) := if (Int32.toInt64 x1) = 0 then none else some ((Int64.toInt32 (((hJ (uJ h 107 67 ((((hJ h 107 67) * (1103515245 : Int64)) + (12345 : Int64)) &&& (2147483647 : Int64))) 107 67) / (65536 : Int64)) - ((hJ (uJ h 107 67 ((((hJ h 107 67) * (1103515245 : Int64)) + (12345 : Int64)) &&& (2147483647 : Int64))) 107 67) / (65536 : Int64)) / (Int32.toInt64 x1) * (Int32.toInt64 x1))), (uJ h 107 67 ((((hJ h 107 67) * (1103515245 : Int64)) + (12345 : Int64)) &&& (2147483647 : Int64))))
set_option maxRecDepth 100000 in
set_option maxHeartbeats 4000000 in
theorem c_X10_number1 {l : Launch} {sb : State} {D : va_G} {ids : Nat → ClassId} {n : Nat} (hN : 152 ≤ n) (h : Hp) (x1 : Int32) (r : Int32 × Hp) (hr : fX10_number1 h x1 = some r) : jM l yX10_number1 cX10_number1 2 (some .int) 0 sb D ids shp St n [.ref 107, .int x1] h (jQi sb D ids shp St n r) := by
  refine jM_of hr rfl (Nat.le_of_ble_eq_true rfl) ?_
  intro p e s m args below meth c hC hret
  unfold fX10_number1
  refine j_aload_n hC 0 rfl rfl (dOk_at dt_X10_number1 0 rfl) ?_
  refine j_aload_n hC 0 rfl rfl (dOk_at dt_X10_number1 1 rfl) ?_
  refine j_getJ hC flX10_388 (show shp 107 = (10, 88) from rfl) (Nat.lt_of_lt_of_le (Nat.le_of_ble_eq_true rfl : 107 < 152) hN) (by decide) (by decide) (fun _ _ _ => rfl) (dOk_at dt_X10_number1 2 rfl) ?_
  refine j_ldc2 hC klX10_445 (dOk_at dt_X10_number1 3 rfl) ?_
  refine j_lmul hC (dOk_at dt_X10_number1 4 rfl) ?_
  refine j_ldc2 hC klX10_447 (dOk_at dt_X10_number1 5 rfl) ?_
  refine j_ladd hC (dOk_at dt_X10_number1 6 rfl) ?_
  refine j_ldc2 hC klX10_449 (dOk_at dt_X10_number1 7 rfl) ?_
  refine j_land hC (dOk_at dt_X10_number1 8 rfl) ?_
  refine j_putJ hC St_SP flX10_388 (show shp 107 = (10, 88) from rfl) (Nat.lt_of_lt_of_le (Nat.le_of_ble_eq_true rfl : 107 < 152) hN) (by decide) (by decide) rfl rfl (dOk_at dt_X10_number1 9 rfl) ?_
  refine j_aload_n hC 0 rfl rfl (dOk_at dt_X10_number1 10 rfl) ?_
  refine j_getJ hC flX10_388 (show shp 107 = (10, 88) from rfl) (Nat.lt_of_lt_of_le (Nat.le_of_ble_eq_true rfl : 107 < 152) hN) (by decide) (by decide) (fun _ _ _ => rfl) (dOk_at dt_X10_number1 11 rfl) ?_
  refine j_ldc2 hC klX10_451 (dOk_at dt_X10_number1 12 rfl) ?_
  refine j_ldivK hC (by decide) (dOk_at dt_X10_number1 13 rfl) ?_
  refine j_iload_n hC 1 rfl rfl (dOk_at dt_X10_number1 14 rfl) ?_
  refine j_i2l hC (dOk_at dt_X10_number1 15 rfl) ?_
  refine j_lrem hC (dOk_at dt_X10_number1 16 rfl) ?_
  refine j_l2i hC (dOk_at dt_X10_number1 17 rfl) ?_
  exact j_iret hC hret (dOk_at dt_X10_number1 18 rfl)
def tb_X10_isDamp : List (Nat × Instr × Nat) := [(0, .aload_n 0, 1), (1, .getfield 407, 3), (4, .ifCond .ne 12, 3), (7, .aload_n 0, 1), (8, .getfield 24, 3), (11, .iconst 0, 1), (12, .iaload, 1), (13, .ifCond .ne 5, 3), (16, .iconst 0, 1), (17, .ireturn, 1), (18, .aload_n 0, 1), (19, .getfield 24, 3), (22, .iconst 0, 1), (23, .iaload, 1), (24, .bipush 100, 2), (26, .if_icmp .ne 5, 3), (29, .iconst 1, 1), (30, .ireturn, 1), (31, .aload_n 0, 1), (32, .getfield 404, 3), (35, .ifCond .eq 26, 3), (38, .aload_n 0, 1), (39, .bipush 100, 2), (41, .invokevirtual 453, 3), (44, .aload_n 0, 1), (45, .getfield 24, 3), (48, .iconst 0, 1), (49, .iaload, 1), (50, .if_icmp .ge 7, 3), (53, .iconst 1, 1), (54, .goto 23, 3), (57, .iconst 0, 1), (58, .goto 19, 3), (61, .aload_n 0, 1), (62, .getfield 24, 3), (65, .iconst 0, 1), (66, .iaload, 1), (67, .bipush 50, 2), (69, .if_icmp .lt 7, 3), (72, .iconst 1, 1), (73, .goto 4, 3), (76, .iconst 0, 1), (77, .ireturn, 1)]
theorem dt_X10_isDamp : dOk cX10_isDamp tb_X10_isDamp = true := by decide +kernel
def fX10_isDamp (h : Hp) : Option (Int32 × Hp) := if (hI h 107 69) = 0 then (if inb (0 : Int32) 4 then (if (hI h 111 (Int32.toNatClampNeg (0 : Int32))) = 0 then (some ((0 : Int32), h)) else (if inb (0 : Int32) 4 then (if (hI h 111 (Int32.toNatClampNeg (0 : Int32))) = (100 : Int32) then (some ((1 : Int32), h)) else (if (hI h 107 68) = 0 then (if inb (0 : Int32) 4 then (if (hI h 111 (Int32.toNatClampNeg (0 : Int32))) < (50 : Int32) then (some ((0 : Int32), h)) else (some ((1 : Int32), h))) else none) else (bnd (fX10_number1 h (100 : Int32)) (fun v_6 h_7 => if inb (0 : Int32) 4 then (if (hI h_7 111 (Int32.toNatClampNeg (0 : Int32))) ≤ v_6 then (some ((0 : Int32), h_7)) else (some ((1 : Int32), h_7))) else none)))) else none)) else none) else (some ((0 : Int32), h))
set_option maxRecDepth 100000 in
set_option maxHeartbeats 4000000 in
theorem c_X10_isDamp {l : Launch} {sb : State} {D : va_G} {ids : Nat → ClassId} {n : Nat} (hN : 152 ≤ n) (h : Hp) (r : Int32 × Hp) (hr : fX10_isDamp h = some r) : jM l yX10_isDamp cX10_isDamp 1 (some .boolean) 1 sb D ids shp St n [.ref 107] h (jQi sb D ids shp St n r) := by
  refine jM_of hr rfl (Nat.le_of_ble_eq_true rfl) ?_
  intro p e s m args below meth c hC hret
  unfold fX10_isDamp
  refine j_aload_n hC 0 rfl rfl (dOk_at dt_X10_isDamp 0 rfl) ?_
  refine j_getI hC flX10_407 (show shp 107 = (10, 88) from rfl) (Nat.lt_of_lt_of_le (Nat.le_of_ble_eq_true rfl : 107 < 152) hN) (by decide) (by decide) (fun _ _ _ => rfl) (dOk_at dt_X10_isDamp 1 rfl) ?_
  refine j_if_ne hC (tgt := 16) (by decide) (dOk_at dt_X10_isDamp 2 rfl) (fun q_1 => ?_) (fun q_1 => ?_)
  · refine j_iconst hC (v := (0 : Int32)) rfl (dOk_at dt_X10_isDamp 8 rfl) ?_
    exact j_zretK hC hret rfl (dOk_at dt_X10_isDamp 9 rfl)
  · refine j_aload_n hC 0 rfl rfl (dOk_at dt_X10_isDamp 3 rfl) ?_
    refine j_getR hC flX10_24 (show shp 107 = (10, 88) from rfl) (Nat.lt_of_lt_of_le (Nat.le_of_ble_eq_true rfl : 107 < 152) hN) (by decide) (by decide) (fun _ _ _ => rfl) (fun hs => hs 107 27 111 rfl) (dOk_at dt_X10_isDamp 4 rfl) ?_
    refine j_iconst hC (v := (0 : Int32)) rfl (dOk_at dt_X10_isDamp 5 rfl) ?_
    refine j_iald hC (show shp 111 = (21, 4) from rfl) (Nat.lt_of_lt_of_le (Nat.le_of_ble_eq_true rfl : 111 < 152) hN) (dOk_at dt_X10_isDamp 6 rfl) ?_
    refine j_if_ne hC (tgt := 18) (by decide) (dOk_at dt_X10_isDamp 7 rfl) (fun q_2 => ?_) (fun q_2 => ?_)
    · refine j_aload_n hC 0 rfl rfl (dOk_at dt_X10_isDamp 10 rfl) ?_
      refine j_getR hC flX10_24 (show shp 107 = (10, 88) from rfl) (Nat.lt_of_lt_of_le (Nat.le_of_ble_eq_true rfl : 107 < 152) hN) (by decide) (by decide) (fun _ _ _ => rfl) (fun hs => hs 107 27 111 rfl) (dOk_at dt_X10_isDamp 11 rfl) ?_
      refine j_iconst hC (v := (0 : Int32)) rfl (dOk_at dt_X10_isDamp 12 rfl) ?_
      refine j_iald hC (show shp 111 = (21, 4) from rfl) (Nat.lt_of_lt_of_le (Nat.le_of_ble_eq_true rfl : 111 < 152) hN) (dOk_at dt_X10_isDamp 13 rfl) ?_
      refine j_bipush hC (v := (100 : Int32)) rfl (dOk_at dt_X10_isDamp 14 rfl) ?_
      refine j_icmp_ne hC (tgt := 31) (by decide) (dOk_at dt_X10_isDamp 15 rfl) (fun q_3 => ?_) (fun q_3 => ?_)
      · refine j_aload_n hC 0 rfl rfl (dOk_at dt_X10_isDamp 18 rfl) ?_
        refine j_getI hC flX10_404 (show shp 107 = (10, 88) from rfl) (Nat.lt_of_lt_of_le (Nat.le_of_ble_eq_true rfl : 107 < 152) hN) (by decide) (by decide) (fun _ _ _ => rfl) (dOk_at dt_X10_isDamp 19 rfl) ?_
        refine j_if_eq hC (tgt := 61) (by decide) (dOk_at dt_X10_isDamp 20 rfl) (fun q_4 => ?_) (fun q_4 => ?_)
        · refine j_aload_n hC 0 rfl rfl (dOk_at dt_X10_isDamp 33 rfl) ?_
          refine j_getR hC flX10_24 (show shp 107 = (10, 88) from rfl) (Nat.lt_of_lt_of_le (Nat.le_of_ble_eq_true rfl : 107 < 152) hN) (by decide) (by decide) (fun _ _ _ => rfl) (fun hs => hs 107 27 111 rfl) (dOk_at dt_X10_isDamp 34 rfl) ?_
          refine j_iconst hC (v := (0 : Int32)) rfl (dOk_at dt_X10_isDamp 35 rfl) ?_
          refine j_iald hC (show shp 111 = (21, 4) from rfl) (Nat.lt_of_lt_of_le (Nat.le_of_ble_eq_true rfl : 111 < 152) hN) (dOk_at dt_X10_isDamp 36 rfl) ?_
          refine j_bipush hC (v := (50 : Int32)) rfl (dOk_at dt_X10_isDamp 37 rfl) ?_
          refine j_icmp_lt hC (tgt := 76) (by decide) (dOk_at dt_X10_isDamp 38 rfl) (fun q_5 => ?_) (fun q_5 => ?_)
          · refine j_iconst hC (v := (0 : Int32)) rfl (dOk_at dt_X10_isDamp 41 rfl) ?_
            exact j_zretK hC hret rfl (dOk_at dt_X10_isDamp 42 rfl)
          · refine j_iconst hC (v := (1 : Int32)) rfl (dOk_at dt_X10_isDamp 39 rfl) ?_
            refine j_goto hC (tgt := 77) (by decide) (dOk_at dt_X10_isDamp 40 rfl) ?_
            exact j_zretK hC hret rfl (dOk_at dt_X10_isDamp 42 rfl)
        · refine j_aload_n hC 0 rfl rfl (dOk_at dt_X10_isDamp 21 rfl) ?_
          refine j_bipush hC (v := (100 : Int32)) rfl (dOk_at dt_X10_isDamp 22 rfl) ?_
          refine j_callVi hC clX10_453 (fun rz hrz => c_X10_number1 hN _ _ rz hrz) (show shp 107 = (10, 88) from rfl) (Nat.lt_of_lt_of_le (Nat.le_of_ble_eq_true rfl : 107 < 152) hN) (by decide) rfl rfl ⟨Nat.le_of_ble_eq_true rfl, Nat.le_of_ble_eq_true rfl⟩ ⟨Nat.le_refl 0, Nat.le_refl 0⟩ (As := [.int (100 : Int32)]) (st := []) rfl (Nat.le_of_ble_eq_true rfl) (dOk_at dt_X10_isDamp 23 rfl) (fun v_6 h_7 _ => ?_)
          refine j_aload_n hC 0 rfl rfl (dOk_at dt_X10_isDamp 24 rfl) ?_
          refine j_getR hC flX10_24 (show shp 107 = (10, 88) from rfl) (Nat.lt_of_lt_of_le (Nat.le_of_ble_eq_true rfl : 107 < 152) hN) (by decide) (by decide) (fun _ _ _ => rfl) (fun hs => hs 107 27 111 rfl) (dOk_at dt_X10_isDamp 25 rfl) ?_
          refine j_iconst hC (v := (0 : Int32)) rfl (dOk_at dt_X10_isDamp 26 rfl) ?_
          refine j_iald hC (show shp 111 = (21, 4) from rfl) (Nat.lt_of_lt_of_le (Nat.le_of_ble_eq_true rfl : 111 < 152) hN) (dOk_at dt_X10_isDamp 27 rfl) ?_
          refine j_icmp_ge hC (tgt := 57) (by decide) (dOk_at dt_X10_isDamp 28 rfl) (fun q_8 => ?_) (fun q_8 => ?_)
          · refine j_iconst hC (v := (0 : Int32)) rfl (dOk_at dt_X10_isDamp 31 rfl) ?_
            refine j_goto hC (tgt := 77) (by decide) (dOk_at dt_X10_isDamp 32 rfl) ?_
            exact j_zretK hC hret rfl (dOk_at dt_X10_isDamp 42 rfl)
          · refine j_iconst hC (v := (1 : Int32)) rfl (dOk_at dt_X10_isDamp 29 rfl) ?_
            refine j_goto hC (tgt := 77) (by decide) (dOk_at dt_X10_isDamp 30 rfl) ?_
            exact j_zretK hC hret rfl (dOk_at dt_X10_isDamp 42 rfl)
      · refine j_iconst hC (v := (1 : Int32)) rfl (dOk_at dt_X10_isDamp 16 rfl) ?_
        exact j_zretK hC hret rfl (dOk_at dt_X10_isDamp 17 rfl)
    · refine j_iconst hC (v := (0 : Int32)) rfl (dOk_at dt_X10_isDamp 8 rfl) ?_
      exact j_zretK hC hret rfl (dOk_at dt_X10_isDamp 9 rfl)
