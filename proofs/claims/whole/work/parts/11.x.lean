def tb_X0_dropsTwo : List (Nat × Instr × Nat) := [(0, .iconst 0, 1), (1, .istore_n 2, 1), (2, .iload_n 2, 1), (3, .aload_n 0, 1), (4, .getfield 33, 3), (7, .if_icmp .ge 49, 3), (10, .iload_n 2, 1), (11, .iconst 1, 1), (12, .iadd, 1), (13, .istore_n 3, 1), (14, .iload_n 3, 1), (15, .aload_n 0, 1), (16, .getfield 33, 3), (19, .if_icmp .ge 31, 3), (22, .aload_n 0, 1), (23, .iload_n 1, 1), (24, .iload_n 2, 1), (25, .iload_n 3, 1), (26, .invokevirtual 108, 3), (29, .ifCond .eq 15, 3), (32, .aload_n 0, 1), (33, .iload_n 2, 1), (34, .putfield 49, 3), (37, .aload_n 0, 1), (38, .iload_n 3, 1), (39, .putfield 52, 3), (42, .iconst 1, 1), (43, .ireturn, 1), (44, .iinc 3 1, 3), (47, .goto (-33), 3), (50, .iinc 2 1, 3), (53, .goto (-51), 3), (56, .iconst 0, 1), (57, .ireturn, 1)]
theorem dt_X0_dropsTwo : dOk cX0_dropsTwo tb_X0_dropsTwo = true := by decide +kernel
def fX0_dropsTwo_14 : Nat → (Nat) → (Hp → Int32 → Int32 → Option (Int32 × Hp)) → Hp → Int32 → Int32 → Int32 → Option (Int32 × Hp)
  | 0, _, _, _, _, _, _ => none
  | fu + 1, tt, rec2, h, x1, x2, x3 => if (hI h tt 5) ≤ x3 then (rec2 h x1 (x2 + (1 : Int32))) else (bnd (fX0_isGround tt h x1 x2 x3) (fun v_3 h_4 => if v_3 = 0 then ((fX0_dropsTwo_14 fu tt rec2) h_4 x1 x2 (x3 + (1 : Int32))) else (some ((1 : Int32), (uI (uI h_4 tt 10 x2) tt 11 x3)))))
def fX0_dropsTwo_2 : Nat → (Nat) → Hp → Int32 → Int32 → Option (Int32 × Hp)
  | 0, _, _, _, _ => none
  | fu + 1, tt, h, x1, x2 => if (hI h tt 5) ≤ x2 then (some ((0 : Int32), h)) else (fX0_dropsTwo_14 FU tt (fX0_dropsTwo_2 fu tt) h x1 x2 (x2 + (1 : Int32)))
def fX0_dropsTwo (tt : Nat) (h : Hp) (x1 : Int32) : Option (Int32 × Hp) := fX0_dropsTwo_2 FU tt h x1 (0 : Int32)
set_option maxRecDepth 100000 in
set_option maxHeartbeats 4000000 in
theorem c_X0_dropsTwo {l : Launch} {sb : State} {D : va_G} {ids : Nat → ClassId} {n : Nat} (hN : 152 ≤ n) {tt : Nat} (ht : shp tt = (0, 12)) (h : Hp) (x1 : Int32) (r : Int32 × Hp) (hr : fX0_dropsTwo tt h x1 = some r) : jM l yX0_dropsTwo cX0_dropsTwo 4 (some .boolean) 4 sb D ids shp St n [.ref tt, .int x1] h (jQi sb D ids shp St n r) := by
  refine jM_of hr rfl (Nat.le_of_ble_eq_true rfl) ?_
  intro p e s m args below meth c hC hret
  have b14 : ∀ (fu : Nat) (rec2 : Hp → Int32 → Int32 → Option (Int32 × Hp)) (hrec2 : ∀ (h : Hp) (x1 : Int32) (x2 : Int32) , jJ p l e (rmD 4) s m args below meth c 4 sb D ids shp St (fun r => MQ below (jQi sb D ids shp St n r) args s 0 0 (jA sb)) n 0 0 h 2 [(0, .ref tt), (1, .int x1), (2, .int x2)] [] (rec2 h x1 x2)) (h : Hp) (x1 : Int32) (x2 : Int32) (x3 : Int32) , jJ p l e (rmD 4) s m args below meth c 4 sb D ids shp St (fun r => MQ below (jQi sb D ids shp St n r) args s 0 0 (jA sb)) n 0 0 h 14 [(0, .ref tt), (1, .int x1), (2, .int x2), (3, .int x3)] [] (fX0_dropsTwo_14 fu tt rec2 h x1 x2 x3) := by
    intro fu rec2 hrec2
    induction fu with
    | zero => intro h x1 x2 x3 ; exact j_none
    | succ fu ih =>
    intro h x1 x2 x3 
    rw [fX0_dropsTwo_14]
    refine j_iload_n hC 3 rfl rfl (dOk_at dt_X0_dropsTwo 10 rfl) ?_
    refine j_aload_n hC 0 rfl rfl (dOk_at dt_X0_dropsTwo 11 rfl) ?_
    refine j_getI hC flX0_33 ht (jlt hN ht (by decide)) (by decide) (by decide) (fun _ _ _ => rfl) (dOk_at dt_X0_dropsTwo 12 rfl) ?_
    refine j_icmp_ge hC (tgt := 50) (by decide) (dOk_at dt_X0_dropsTwo 13 rfl) (fun q_2 => ?_) (fun q_2 => ?_)
    · refine j_iinc hC (v := (x2 + (1 : Int32))) (lv' := [(2, .int (x2 + (1 : Int32))), (0, .ref tt), (1, .int x1), (3, .int x3)]) 2 rfl (congrArg (fun z => x2 + z) (show Int32.ofInt (1) = (1 : Int32) from by decide)) (by decide) rfl (dOk_at dt_X0_dropsTwo 30 rfl) ?_
      refine j_goto hC (tgt := 2) (by decide) (dOk_at dt_X0_dropsTwo 31 rfl) ?_
      refine j_sub [1, 2, 0] rfl ?_
      exact hrec2 h x1 (x2 + (1 : Int32)) 
    · refine j_aload_n hC 0 rfl rfl (dOk_at dt_X0_dropsTwo 14 rfl) ?_
      refine j_iload_n hC 1 rfl rfl (dOk_at dt_X0_dropsTwo 15 rfl) ?_
      refine j_iload_n hC 2 rfl rfl (dOk_at dt_X0_dropsTwo 16 rfl) ?_
      refine j_iload_n hC 3 rfl rfl (dOk_at dt_X0_dropsTwo 17 rfl) ?_
      refine j_callVi hC clX0_108 (fun rz hrz => c_X0_isGround hN (ht) _ _ _ _ rz hrz) ht (jlt hN ht (by decide)) (by decide) rfl rfl ⟨Nat.le_of_ble_eq_true rfl, Nat.le_of_ble_eq_true rfl⟩ ⟨Nat.le_refl 0, Nat.le_refl 0⟩ (As := [.int x1, .int x2, .int x3]) (st := []) rfl (Nat.le_of_ble_eq_true rfl) (dOk_at dt_X0_dropsTwo 18 rfl) (fun v_3 h_4 _ => ?_)
      refine j_if_eq hC (tgt := 44) (by decide) (dOk_at dt_X0_dropsTwo 19 rfl) (fun q_5 => ?_) (fun q_5 => ?_)
      · refine j_iinc hC (v := (x3 + (1 : Int32))) (lv' := [(3, .int (x3 + (1 : Int32))), (0, .ref tt), (1, .int x1), (2, .int x2)]) 3 rfl (congrArg (fun z => x3 + z) (show Int32.ofInt (1) = (1 : Int32) from by decide)) (by decide) rfl (dOk_at dt_X0_dropsTwo 28 rfl) ?_
        refine j_goto hC (tgt := 14) (by decide) (dOk_at dt_X0_dropsTwo 29 rfl) ?_
        refine j_sub [1, 2, 3, 0] rfl ?_
        exact ih h_4 x1 x2 (x3 + (1 : Int32)) 
      · refine j_aload_n hC 0 rfl rfl (dOk_at dt_X0_dropsTwo 20 rfl) ?_
        refine j_iload_n hC 2 rfl rfl (dOk_at dt_X0_dropsTwo 21 rfl) ?_
        refine j_putI hC St_SP flX0_49 ht (jlt hN ht (by decide)) (by decide) (by decide) rfl rfl (dOk_at dt_X0_dropsTwo 22 rfl) ?_
        refine j_aload_n hC 0 rfl rfl (dOk_at dt_X0_dropsTwo 23 rfl) ?_
        refine j_iload_n hC 3 rfl rfl (dOk_at dt_X0_dropsTwo 24 rfl) ?_
        refine j_putI hC St_SP flX0_52 ht (jlt hN ht (by decide)) (by decide) (by decide) rfl rfl (dOk_at dt_X0_dropsTwo 25 rfl) ?_
        refine j_iconst hC (v := (1 : Int32)) rfl (dOk_at dt_X0_dropsTwo 26 rfl) ?_
        exact j_zretK hC hret rfl (dOk_at dt_X0_dropsTwo 27 rfl)
  have b2 : ∀ (fu : Nat) (h : Hp) (x1 : Int32) (x2 : Int32) , jJ p l e (rmD 4) s m args below meth c 4 sb D ids shp St (fun r => MQ below (jQi sb D ids shp St n r) args s 0 0 (jA sb)) n 0 0 h 2 [(0, .ref tt), (1, .int x1), (2, .int x2)] [] (fX0_dropsTwo_2 fu tt h x1 x2) := by
    intro fu 
    induction fu with
    | zero => intro h x1 x2 ; exact j_none
    | succ fu ih =>
    intro h x1 x2 
    rw [fX0_dropsTwo_2]
    refine j_iload_n hC 2 rfl rfl (dOk_at dt_X0_dropsTwo 2 rfl) ?_
    refine j_aload_n hC 0 rfl rfl (dOk_at dt_X0_dropsTwo 3 rfl) ?_
    refine j_getI hC flX0_33 ht (jlt hN ht (by decide)) (by decide) (by decide) (fun _ _ _ => rfl) (dOk_at dt_X0_dropsTwo 4 rfl) ?_
    refine j_icmp_ge hC (tgt := 56) (by decide) (dOk_at dt_X0_dropsTwo 5 rfl) (fun q_1 => ?_) (fun q_1 => ?_)
    · refine j_iconst hC (v := (0 : Int32)) rfl (dOk_at dt_X0_dropsTwo 32 rfl) ?_
      exact j_zretK hC hret rfl (dOk_at dt_X0_dropsTwo 33 rfl)
    · refine j_iload_n hC 2 rfl rfl (dOk_at dt_X0_dropsTwo 6 rfl) ?_
      refine j_iconst hC (v := (1 : Int32)) rfl (dOk_at dt_X0_dropsTwo 7 rfl) ?_
      refine j_iadd hC (dOk_at dt_X0_dropsTwo 8 rfl) ?_
      refine j_istore_n hC rfl (lv' := [(3, .int (x2 + (1 : Int32))), (0, .ref tt), (1, .int x1), (2, .int x2)]) (by decide) rfl (dOk_at dt_X0_dropsTwo 9 rfl) ?_
      refine j_sub [1, 2, 3, 0] rfl ?_
      exact b14 FU (fX0_dropsTwo_2 fu tt) ih h x1 x2 (x2 + (1 : Int32)) 
  unfold fX0_dropsTwo
  refine j_iconst hC (v := (0 : Int32)) rfl (dOk_at dt_X0_dropsTwo 0 rfl) ?_
  refine j_istore_n hC rfl (lv' := [(2, .int (0 : Int32)), (0, .ref tt), (1, .int x1)]) (by decide) rfl (dOk_at dt_X0_dropsTwo 1 rfl) ?_
  refine j_sub [1, 2, 0] rfl ?_
  exact b2 FU h x1 (0 : Int32) 
def tb_X0_dropped : List (Nat × Instr × Nat) := [(0, .aload_n 0, 1), (1, .bipush (-2), 2), (3, .putfield 49, 3), (6, .aload_n 0, 1), (7, .bipush (-2), 2), (9, .putfield 52, 3), (12, .bipush (-2), 2), (14, .istore_n 3, 1), (15, .aload_n 0, 1), (16, .iload_n 1, 1), (17, .iconst (-1), 1), (18, .iconst (-1), 1), (19, .invokevirtual 108, 3), (22, .ifCond .eq 8, 3), (25, .iconst 0, 1), (26, .istore_n 3, 1), (27, .goto 26, 3), (30, .aload_n 0, 1), (31, .iload_n 1, 1), (32, .invokevirtual 112, 3), (35, .ifCond .eq 8, 3), (38, .iconst 1, 1), (39, .istore_n 3, 1), (40, .goto 13, 3), (43, .aload_n 0, 1), (44, .iload_n 1, 1), (45, .invokevirtual 115, 3), (48, .ifCond .eq 5, 3), (51, .iconst 2, 1), (52, .istore_n 3, 1), (53, .iload_n 2, 1), (54, .ifCond .ne 5, 3), (57, .iload_n 3, 1), (58, .ireturn, 1), (59, .iload_n 2, 1), (60, .iconst 1, 1), (61, .if_icmp .ne 10, 3), (64, .aload_n 0, 1), (65, .getfield 49, 3), (68, .goto 7, 3), (71, .aload_n 0, 1), (72, .getfield 52, 3), (75, .ireturn, 1)]
theorem dt_X0_dropped : dOk cX0_dropped tb_X0_dropped = true := by decide +kernel
def fX0_dropped_53 (tt : Nat) (h : Hp) (x2 : Int32) (x3 : Int32) : Option (Int32 × Hp) := if x2 = 0 then (some (x3, h)) else (if x2 = (1 : Int32) then (some ((hI h tt 10), h)) else (some ((hI h tt 11), h)))
def fX0_dropped (tt : Nat) (h : Hp) (x1 : Int32) (x2 : Int32) : Option (Int32 × Hp) := bnd (fX0_isGround tt (uI (uI h tt 10 (-2 : Int32)) tt 11 (-2 : Int32)) x1 (-1 : Int32) (-1 : Int32)) (fun v_1 h_2 => if v_1 = 0 then (bnd (fX0_dropsOne tt h_2 x1) (fun v_4 h_5 => if v_4 = 0 then (bnd (fX0_dropsTwo tt h_5 x1) (fun v_7 h_8 => if v_7 = 0 then (fX0_dropped_53 tt h_8 x2 (-2 : Int32)) else (fX0_dropped_53 tt h_8 x2 (2 : Int32)))) else (fX0_dropped_53 tt h_5 x2 (1 : Int32)))) else (fX0_dropped_53 tt h_2 x2 (0 : Int32)))
set_option maxRecDepth 100000 in
set_option maxHeartbeats 4000000 in
theorem c_X0_dropped {l : Launch} {sb : State} {D : va_G} {ids : Nat → ClassId} {n : Nat} (hN : 152 ≤ n) {tt : Nat} (ht : shp tt = (0, 12)) (h : Hp) (x1 : Int32) (x2 : Int32) (r : Int32 × Hp) (hr : fX0_dropped tt h x1 x2 = some r) : jM l yX0_dropped cX0_dropped 4 (some .int) 5 sb D ids shp St n [.ref tt, .int x1, .int x2] h (jQi sb D ids shp St n r) := by
  refine jM_of hr rfl (Nat.le_of_ble_eq_true rfl) ?_
  intro p e s m args below meth c hC hret
  have b53 : ∀ (h : Hp) (x2 : Int32) (x3 : Int32) , jJ p l e (rmD 5) s m args below meth c 4 sb D ids shp St (fun r => MQ below (jQi sb D ids shp St n r) args s 0 0 (jA sb)) n 0 0 h 53 [(0, .ref tt), (2, .int x2), (3, .int x3)] [] (fX0_dropped_53 tt h x2 x3) := by
    intro h x2 x3 
    unfold fX0_dropped_53
    refine j_iload_n hC 1 rfl rfl (dOk_at dt_X0_dropped 30 rfl) ?_
    refine j_if_ne hC (tgt := 59) (by decide) (dOk_at dt_X0_dropped 31 rfl) (fun q_10 => ?_) (fun q_10 => ?_)
    · refine j_iload_n hC 1 rfl rfl (dOk_at dt_X0_dropped 34 rfl) ?_
      refine j_iconst hC (v := (1 : Int32)) rfl (dOk_at dt_X0_dropped 35 rfl) ?_
      refine j_icmp_ne hC (tgt := 71) (by decide) (dOk_at dt_X0_dropped 36 rfl) (fun q_11 => ?_) (fun q_11 => ?_)
      · refine j_aload_n hC 0 rfl rfl (dOk_at dt_X0_dropped 40 rfl) ?_
        refine j_getI hC flX0_52 ht (jlt hN ht (by decide)) (by decide) (by decide) (fun _ _ _ => rfl) (dOk_at dt_X0_dropped 41 rfl) ?_
        exact j_iret hC hret (dOk_at dt_X0_dropped 42 rfl)
      · refine j_aload_n hC 0 rfl rfl (dOk_at dt_X0_dropped 37 rfl) ?_
        refine j_getI hC flX0_49 ht (jlt hN ht (by decide)) (by decide) (by decide) (fun _ _ _ => rfl) (dOk_at dt_X0_dropped 38 rfl) ?_
        refine j_goto hC (tgt := 75) (by decide) (dOk_at dt_X0_dropped 39 rfl) ?_
        exact j_iret hC hret (dOk_at dt_X0_dropped 42 rfl)
    · refine j_iload_n hC 2 rfl rfl (dOk_at dt_X0_dropped 32 rfl) ?_
      exact j_iret hC hret (dOk_at dt_X0_dropped 33 rfl)
  unfold fX0_dropped
  refine j_aload_n hC 0 rfl rfl (dOk_at dt_X0_dropped 0 rfl) ?_
  refine j_bipush hC (v := (-2 : Int32)) rfl (dOk_at dt_X0_dropped 1 rfl) ?_
  refine j_putI hC St_SP flX0_49 ht (jlt hN ht (by decide)) (by decide) (by decide) rfl rfl (dOk_at dt_X0_dropped 2 rfl) ?_
  refine j_aload_n hC 0 rfl rfl (dOk_at dt_X0_dropped 3 rfl) ?_
  refine j_bipush hC (v := (-2 : Int32)) rfl (dOk_at dt_X0_dropped 4 rfl) ?_
  refine j_putI hC St_SP flX0_52 ht (jlt hN ht (by decide)) (by decide) (by decide) rfl rfl (dOk_at dt_X0_dropped 5 rfl) ?_
  refine j_bipush hC (v := (-2 : Int32)) rfl (dOk_at dt_X0_dropped 6 rfl) ?_
  refine j_istore_n hC rfl (lv' := [(3, .int (-2 : Int32)), (0, .ref tt), (1, .int x1), (2, .int x2)]) (by decide) rfl (dOk_at dt_X0_dropped 7 rfl) ?_
  refine j_aload_n hC 1 rfl rfl (dOk_at dt_X0_dropped 8 rfl) ?_
  refine j_iload_n hC 2 rfl rfl (dOk_at dt_X0_dropped 9 rfl) ?_
  refine j_iconst hC (v := (-1 : Int32)) rfl (dOk_at dt_X0_dropped 10 rfl) ?_
  refine j_iconst hC (v := (-1 : Int32)) rfl (dOk_at dt_X0_dropped 11 rfl) ?_
  refine j_callVi hC clX0_108 (fun rz hrz => c_X0_isGround hN (ht) _ _ _ _ rz hrz) ht (jlt hN ht (by decide)) (by decide) rfl rfl ⟨Nat.le_of_ble_eq_true rfl, Nat.le_of_ble_eq_true rfl⟩ ⟨Nat.le_refl 0, Nat.le_refl 0⟩ (As := [.int x1, .int (-1 : Int32), .int (-1 : Int32)]) (st := []) rfl (Nat.le_of_ble_eq_true rfl) (dOk_at dt_X0_dropped 12 rfl) (fun v_1 h_2 _ => ?_)
  refine j_if_eq hC (tgt := 30) (by decide) (dOk_at dt_X0_dropped 13 rfl) (fun q_3 => ?_) (fun q_3 => ?_)
  · refine j_aload_n hC 1 rfl rfl (dOk_at dt_X0_dropped 17 rfl) ?_
    refine j_iload_n hC 2 rfl rfl (dOk_at dt_X0_dropped 18 rfl) ?_
    refine j_callVi hC clX0_112 (fun rz hrz => c_X0_dropsOne hN (ht) _ _ rz hrz) ht (jlt hN ht (by decide)) (by decide) rfl rfl ⟨Nat.le_of_ble_eq_true rfl, Nat.le_of_ble_eq_true rfl⟩ ⟨Nat.le_refl 0, Nat.le_refl 0⟩ (As := [.int x1]) (st := []) rfl (Nat.le_of_ble_eq_true rfl) (dOk_at dt_X0_dropped 19 rfl) (fun v_4 h_5 _ => ?_)
    refine j_if_eq hC (tgt := 43) (by decide) (dOk_at dt_X0_dropped 20 rfl) (fun q_6 => ?_) (fun q_6 => ?_)
    · refine j_aload_n hC 1 rfl rfl (dOk_at dt_X0_dropped 24 rfl) ?_
      refine j_iload_n hC 2 rfl rfl (dOk_at dt_X0_dropped 25 rfl) ?_
      refine j_callVi hC clX0_115 (fun rz hrz => c_X0_dropsTwo hN (ht) _ _ rz hrz) ht (jlt hN ht (by decide)) (by decide) rfl rfl ⟨Nat.le_of_ble_eq_true rfl, Nat.le_of_ble_eq_true rfl⟩ ⟨Nat.le_refl 0, Nat.le_refl 0⟩ (As := [.int x1]) (st := []) rfl (Nat.le_of_ble_eq_true rfl) (dOk_at dt_X0_dropped 26 rfl) (fun v_7 h_8 _ => ?_)
      refine j_if_eq hC (tgt := 53) (by decide) (dOk_at dt_X0_dropped 27 rfl) (fun q_9 => ?_) (fun q_9 => ?_)
      · refine j_sub [1, 3, 0] rfl ?_
        exact b53 h_8 x2 (-2 : Int32) 
      · refine j_iconst hC (v := (2 : Int32)) rfl (dOk_at dt_X0_dropped 28 rfl) ?_
        refine j_istore_n hC rfl (lv' := [(3, .int (2 : Int32)), (0, .ref tt), (1, .int x1), (2, .int x2)]) (by decide) rfl (dOk_at dt_X0_dropped 29 rfl) ?_
        refine j_sub [1, 3, 0] rfl ?_
        exact b53 h_8 x2 (2 : Int32) 
    · refine j_iconst hC (v := (1 : Int32)) rfl (dOk_at dt_X0_dropped 21 rfl) ?_
      refine j_istore_n hC rfl (lv' := [(3, .int (1 : Int32)), (0, .ref tt), (1, .int x1), (2, .int x2)]) (by decide) rfl (dOk_at dt_X0_dropped 22 rfl) ?_
      refine j_goto hC (tgt := 53) (by decide) (dOk_at dt_X0_dropped 23 rfl) ?_
      refine j_sub [1, 3, 0] rfl ?_
      exact b53 h_5 x2 (1 : Int32) 
  · refine j_iconst hC (v := (0 : Int32)) rfl (dOk_at dt_X0_dropped 14 rfl) ?_
    refine j_istore_n hC rfl (lv' := [(3, .int (0 : Int32)), (0, .ref tt), (1, .int x1), (2, .int x2)]) (by decide) rfl (dOk_at dt_X0_dropped 15 rfl) ?_
    refine j_goto hC (tgt := 53) (by decide) (dOk_at dt_X0_dropped 16 rfl) ?_
    refine j_sub [1, 3, 0] rfl ?_
    exact b53 h_2 x2 (0 : Int32) 
def tb_X0_contrasBetween : List (Nat × Instr × Nat) := [(0, .iconst 0, 1), (1, .istore_n 3, 1), (2, .iconst 0, 1), (3, .istore 4, 2), (5, .iload 4, 2), (7, .aload_n 0, 1), (8, .getfield 33, 3), (11, .if_icmp .ge 93, 3), (14, .iload 4, 2), (16, .bipush 16, 2), (18, .if_icmp .ge 86, 3), (21, .iconst 1, 1), (22, .aload_n 0, 1), (23, .getfield 37, 3), (26, .iload 4, 2), (28, .iaload, 1), (29, .ishl, 1), (30, .istore 5, 2), (32, .iconst 1, 1), (33, .aload_n 0, 1), (34, .getfield 40, 3), (37, .iload 4, 2), (39, .iaload, 1), (40, .ishl, 1), (41, .istore 6, 2), (43, .iload_n 1, 1), (44, .iload 5, 2), (46, .iand, 1), (47, .ifCond .eq 14, 3), (50, .iload_n 2, 1), (51, .iload 6, 2), (53, .iand, 1), (54, .ifCond .eq 7, 3), (57, .iconst 1, 1), (58, .goto 4, 3), (61, .iconst 0, 1), (62, .istore 7, 2), (64, .iload_n 2, 1), (65, .iload 5, 2), (67, .iand, 1), (68, .ifCond .eq 14, 3), (71, .iload_n 1, 1), (72, .iload 6, 2), (74, .iand, 1), (75, .ifCond .eq 7, 3), (78, .iconst 1, 1), (79, .goto 4, 3), (82, .iconst 0, 1), (83, .istore 8, 2), (85, .iload 7, 2), (87, .ifCond .ne 8, 3), (90, .iload 8, 2), (92, .ifCond .eq 6, 3), (95, .iinc 3 1, 3), (98, .iinc 4 1, 3), (101, .goto (-96), 3), (104, .iload_n 3, 1), (105, .ireturn, 1)]
theorem dt_X0_contrasBetween : dOk cX0_contrasBetween tb_X0_contrasBetween = true := by decide +kernel
def fX0_contrasBetween_98 (tt : Nat) (rec5 : Hp → Int32 → Int32 → Int32 → Int32 → Option (Int32 × Hp)) (h : Hp) (x1 : Int32) (x2 : Int32) (x3 : Int32) (x4 : Int32) : Option (Int32 × Hp) := rec5 h x1 x2 x3 (x4 + (1 : Int32))
def fX0_contrasBetween_95 (tt : Nat) (rec5 : Hp → Int32 → Int32 → Int32 → Int32 → Option (Int32 × Hp)) (h : Hp) (x1 : Int32) (x2 : Int32) (x3 : Int32) (x4 : Int32) : Option (Int32 × Hp) := fX0_contrasBetween_98 tt rec5 h x1 x2 (x3 + (1 : Int32)) x4
def fX0_contrasBetween_83 (tt : Nat) (rec5 : Hp → Int32 → Int32 → Int32 → Int32 → Option (Int32 × Hp)) (h : Hp) (x1 : Int32) (x2 : Int32) (x3 : Int32) (x4 : Int32) (x7 : Int32) (s0 : Int32) : Option (Int32 × Hp) := if x7 = 0 then (if s0 = 0 then (fX0_contrasBetween_98 tt rec5 h x1 x2 x3 x4) else (fX0_contrasBetween_95 tt rec5 h x1 x2 x3 x4)) else (fX0_contrasBetween_95 tt rec5 h x1 x2 x3 x4)
def fX0_contrasBetween_82 (tt : Nat) (rec5 : Hp → Int32 → Int32 → Int32 → Int32 → Option (Int32 × Hp)) (h : Hp) (x1 : Int32) (x2 : Int32) (x3 : Int32) (x4 : Int32) (x7 : Int32) : Option (Int32 × Hp) := fX0_contrasBetween_83 tt rec5 h x1 x2 x3 x4 x7 (0 : Int32)
def fX0_contrasBetween_62 (tt : Nat) (rec5 : Hp → Int32 → Int32 → Int32 → Int32 → Option (Int32 × Hp)) (h : Hp) (x1 : Int32) (x2 : Int32) (x3 : Int32) (x4 : Int32) (x5 : Int32) (x6 : Int32) (s0 : Int32) : Option (Int32 × Hp) := if (x2 &&& x5) = 0 then (fX0_contrasBetween_82 tt rec5 h x1 x2 x3 x4 s0) else (if (x1 &&& x6) = 0 then (fX0_contrasBetween_82 tt rec5 h x1 x2 x3 x4 s0) else (fX0_contrasBetween_83 tt rec5 h x1 x2 x3 x4 s0 (1 : Int32)))
def fX0_contrasBetween_61 (tt : Nat) (rec5 : Hp → Int32 → Int32 → Int32 → Int32 → Option (Int32 × Hp)) (h : Hp) (x1 : Int32) (x2 : Int32) (x3 : Int32) (x4 : Int32) (x5 : Int32) (x6 : Int32) : Option (Int32 × Hp) := fX0_contrasBetween_62 tt rec5 h x1 x2 x3 x4 x5 x6 (0 : Int32)
def fX0_contrasBetween_5 : Nat → (Nat) → Hp → Int32 → Int32 → Int32 → Int32 → Option (Int32 × Hp)
  | 0, _, _, _, _, _, _ => none
  | fu + 1, tt, h, x1, x2, x3, x4 => if (hI h tt 5) ≤ x4 then (some (x3, h)) else (if (16 : Int32) ≤ x4 then (some (x3, h)) else (if inb x4 16 then (if inb x4 16 then (if (x1 &&& ((1 : Int32) <<< ((hI h (rf tt 6) (Int32.toNatClampNeg x4)) &&& 31))) = 0 then (fX0_contrasBetween_61 tt (fX0_contrasBetween_5 fu tt) h x1 x2 x3 x4 ((1 : Int32) <<< ((hI h (rf tt 6) (Int32.toNatClampNeg x4)) &&& 31)) ((1 : Int32) <<< ((hI h (rf tt 7) (Int32.toNatClampNeg x4)) &&& 31))) else (if (x2 &&& ((1 : Int32) <<< ((hI h (rf tt 7) (Int32.toNatClampNeg x4)) &&& 31))) = 0 then (fX0_contrasBetween_61 tt (fX0_contrasBetween_5 fu tt) h x1 x2 x3 x4 ((1 : Int32) <<< ((hI h (rf tt 6) (Int32.toNatClampNeg x4)) &&& 31)) ((1 : Int32) <<< ((hI h (rf tt 7) (Int32.toNatClampNeg x4)) &&& 31))) else (fX0_contrasBetween_62 tt (fX0_contrasBetween_5 fu tt) h x1 x2 x3 x4 ((1 : Int32) <<< ((hI h (rf tt 6) (Int32.toNatClampNeg x4)) &&& 31)) ((1 : Int32) <<< ((hI h (rf tt 7) (Int32.toNatClampNeg x4)) &&& 31)) (1 : Int32)))) else none) else none))
def fX0_contrasBetween (tt : Nat) (h : Hp) (x1 : Int32) (x2 : Int32) : Option (Int32 × Hp) := fX0_contrasBetween_5 FU tt h x1 x2 (0 : Int32) (0 : Int32)
set_option maxRecDepth 100000 in
set_option maxHeartbeats 4000000 in
theorem c_X0_contrasBetween {l : Launch} {sb : State} {D : va_G} {ids : Nat → ClassId} {n : Nat} (hN : 152 ≤ n) {tt : Nat} (ht : shp tt = (0, 12)) (h : Hp) (x1 : Int32) (x2 : Int32) (r : Int32 × Hp) (hr : fX0_contrasBetween tt h x1 x2 = some r) : jM l yX0_contrasBetween cX0_contrasBetween 9 (some .int) 0 sb D ids shp St n [.ref tt, .int x1, .int x2] h (jQi sb D ids shp St n r) := by
  refine jM_of hr rfl (Nat.le_of_ble_eq_true rfl) ?_
  intro p e s m args below meth c hC hret
  have b98 : ∀ (rec5 : Hp → Int32 → Int32 → Int32 → Int32 → Option (Int32 × Hp)) (hrec5 : ∀ (h : Hp) (x1 : Int32) (x2 : Int32) (x3 : Int32) (x4 : Int32) , jJ p l e (rmD 0) s m args below meth c 9 sb D ids shp St (fun r => MQ below (jQi sb D ids shp St n r) args s 0 0 (jA sb)) n 0 0 h 5 [(0, .ref tt), (1, .int x1), (2, .int x2), (3, .int x3), (4, .int x4)] [] (rec5 h x1 x2 x3 x4)) (h : Hp) (x1 : Int32) (x2 : Int32) (x3 : Int32) (x4 : Int32) , jJ p l e (rmD 0) s m args below meth c 9 sb D ids shp St (fun r => MQ below (jQi sb D ids shp St n r) args s 0 0 (jA sb)) n 0 0 h 98 [(0, .ref tt), (1, .int x1), (2, .int x2), (3, .int x3), (4, .int x4)] [] (fX0_contrasBetween_98 tt rec5 h x1 x2 x3 x4) := by
    intro rec5 hrec5 h x1 x2 x3 x4 
    unfold fX0_contrasBetween_98
    refine j_iinc hC (v := (x4 + (1 : Int32))) (lv' := [(4, .int (x4 + (1 : Int32))), (0, .ref tt), (1, .int x1), (2, .int x2), (3, .int x3)]) 4 rfl (congrArg (fun z => x4 + z) (show Int32.ofInt (1) = (1 : Int32) from by decide)) (by decide) rfl (dOk_at dt_X0_contrasBetween 54 rfl) ?_
    refine j_goto hC (tgt := 5) (by decide) (dOk_at dt_X0_contrasBetween 55 rfl) ?_
    refine j_sub [1, 2, 3, 4, 0] rfl ?_
    exact hrec5 h x1 x2 x3 (x4 + (1 : Int32)) 
  have b95 : ∀ (rec5 : Hp → Int32 → Int32 → Int32 → Int32 → Option (Int32 × Hp)) (hrec5 : ∀ (h : Hp) (x1 : Int32) (x2 : Int32) (x3 : Int32) (x4 : Int32) , jJ p l e (rmD 0) s m args below meth c 9 sb D ids shp St (fun r => MQ below (jQi sb D ids shp St n r) args s 0 0 (jA sb)) n 0 0 h 5 [(0, .ref tt), (1, .int x1), (2, .int x2), (3, .int x3), (4, .int x4)] [] (rec5 h x1 x2 x3 x4)) (h : Hp) (x1 : Int32) (x2 : Int32) (x3 : Int32) (x4 : Int32) , jJ p l e (rmD 0) s m args below meth c 9 sb D ids shp St (fun r => MQ below (jQi sb D ids shp St n r) args s 0 0 (jA sb)) n 0 0 h 95 [(0, .ref tt), (1, .int x1), (2, .int x2), (3, .int x3), (4, .int x4)] [] (fX0_contrasBetween_95 tt rec5 h x1 x2 x3 x4) := by
    intro rec5 hrec5 h x1 x2 x3 x4 
    unfold fX0_contrasBetween_95
    refine j_iinc hC (v := (x3 + (1 : Int32))) (lv' := [(3, .int (x3 + (1 : Int32))), (0, .ref tt), (1, .int x1), (2, .int x2), (4, .int x4)]) 3 rfl (congrArg (fun z => x3 + z) (show Int32.ofInt (1) = (1 : Int32) from by decide)) (by decide) rfl (dOk_at dt_X0_contrasBetween 53 rfl) ?_
    refine j_sub [1, 2, 3, 0, 4] rfl ?_
    exact b98 rec5 hrec5 h x1 x2 (x3 + (1 : Int32)) x4 
  have b83 : ∀ (rec5 : Hp → Int32 → Int32 → Int32 → Int32 → Option (Int32 × Hp)) (hrec5 : ∀ (h : Hp) (x1 : Int32) (x2 : Int32) (x3 : Int32) (x4 : Int32) , jJ p l e (rmD 0) s m args below meth c 9 sb D ids shp St (fun r => MQ below (jQi sb D ids shp St n r) args s 0 0 (jA sb)) n 0 0 h 5 [(0, .ref tt), (1, .int x1), (2, .int x2), (3, .int x3), (4, .int x4)] [] (rec5 h x1 x2 x3 x4)) (h : Hp) (x1 : Int32) (x2 : Int32) (x3 : Int32) (x4 : Int32) (x7 : Int32) (s0 : Int32) , jJ p l e (rmD 0) s m args below meth c 9 sb D ids shp St (fun r => MQ below (jQi sb D ids shp St n r) args s 0 0 (jA sb)) n 0 0 h 83 [(0, .ref tt), (1, .int x1), (2, .int x2), (3, .int x3), (4, .int x4), (7, .int x7)] [.int s0] (fX0_contrasBetween_83 tt rec5 h x1 x2 x3 x4 x7 s0) := by
    intro rec5 hrec5 h x1 x2 x3 x4 x7 s0 
    unfold fX0_contrasBetween_83
    refine j_istore hC (lv' := [(8, .int s0), (0, .ref tt), (1, .int x1), (2, .int x2), (3, .int x3), (4, .int x4), (7, .int x7)]) (by decide) rfl (dOk_at dt_X0_contrasBetween 48 rfl) ?_
    refine j_iload hC 6 rfl (dOk_at dt_X0_contrasBetween 49 rfl) ?_
    refine j_if_ne hC (tgt := 95) (by decide) (dOk_at dt_X0_contrasBetween 50 rfl) (fun q_7 => ?_) (fun q_7 => ?_)
    · refine j_sub [1, 2, 3, 4, 5] rfl ?_
      exact b95 rec5 hrec5 h x1 x2 x3 x4 
    · refine j_iload hC 0 rfl (dOk_at dt_X0_contrasBetween 51 rfl) ?_
      refine j_if_eq hC (tgt := 98) (by decide) (dOk_at dt_X0_contrasBetween 52 rfl) (fun q_8 => ?_) (fun q_8 => ?_)
      · refine j_sub [1, 2, 3, 4, 5] rfl ?_
        exact b98 rec5 hrec5 h x1 x2 x3 x4 
      · refine j_sub [1, 2, 3, 4, 5] rfl ?_
        exact b95 rec5 hrec5 h x1 x2 x3 x4 
  have b82 : ∀ (rec5 : Hp → Int32 → Int32 → Int32 → Int32 → Option (Int32 × Hp)) (hrec5 : ∀ (h : Hp) (x1 : Int32) (x2 : Int32) (x3 : Int32) (x4 : Int32) , jJ p l e (rmD 0) s m args below meth c 9 sb D ids shp St (fun r => MQ below (jQi sb D ids shp St n r) args s 0 0 (jA sb)) n 0 0 h 5 [(0, .ref tt), (1, .int x1), (2, .int x2), (3, .int x3), (4, .int x4)] [] (rec5 h x1 x2 x3 x4)) (h : Hp) (x1 : Int32) (x2 : Int32) (x3 : Int32) (x4 : Int32) (x7 : Int32) , jJ p l e (rmD 0) s m args below meth c 9 sb D ids shp St (fun r => MQ below (jQi sb D ids shp St n r) args s 0 0 (jA sb)) n 0 0 h 82 [(0, .ref tt), (1, .int x1), (2, .int x2), (3, .int x3), (4, .int x4), (7, .int x7)] [] (fX0_contrasBetween_82 tt rec5 h x1 x2 x3 x4 x7) := by
    intro rec5 hrec5 h x1 x2 x3 x4 x7 
    unfold fX0_contrasBetween_82
    refine j_iconst hC (v := (0 : Int32)) rfl (dOk_at dt_X0_contrasBetween 47 rfl) ?_
    exact b83 rec5 hrec5 h x1 x2 x3 x4 x7 (0 : Int32) 
  have b62 : ∀ (rec5 : Hp → Int32 → Int32 → Int32 → Int32 → Option (Int32 × Hp)) (hrec5 : ∀ (h : Hp) (x1 : Int32) (x2 : Int32) (x3 : Int32) (x4 : Int32) , jJ p l e (rmD 0) s m args below meth c 9 sb D ids shp St (fun r => MQ below (jQi sb D ids shp St n r) args s 0 0 (jA sb)) n 0 0 h 5 [(0, .ref tt), (1, .int x1), (2, .int x2), (3, .int x3), (4, .int x4)] [] (rec5 h x1 x2 x3 x4)) (h : Hp) (x1 : Int32) (x2 : Int32) (x3 : Int32) (x4 : Int32) (x5 : Int32) (x6 : Int32) (s0 : Int32) , jJ p l e (rmD 0) s m args below meth c 9 sb D ids shp St (fun r => MQ below (jQi sb D ids shp St n r) args s 0 0 (jA sb)) n 0 0 h 62 [(0, .ref tt), (1, .int x1), (2, .int x2), (3, .int x3), (4, .int x4), (5, .int x5), (6, .int x6)] [.int s0] (fX0_contrasBetween_62 tt rec5 h x1 x2 x3 x4 x5 x6 s0) := by
    intro rec5 hrec5 h x1 x2 x3 x4 x5 x6 s0 
    unfold fX0_contrasBetween_62
    refine j_istore hC (lv' := [(7, .int s0), (0, .ref tt), (1, .int x1), (2, .int x2), (3, .int x3), (4, .int x4), (5, .int x5), (6, .int x6)]) (by decide) rfl (dOk_at dt_X0_contrasBetween 36 rfl) ?_
    refine j_iload_n hC 3 rfl rfl (dOk_at dt_X0_contrasBetween 37 rfl) ?_
    refine j_iload hC 6 rfl (dOk_at dt_X0_contrasBetween 38 rfl) ?_
    refine j_iand hC (dOk_at dt_X0_contrasBetween 39 rfl) ?_
    refine j_if_eq hC (tgt := 82) (by decide) (dOk_at dt_X0_contrasBetween 40 rfl) (fun q_5 => ?_) (fun q_5 => ?_)
    · refine j_sub [1, 2, 3, 4, 5, 0] rfl ?_
      exact b82 rec5 hrec5 h x1 x2 x3 x4 s0 
    · refine j_iload_n hC 2 rfl rfl (dOk_at dt_X0_contrasBetween 41 rfl) ?_
      refine j_iload hC 7 rfl (dOk_at dt_X0_contrasBetween 42 rfl) ?_
      refine j_iand hC (dOk_at dt_X0_contrasBetween 43 rfl) ?_
      refine j_if_eq hC (tgt := 82) (by decide) (dOk_at dt_X0_contrasBetween 44 rfl) (fun q_6 => ?_) (fun q_6 => ?_)
      · refine j_sub [1, 2, 3, 4, 5, 0] rfl ?_
        exact b82 rec5 hrec5 h x1 x2 x3 x4 s0 
      · refine j_iconst hC (v := (1 : Int32)) rfl (dOk_at dt_X0_contrasBetween 45 rfl) ?_
        refine j_goto hC (tgt := 83) (by decide) (dOk_at dt_X0_contrasBetween 46 rfl) ?_
        refine j_sub [1, 2, 3, 4, 5, 0] rfl ?_
        exact b83 rec5 hrec5 h x1 x2 x3 x4 s0 (1 : Int32) 
  have b61 : ∀ (rec5 : Hp → Int32 → Int32 → Int32 → Int32 → Option (Int32 × Hp)) (hrec5 : ∀ (h : Hp) (x1 : Int32) (x2 : Int32) (x3 : Int32) (x4 : Int32) , jJ p l e (rmD 0) s m args below meth c 9 sb D ids shp St (fun r => MQ below (jQi sb D ids shp St n r) args s 0 0 (jA sb)) n 0 0 h 5 [(0, .ref tt), (1, .int x1), (2, .int x2), (3, .int x3), (4, .int x4)] [] (rec5 h x1 x2 x3 x4)) (h : Hp) (x1 : Int32) (x2 : Int32) (x3 : Int32) (x4 : Int32) (x5 : Int32) (x6 : Int32) , jJ p l e (rmD 0) s m args below meth c 9 sb D ids shp St (fun r => MQ below (jQi sb D ids shp St n r) args s 0 0 (jA sb)) n 0 0 h 61 [(0, .ref tt), (1, .int x1), (2, .int x2), (3, .int x3), (4, .int x4), (5, .int x5), (6, .int x6)] [] (fX0_contrasBetween_61 tt rec5 h x1 x2 x3 x4 x5 x6) := by
    intro rec5 hrec5 h x1 x2 x3 x4 x5 x6 
    unfold fX0_contrasBetween_61
    refine j_iconst hC (v := (0 : Int32)) rfl (dOk_at dt_X0_contrasBetween 35 rfl) ?_
    exact b62 rec5 hrec5 h x1 x2 x3 x4 x5 x6 (0 : Int32) 
  have b5 : ∀ (fu : Nat) (h : Hp) (x1 : Int32) (x2 : Int32) (x3 : Int32) (x4 : Int32) , jJ p l e (rmD 0) s m args below meth c 9 sb D ids shp St (fun r => MQ below (jQi sb D ids shp St n r) args s 0 0 (jA sb)) n 0 0 h 5 [(0, .ref tt), (1, .int x1), (2, .int x2), (3, .int x3), (4, .int x4)] [] (fX0_contrasBetween_5 fu tt h x1 x2 x3 x4) := by
    intro fu 
    induction fu with
    | zero => intro h x1 x2 x3 x4 ; exact j_none
    | succ fu ih =>
    intro h x1 x2 x3 x4 
    rw [fX0_contrasBetween_5]
    refine j_iload hC 4 rfl (dOk_at dt_X0_contrasBetween 4 rfl) ?_
    refine j_aload_n hC 0 rfl rfl (dOk_at dt_X0_contrasBetween 5 rfl) ?_
    refine j_getI hC flX0_33 ht (jlt hN ht (by decide)) (by decide) (by decide) (fun _ _ _ => rfl) (dOk_at dt_X0_contrasBetween 6 rfl) ?_
    refine j_icmp_ge hC (tgt := 104) (by decide) (dOk_at dt_X0_contrasBetween 7 rfl) (fun q_1 => ?_) (fun q_1 => ?_)
    · refine j_iload_n hC 3 rfl rfl (dOk_at dt_X0_contrasBetween 56 rfl) ?_
      exact j_iret hC hret (dOk_at dt_X0_contrasBetween 57 rfl)
    · refine j_iload hC 4 rfl (dOk_at dt_X0_contrasBetween 8 rfl) ?_
      refine j_bipush hC (v := (16 : Int32)) rfl (dOk_at dt_X0_contrasBetween 9 rfl) ?_
      refine j_icmp_ge hC (tgt := 104) (by decide) (dOk_at dt_X0_contrasBetween 10 rfl) (fun q_2 => ?_) (fun q_2 => ?_)
      · refine j_iload_n hC 3 rfl rfl (dOk_at dt_X0_contrasBetween 56 rfl) ?_
        exact j_iret hC hret (dOk_at dt_X0_contrasBetween 57 rfl)
      · refine j_iconst hC (v := (1 : Int32)) rfl (dOk_at dt_X0_contrasBetween 11 rfl) ?_
        refine j_aload_n hC 0 rfl rfl (dOk_at dt_X0_contrasBetween 12 rfl) ?_
        refine j_getR hC flX0_37 ht (jlt hN ht (by decide)) (by decide) (by decide) (fun _ _ _ => rfl) (fun hs => hs _ _ _ (sf_0_6 ht).1) (dOk_at dt_X0_contrasBetween 13 rfl) ?_
        refine j_iload hC 4 rfl (dOk_at dt_X0_contrasBetween 14 rfl) ?_
        refine j_iald hC (sf_0_6 ht).2.1 (Nat.lt_of_lt_of_le (sf_0_6 ht).2.2 hN) (dOk_at dt_X0_contrasBetween 15 rfl) ?_
        refine j_ishl hC (dOk_at dt_X0_contrasBetween 16 rfl) ?_
        refine j_istore hC (lv' := [(5, .int ((1 : Int32) <<< ((hI h (rf tt 6) (Int32.toNatClampNeg x4)) &&& 31))), (0, .ref tt), (1, .int x1), (2, .int x2), (3, .int x3), (4, .int x4)]) (by decide) rfl (dOk_at dt_X0_contrasBetween 17 rfl) ?_
        refine j_iconst hC (v := (1 : Int32)) rfl (dOk_at dt_X0_contrasBetween 18 rfl) ?_
        refine j_aload_n hC 1 rfl rfl (dOk_at dt_X0_contrasBetween 19 rfl) ?_
        refine j_getR hC flX0_40 ht (jlt hN ht (by decide)) (by decide) (by decide) (fun _ _ _ => rfl) (fun hs => hs _ _ _ (sf_0_7 ht).1) (dOk_at dt_X0_contrasBetween 20 rfl) ?_
        refine j_iload hC 5 rfl (dOk_at dt_X0_contrasBetween 21 rfl) ?_
        refine j_iald hC (sf_0_7 ht).2.1 (Nat.lt_of_lt_of_le (sf_0_7 ht).2.2 hN) (dOk_at dt_X0_contrasBetween 22 rfl) ?_
        refine j_ishl hC (dOk_at dt_X0_contrasBetween 23 rfl) ?_
        refine j_istore hC (lv' := [(6, .int ((1 : Int32) <<< ((hI h (rf tt 7) (Int32.toNatClampNeg x4)) &&& 31))), (5, .int ((1 : Int32) <<< ((hI h (rf tt 6) (Int32.toNatClampNeg x4)) &&& 31))), (0, .ref tt), (1, .int x1), (2, .int x2), (3, .int x3), (4, .int x4)]) (by decide) rfl (dOk_at dt_X0_contrasBetween 24 rfl) ?_
        refine j_iload_n hC 3 rfl rfl (dOk_at dt_X0_contrasBetween 25 rfl) ?_
        refine j_iload hC 1 rfl (dOk_at dt_X0_contrasBetween 26 rfl) ?_
        refine j_iand hC (dOk_at dt_X0_contrasBetween 27 rfl) ?_
        refine j_if_eq hC (tgt := 61) (by decide) (dOk_at dt_X0_contrasBetween 28 rfl) (fun q_3 => ?_) (fun q_3 => ?_)
        · refine j_sub [2, 3, 4, 5, 6, 1, 0] rfl ?_
          exact b61 (fX0_contrasBetween_5 fu tt) ih h x1 x2 x3 x4 ((1 : Int32) <<< ((hI h (rf tt 6) (Int32.toNatClampNeg x4)) &&& 31)) ((1 : Int32) <<< ((hI h (rf tt 7) (Int32.toNatClampNeg x4)) &&& 31)) 
        · refine j_iload_n hC 4 rfl rfl (dOk_at dt_X0_contrasBetween 29 rfl) ?_
          refine j_iload hC 0 rfl (dOk_at dt_X0_contrasBetween 30 rfl) ?_
          refine j_iand hC (dOk_at dt_X0_contrasBetween 31 rfl) ?_
          refine j_if_eq hC (tgt := 61) (by decide) (dOk_at dt_X0_contrasBetween 32 rfl) (fun q_4 => ?_) (fun q_4 => ?_)
          · refine j_sub [2, 3, 4, 5, 6, 1, 0] rfl ?_
            exact b61 (fX0_contrasBetween_5 fu tt) ih h x1 x2 x3 x4 ((1 : Int32) <<< ((hI h (rf tt 6) (Int32.toNatClampNeg x4)) &&& 31)) ((1 : Int32) <<< ((hI h (rf tt 7) (Int32.toNatClampNeg x4)) &&& 31)) 
          · refine j_iconst hC (v := (1 : Int32)) rfl (dOk_at dt_X0_contrasBetween 33 rfl) ?_
            refine j_goto hC (tgt := 62) (by decide) (dOk_at dt_X0_contrasBetween 34 rfl) ?_
            refine j_sub [2, 3, 4, 5, 6, 1, 0] rfl ?_
            exact b62 (fX0_contrasBetween_5 fu tt) ih h x1 x2 x3 x4 ((1 : Int32) <<< ((hI h (rf tt 6) (Int32.toNatClampNeg x4)) &&& 31)) ((1 : Int32) <<< ((hI h (rf tt 7) (Int32.toNatClampNeg x4)) &&& 31)) (1 : Int32) 
  unfold fX0_contrasBetween
  refine j_iconst hC (v := (0 : Int32)) rfl (dOk_at dt_X0_contrasBetween 0 rfl) ?_
  refine j_istore_n hC rfl (lv' := [(3, .int (0 : Int32)), (0, .ref tt), (1, .int x1), (2, .int x2)]) (by decide) rfl (dOk_at dt_X0_contrasBetween 1 rfl) ?_
  refine j_iconst hC (v := (0 : Int32)) rfl (dOk_at dt_X0_contrasBetween 2 rfl) ?_
  refine j_istore hC (lv' := [(4, .int (0 : Int32)), (3, .int (0 : Int32)), (0, .ref tt), (1, .int x1), (2, .int x2)]) (by decide) rfl (dOk_at dt_X0_contrasBetween 3 rfl) ?_
  refine j_sub [2, 3, 4, 1, 0] rfl ?_
  exact b5 FU h x1 x2 (0 : Int32) (0 : Int32) 
def tb_X1_clear : List (Nat × Instr × Nat) := [(0, .aload_n 0, 1), (1, .iconst 0, 1), (2, .putfield 9, 3), (5, .aload_n 0, 1), (6, .iconst 0, 1), (7, .putfield 15, 3), (10, .return_, 1)]
theorem dt_X1_clear : dOk cX1_clear tb_X1_clear = true := by decide +kernel
def fX1_clear (tt : Nat) (h : Hp) : Option (Hp) := some (uI (uI h tt 0 (0 : Int32)) tt 1 (0 : Int32))
set_option maxRecDepth 100000 in
set_option maxHeartbeats 4000000 in
theorem c_X1_clear {l : Launch} {sb : State} {D : va_G} {ids : Nat → ClassId} {n : Nat} (hN : 152 ≤ n) {tt : Nat} (ht : shp tt = (1, 4)) (h : Hp) (r : Hp) (hr : fX1_clear tt h = some r) : jM l yX1_clear cX1_clear 1 none 0 sb D ids shp St n [.ref tt] h (jQv sb D ids shp St n r) := by
  refine jM_of hr rfl (Nat.le_of_ble_eq_true rfl) ?_
  intro p e s m args below meth c hC hret
  unfold fX1_clear
  refine j_aload_n hC 0 rfl rfl (dOk_at dt_X1_clear 0 rfl) ?_
  refine j_iconst hC (v := (0 : Int32)) rfl (dOk_at dt_X1_clear 1 rfl) ?_
  refine j_putZ hC St_SP flX1_9 ht (jlt hN ht (by decide)) (by decide) (by decide) rfl rfl rfl (dOk_at dt_X1_clear 2 rfl) ?_
  refine j_aload_n hC 0 rfl rfl (dOk_at dt_X1_clear 3 rfl) ?_
  refine j_iconst hC (v := (0 : Int32)) rfl (dOk_at dt_X1_clear 4 rfl) ?_
  refine j_putI hC St_SP flX1_15 ht (jlt hN ht (by decide)) (by decide) (by decide) rfl rfl (dOk_at dt_X1_clear 5 rfl) ?_
  exact j_vret hC hret (dOk_at dt_X1_clear 6 rfl)
def tb_X1_add : List (Nat × Instr × Nat) := [(0, .aload_n 0, 1), (1, .getfield 15, 3), (4, .bipush 64, 2), (6, .if_icmp .ge 23, 3), (9, .aload_n 0, 1), (10, .getfield 19, 3), (13, .aload_n 0, 1), (14, .getfield 15, 3), (17, .iload_n 1, 1), (18, .iastore, 1), (19, .aload_n 0, 1), (20, .dup, 1), (21, .getfield 15, 3), (24, .iconst 1, 1), (25, .iadd, 1), (26, .putfield 15, 3), (29, .return_, 1)]
theorem dt_X1_add : dOk cX1_add tb_X1_add = true := by decide +kernel
def fX1_add (tt : Nat) (h : Hp) (x1 : Int32) : Option (Hp) := if (64 : Int32) ≤ (hI h tt 1) then (some h) else (if inb (hI h tt 1) 64 then (some (uI (uI h (rf tt 2) (Int32.toNatClampNeg (hI h tt 1)) x1) tt 1 ((hI (uI h (rf tt 2) (Int32.toNatClampNeg (hI h tt 1)) x1) tt 1) + (1 : Int32)))) else none)
set_option maxRecDepth 100000 in
set_option maxHeartbeats 4000000 in
theorem c_X1_add {l : Launch} {sb : State} {D : va_G} {ids : Nat → ClassId} {n : Nat} (hN : 152 ≤ n) {tt : Nat} (ht : shp tt = (1, 4)) (h : Hp) (x1 : Int32) (r : Hp) (hr : fX1_add tt h x1 = some r) : jM l yX1_add cX1_add 2 none 0 sb D ids shp St n [.ref tt, .int x1] h (jQv sb D ids shp St n r) := by
  refine jM_of hr rfl (Nat.le_of_ble_eq_true rfl) ?_
  intro p e s m args below meth c hC hret
  unfold fX1_add
  refine j_aload_n hC 0 rfl rfl (dOk_at dt_X1_add 0 rfl) ?_
  refine j_getI hC flX1_15 ht (jlt hN ht (by decide)) (by decide) (by decide) (fun _ _ _ => rfl) (dOk_at dt_X1_add 1 rfl) ?_
  refine j_bipush hC (v := (64 : Int32)) rfl (dOk_at dt_X1_add 2 rfl) ?_
  refine j_icmp_ge hC (tgt := 29) (by decide) (dOk_at dt_X1_add 3 rfl) (fun q_1 => ?_) (fun q_1 => ?_)
  · exact j_vret hC hret (dOk_at dt_X1_add 16 rfl)
  · refine j_aload_n hC 0 rfl rfl (dOk_at dt_X1_add 4 rfl) ?_
    refine j_getR hC flX1_19 ht (jlt hN ht (by decide)) (by decide) (by decide) (fun _ _ _ => rfl) (fun hs => hs _ _ _ (sf_1_2 ht).1) (dOk_at dt_X1_add 5 rfl) ?_
    refine j_aload_n hC 0 rfl rfl (dOk_at dt_X1_add 6 rfl) ?_
    refine j_getI hC flX1_15 ht (jlt hN ht (by decide)) (by decide) (by decide) (fun _ _ _ => rfl) (dOk_at dt_X1_add 7 rfl) ?_
    refine j_iload_n hC 1 rfl rfl (dOk_at dt_X1_add 8 rfl) ?_
    refine j_iast hC St_SP (sf_1_2 ht).2.1 (Nat.lt_of_lt_of_le (sf_1_2 ht).2.2 hN) (dOk_at dt_X1_add 9 rfl) ?_
    refine j_aload_n hC 0 rfl rfl (dOk_at dt_X1_add 10 rfl) ?_
    refine j_dupr hC (dOk_at dt_X1_add 11 rfl) ?_
    refine j_getI hC flX1_15 ht (jlt hN ht (by decide)) (by decide) (by decide) (fun _ _ _ => rfl) (dOk_at dt_X1_add 12 rfl) ?_
    refine j_iconst hC (v := (1 : Int32)) rfl (dOk_at dt_X1_add 13 rfl) ?_
    refine j_iadd hC (dOk_at dt_X1_add 14 rfl) ?_
    refine j_putI hC St_SP flX1_15 ht (jlt hN ht (by decide)) (by decide) (by decide) rfl rfl (dOk_at dt_X1_add 15 rfl) ?_
    exact j_vret hC hret (dOk_at dt_X1_add 16 rfl)
def tb_X1_joined : List (Nat × Instr × Nat) := [(0, .iload_n 0, 1), (1, .tableswitch 205 0 11 #[63, 81, 205, 99, 111, 123, 135, 147, 159, 171, 175, 179], 63), (64, .lload_n 1, 1), (65, .lconst 0, 1), (66, .lcmp, 1), (67, .ifCond .ne 9, 3), (70, .lload_n 3, 1), (71, .lconst 0, 1), (72, .lcmp, 1), (73, .ifCond .eq 7, 3), (76, .lconst 1, 1), (77, .goto 4, 3), (80, .lconst 0, 1), (81, .lreturn, 1), (82, .lload_n 1, 1), (83, .lconst 0, 1), (84, .lcmp, 1), (85, .ifCond .eq 13, 3), (88, .lload_n 3, 1), (89, .lconst 0, 1), (90, .lcmp, 1), (91, .ifCond .eq 7, 3), (94, .lconst 1, 1), (95, .goto 4, 3), (98, .lconst 0, 1), (99, .lreturn, 1), (100, .lload_n 1, 1), (101, .lload_n 3, 1), (102, .lcmp, 1), (103, .ifCond .ge 7, 3), (106, .lconst 1, 1), (107, .goto 4, 3), (110, .lconst 0, 1), (111, .lreturn, 1), (112, .lload_n 1, 1), (113, .lload_n 3, 1), (114, .lcmp, 1), (115, .ifCond .gt 7, 3), (118, .lconst 1, 1), (119, .goto 4, 3), (122, .lconst 0, 1), (123, .lreturn, 1), (124, .lload_n 1, 1), (125, .lload_n 3, 1), (126, .lcmp, 1), (127, .ifCond .ne 7, 3), (130, .lconst 1, 1), (131, .goto 4, 3), (134, .lconst 0, 1), (135, .lreturn, 1), (136, .lload_n 1, 1), (137, .lload_n 3, 1), (138, .lcmp, 1), (139, .ifCond .eq 7, 3), (142, .lconst 1, 1), (143, .goto 4, 3), (146, .lconst 0, 1), (147, .lreturn, 1), (148, .lload_n 1, 1), (149, .lload_n 3, 1), (150, .lcmp, 1), (151, .ifCond .lt 7, 3), (154, .lconst 1, 1), (155, .goto 4, 3), (158, .lconst 0, 1), (159, .lreturn, 1), (160, .lload_n 1, 1), (161, .lload_n 3, 1), (162, .lcmp, 1), (163, .ifCond .le 7, 3), (166, .lconst 1, 1), (167, .goto 4, 3), (170, .lconst 0, 1), (171, .lreturn, 1), (172, .lload_n 1, 1), (173, .lload_n 3, 1), (174, .ladd, 1), (175, .lreturn, 1), (176, .lload_n 1, 1), (177, .lload_n 3, 1), (178, .lsub, 1), (179, .lreturn, 1), (180, .lload_n 1, 1), (181, .lconst 0, 1), (182, .lcmp, 1), (183, .ifCond .eq 19, 3), (186, .lload_n 1, 1), (187, .lload_n 3, 1), (188, .lmul, 1), (189, .lload_n 1, 1), (190, .ldiv, 1), (191, .lload_n 3, 1), (192, .lcmp, 1), (193, .ifCond .eq 9, 3), (196, .ldc2_w 27, 3), (199, .goto 6, 3), (202, .lload_n 1, 1), (203, .lload_n 3, 1), (204, .lmul, 1), (205, .lreturn, 1), (206, .lload_n 3, 1), (207, .lconst 0, 1), (208, .lcmp, 1), (209, .ifCond .ne 9, 3), (212, .ldc2_w 27, 3), (215, .goto 6, 3), (218, .lload_n 1, 1), (219, .lload_n 3, 1), (220, .ldiv, 1), (221, .lreturn, 1)]
theorem dt_X1_joined : dOk cX1_joined tb_X1_joined = true := by decide +kernel
def fX1_joined_206 (h : Hp) (x1 : Int64) (x3 : Int64) : Option (Int64 × Hp) := if (lg_cmp x3 (0 : Int64)) = 0 then (some ((-9223372036854775808 : Int64), h)) else (if x3 = 0 then none else some ((x1 / x3), h))
def fX1_joined_202 (h : Hp) (x1 : Int64) (x3 : Int64) : Option (Int64 × Hp) := some ((x1 * x3), h)
def fX1_joined (h : Hp) (x0 : Int32) (x1 : Int64) (x3 : Int64) : Option (Int64 × Hp) := if inT x0 0 11 then (if x0 = (0 : Int32) then (if (lg_cmp x1 (0 : Int64)) = 0 then (if (lg_cmp x3 (0 : Int64)) = 0 then (some ((0 : Int64), h)) else (some ((1 : Int64), h))) else (some ((1 : Int64), h))) else (if x0 = (1 : Int32) then (if (lg_cmp x1 (0 : Int64)) = 0 then (some ((0 : Int64), h)) else (if (lg_cmp x3 (0 : Int64)) = 0 then (some ((0 : Int64), h)) else (some ((1 : Int64), h)))) else (if x0 = (2 : Int32) then (fX1_joined_206 h x1 x3) else (if x0 = (3 : Int32) then (if 0 ≤ (lg_cmp x1 x3) then (some ((0 : Int64), h)) else (some ((1 : Int64), h))) else (if x0 = (4 : Int32) then (if 0 < (lg_cmp x1 x3) then (some ((0 : Int64), h)) else (some ((1 : Int64), h))) else (if x0 = (5 : Int32) then (if (lg_cmp x1 x3) = 0 then (some ((1 : Int64), h)) else (some ((0 : Int64), h))) else (if x0 = (6 : Int32) then (if (lg_cmp x1 x3) = 0 then (some ((0 : Int64), h)) else (some ((1 : Int64), h))) else (if x0 = (7 : Int32) then (if (lg_cmp x1 x3) < 0 then (some ((0 : Int64), h)) else (some ((1 : Int64), h))) else (if x0 = (8 : Int32) then (if (lg_cmp x1 x3) ≤ 0 then (some ((0 : Int64), h)) else (some ((1 : Int64), h))) else (if x0 = (9 : Int32) then (some ((x1 + x3), h)) else (if x0 = (10 : Int32) then (some ((x1 - x3), h)) else (if x0 = (11 : Int32) then (if (lg_cmp x1 (0 : Int64)) = 0 then (fX1_joined_202 h x1 x3) else (if x1 = 0 then none else if (lg_cmp ((x1 * x3) / x1) x3) = 0 then (fX1_joined_202 h x1 x3) else (some ((-9223372036854775808 : Int64), h)))) else none)))))))))))) else (fX1_joined_206 h x1 x3)
set_option maxRecDepth 100000 in
set_option maxHeartbeats 4000000 in
theorem c_X1_joined {l : Launch} {sb : State} {D : va_G} {ids : Nat → ClassId} {n : Nat} (hN : 152 ≤ n) (h : Hp) (x0 : Int32) (x1 : Int64) (x3 : Int64) (r : Int64 × Hp) (hr : fX1_joined h x0 x1 x3 = some r) : jM l yX1_joined cX1_joined 5 (some .long) 0 sb D ids shp St n [.int x0, .long x1, .long x3] h (jQl sb D ids shp St n r) := by
  refine jM_of hr rfl (Nat.le_of_ble_eq_true rfl) ?_
  intro p e s m args below meth c hC hret
  have b206 : ∀ (h : Hp) (x1 : Int64) (x3 : Int64) , jJ p l e (rmD 0) s m args below meth c 5 sb D ids shp St (fun r => MQ below (jQl sb D ids shp St n r) args s 0 0 (jA sb)) n 0 0 h 206 [(1, .long x1), (3, .long x3)] [] (fX1_joined_206 h x1 x3) := by
    intro h x1 x3 
    unfold fX1_joined_206
    refine j_lload_n hC 1 rfl rfl (dOk_at dt_X1_joined 100 rfl) ?_
    refine j_lconst hC (v := (0 : Int64)) rfl (dOk_at dt_X1_joined 101 rfl) ?_
    refine j_lcmp hC (dOk_at dt_X1_joined 102 rfl) ?_
    refine j_if_ne hC (tgt := 218) (by decide) (dOk_at dt_X1_joined 103 rfl) (fun q_25 => ?_) (fun q_25 => ?_)
    · refine j_lload_n hC 0 rfl rfl (dOk_at dt_X1_joined 106 rfl) ?_
      refine j_lload_n hC 1 rfl rfl (dOk_at dt_X1_joined 107 rfl) ?_
      refine j_ldiv hC (dOk_at dt_X1_joined 108 rfl) ?_
      exact j_lret hC hret (dOk_at dt_X1_joined 109 rfl)
    · refine j_ldc2 hC klX1_27 (dOk_at dt_X1_joined 104 rfl) ?_
      refine j_goto hC (tgt := 221) (by decide) (dOk_at dt_X1_joined 105 rfl) ?_
      exact j_lret hC hret (dOk_at dt_X1_joined 109 rfl)
  have b202 : ∀ (h : Hp) (x1 : Int64) (x3 : Int64) , jJ p l e (rmD 0) s m args below meth c 5 sb D ids shp St (fun r => MQ below (jQl sb D ids shp St n r) args s 0 0 (jA sb)) n 0 0 h 202 [(1, .long x1), (3, .long x3)] [] (fX1_joined_202 h x1 x3) := by
    intro h x1 x3 
    unfold fX1_joined_202
    refine j_lload_n hC 0 rfl rfl (dOk_at dt_X1_joined 96 rfl) ?_
    refine j_lload_n hC 1 rfl rfl (dOk_at dt_X1_joined 97 rfl) ?_
    refine j_lmul hC (dOk_at dt_X1_joined 98 rfl) ?_
    exact j_lret hC hret (dOk_at dt_X1_joined 99 rfl)
  unfold fX1_joined
  refine j_iload_n hC 0 rfl rfl (dOk_at dt_X1_joined 0 rfl) ?_
  refine j_ite (P := inT x0 0 11 = true) (fun _ => ?_) (fun q => ?_)
  · refine j_ite (P := x0 = (0 : Int32)) (fun q_1 => ?_) (fun _ => ?_)
    · refine j_tswIn hC (tgt := 64) q_1 (by decide) (by decide) rfl (by decide) (dOk_at dt_X1_joined 1 rfl) ?_
      refine j_lload_n hC 1 rfl rfl (dOk_at dt_X1_joined 2 rfl) ?_
      refine j_lconst hC (v := (0 : Int64)) rfl (dOk_at dt_X1_joined 3 rfl) ?_
      refine j_lcmp hC (dOk_at dt_X1_joined 4 rfl) ?_
      refine j_if_ne hC (tgt := 76) (by decide) (dOk_at dt_X1_joined 5 rfl) (fun q_2 => ?_) (fun q_2 => ?_)
      · refine j_lconst hC (v := (1 : Int64)) rfl (dOk_at dt_X1_joined 10 rfl) ?_
        refine j_goto hC (tgt := 81) (by decide) (dOk_at dt_X1_joined 11 rfl) ?_
        exact j_lret hC hret (dOk_at dt_X1_joined 13 rfl)
      · refine j_lload_n hC 2 rfl rfl (dOk_at dt_X1_joined 6 rfl) ?_
        refine j_lconst hC (v := (0 : Int64)) rfl (dOk_at dt_X1_joined 7 rfl) ?_
        refine j_lcmp hC (dOk_at dt_X1_joined 8 rfl) ?_
        refine j_if_eq hC (tgt := 80) (by decide) (dOk_at dt_X1_joined 9 rfl) (fun q_3 => ?_) (fun q_3 => ?_)
        · refine j_lconst hC (v := (0 : Int64)) rfl (dOk_at dt_X1_joined 12 rfl) ?_
          exact j_lret hC hret (dOk_at dt_X1_joined 13 rfl)
        · refine j_lconst hC (v := (1 : Int64)) rfl (dOk_at dt_X1_joined 10 rfl) ?_
          refine j_goto hC (tgt := 81) (by decide) (dOk_at dt_X1_joined 11 rfl) ?_
          exact j_lret hC hret (dOk_at dt_X1_joined 13 rfl)
    refine j_ite (P := x0 = (1 : Int32)) (fun q_4 => ?_) (fun _ => ?_)
    · refine j_tswIn hC (tgt := 82) q_4 (by decide) (by decide) rfl (by decide) (dOk_at dt_X1_joined 1 rfl) ?_
      refine j_lload_n hC 1 rfl rfl (dOk_at dt_X1_joined 14 rfl) ?_
      refine j_lconst hC (v := (0 : Int64)) rfl (dOk_at dt_X1_joined 15 rfl) ?_
      refine j_lcmp hC (dOk_at dt_X1_joined 16 rfl) ?_
      refine j_if_eq hC (tgt := 98) (by decide) (dOk_at dt_X1_joined 17 rfl) (fun q_5 => ?_) (fun q_5 => ?_)
      · refine j_lconst hC (v := (0 : Int64)) rfl (dOk_at dt_X1_joined 24 rfl) ?_
        exact j_lret hC hret (dOk_at dt_X1_joined 25 rfl)
      · refine j_lload_n hC 2 rfl rfl (dOk_at dt_X1_joined 18 rfl) ?_
        refine j_lconst hC (v := (0 : Int64)) rfl (dOk_at dt_X1_joined 19 rfl) ?_
        refine j_lcmp hC (dOk_at dt_X1_joined 20 rfl) ?_
        refine j_if_eq hC (tgt := 98) (by decide) (dOk_at dt_X1_joined 21 rfl) (fun q_6 => ?_) (fun q_6 => ?_)
        · refine j_lconst hC (v := (0 : Int64)) rfl (dOk_at dt_X1_joined 24 rfl) ?_
          exact j_lret hC hret (dOk_at dt_X1_joined 25 rfl)
        · refine j_lconst hC (v := (1 : Int64)) rfl (dOk_at dt_X1_joined 22 rfl) ?_
          refine j_goto hC (tgt := 99) (by decide) (dOk_at dt_X1_joined 23 rfl) ?_
          exact j_lret hC hret (dOk_at dt_X1_joined 25 rfl)
    refine j_ite (P := x0 = (2 : Int32)) (fun q_7 => ?_) (fun _ => ?_)
    · refine j_tswIn hC (tgt := 206) q_7 (by decide) (by decide) rfl (by decide) (dOk_at dt_X1_joined 1 rfl) ?_
      refine j_sub [1, 2] rfl ?_
      exact b206 h x1 x3 
    refine j_ite (P := x0 = (3 : Int32)) (fun q_8 => ?_) (fun _ => ?_)
    · refine j_tswIn hC (tgt := 100) q_8 (by decide) (by decide) rfl (by decide) (dOk_at dt_X1_joined 1 rfl) ?_
      refine j_lload_n hC 1 rfl rfl (dOk_at dt_X1_joined 26 rfl) ?_
      refine j_lload_n hC 2 rfl rfl (dOk_at dt_X1_joined 27 rfl) ?_
      refine j_lcmp hC (dOk_at dt_X1_joined 28 rfl) ?_
      refine j_if_ge hC (tgt := 110) (by decide) (dOk_at dt_X1_joined 29 rfl) (fun q_9 => ?_) (fun q_9 => ?_)
      · refine j_lconst hC (v := (0 : Int64)) rfl (dOk_at dt_X1_joined 32 rfl) ?_
        exact j_lret hC hret (dOk_at dt_X1_joined 33 rfl)
      · refine j_lconst hC (v := (1 : Int64)) rfl (dOk_at dt_X1_joined 30 rfl) ?_
        refine j_goto hC (tgt := 111) (by decide) (dOk_at dt_X1_joined 31 rfl) ?_
        exact j_lret hC hret (dOk_at dt_X1_joined 33 rfl)
    refine j_ite (P := x0 = (4 : Int32)) (fun q_10 => ?_) (fun _ => ?_)
    · refine j_tswIn hC (tgt := 112) q_10 (by decide) (by decide) rfl (by decide) (dOk_at dt_X1_joined 1 rfl) ?_
      refine j_lload_n hC 1 rfl rfl (dOk_at dt_X1_joined 34 rfl) ?_
      refine j_lload_n hC 2 rfl rfl (dOk_at dt_X1_joined 35 rfl) ?_
      refine j_lcmp hC (dOk_at dt_X1_joined 36 rfl) ?_
      refine j_if_gt hC (tgt := 122) (by decide) (dOk_at dt_X1_joined 37 rfl) (fun q_11 => ?_) (fun q_11 => ?_)
      · refine j_lconst hC (v := (0 : Int64)) rfl (dOk_at dt_X1_joined 40 rfl) ?_
        exact j_lret hC hret (dOk_at dt_X1_joined 41 rfl)
      · refine j_lconst hC (v := (1 : Int64)) rfl (dOk_at dt_X1_joined 38 rfl) ?_
        refine j_goto hC (tgt := 123) (by decide) (dOk_at dt_X1_joined 39 rfl) ?_
        exact j_lret hC hret (dOk_at dt_X1_joined 41 rfl)
    refine j_ite (P := x0 = (5 : Int32)) (fun q_12 => ?_) (fun _ => ?_)
    · refine j_tswIn hC (tgt := 124) q_12 (by decide) (by decide) rfl (by decide) (dOk_at dt_X1_joined 1 rfl) ?_
      refine j_lload_n hC 1 rfl rfl (dOk_at dt_X1_joined 42 rfl) ?_
      refine j_lload_n hC 2 rfl rfl (dOk_at dt_X1_joined 43 rfl) ?_
      refine j_lcmp hC (dOk_at dt_X1_joined 44 rfl) ?_
      refine j_if_ne hC (tgt := 134) (by decide) (dOk_at dt_X1_joined 45 rfl) (fun q_13 => ?_) (fun q_13 => ?_)
      · refine j_lconst hC (v := (0 : Int64)) rfl (dOk_at dt_X1_joined 48 rfl) ?_
        exact j_lret hC hret (dOk_at dt_X1_joined 49 rfl)
      · refine j_lconst hC (v := (1 : Int64)) rfl (dOk_at dt_X1_joined 46 rfl) ?_
        refine j_goto hC (tgt := 135) (by decide) (dOk_at dt_X1_joined 47 rfl) ?_
        exact j_lret hC hret (dOk_at dt_X1_joined 49 rfl)
    refine j_ite (P := x0 = (6 : Int32)) (fun q_14 => ?_) (fun _ => ?_)
    · refine j_tswIn hC (tgt := 136) q_14 (by decide) (by decide) rfl (by decide) (dOk_at dt_X1_joined 1 rfl) ?_
      refine j_lload_n hC 1 rfl rfl (dOk_at dt_X1_joined 50 rfl) ?_
      refine j_lload_n hC 2 rfl rfl (dOk_at dt_X1_joined 51 rfl) ?_
      refine j_lcmp hC (dOk_at dt_X1_joined 52 rfl) ?_
      refine j_if_eq hC (tgt := 146) (by decide) (dOk_at dt_X1_joined 53 rfl) (fun q_15 => ?_) (fun q_15 => ?_)
      · refine j_lconst hC (v := (0 : Int64)) rfl (dOk_at dt_X1_joined 56 rfl) ?_
        exact j_lret hC hret (dOk_at dt_X1_joined 57 rfl)
      · refine j_lconst hC (v := (1 : Int64)) rfl (dOk_at dt_X1_joined 54 rfl) ?_
        refine j_goto hC (tgt := 147) (by decide) (dOk_at dt_X1_joined 55 rfl) ?_
        exact j_lret hC hret (dOk_at dt_X1_joined 57 rfl)
    refine j_ite (P := x0 = (7 : Int32)) (fun q_16 => ?_) (fun _ => ?_)
    · refine j_tswIn hC (tgt := 148) q_16 (by decide) (by decide) rfl (by decide) (dOk_at dt_X1_joined 1 rfl) ?_
      refine j_lload_n hC 1 rfl rfl (dOk_at dt_X1_joined 58 rfl) ?_
      refine j_lload_n hC 2 rfl rfl (dOk_at dt_X1_joined 59 rfl) ?_
      refine j_lcmp hC (dOk_at dt_X1_joined 60 rfl) ?_
      refine j_if_lt hC (tgt := 158) (by decide) (dOk_at dt_X1_joined 61 rfl) (fun q_17 => ?_) (fun q_17 => ?_)
      · refine j_lconst hC (v := (0 : Int64)) rfl (dOk_at dt_X1_joined 64 rfl) ?_
        exact j_lret hC hret (dOk_at dt_X1_joined 65 rfl)
      · refine j_lconst hC (v := (1 : Int64)) rfl (dOk_at dt_X1_joined 62 rfl) ?_
        refine j_goto hC (tgt := 159) (by decide) (dOk_at dt_X1_joined 63 rfl) ?_
        exact j_lret hC hret (dOk_at dt_X1_joined 65 rfl)
    refine j_ite (P := x0 = (8 : Int32)) (fun q_18 => ?_) (fun _ => ?_)
    · refine j_tswIn hC (tgt := 160) q_18 (by decide) (by decide) rfl (by decide) (dOk_at dt_X1_joined 1 rfl) ?_
      refine j_lload_n hC 1 rfl rfl (dOk_at dt_X1_joined 66 rfl) ?_
      refine j_lload_n hC 2 rfl rfl (dOk_at dt_X1_joined 67 rfl) ?_
      refine j_lcmp hC (dOk_at dt_X1_joined 68 rfl) ?_
      refine j_if_le hC (tgt := 170) (by decide) (dOk_at dt_X1_joined 69 rfl) (fun q_19 => ?_) (fun q_19 => ?_)
      · refine j_lconst hC (v := (0 : Int64)) rfl (dOk_at dt_X1_joined 72 rfl) ?_
        exact j_lret hC hret (dOk_at dt_X1_joined 73 rfl)
      · refine j_lconst hC (v := (1 : Int64)) rfl (dOk_at dt_X1_joined 70 rfl) ?_
        refine j_goto hC (tgt := 171) (by decide) (dOk_at dt_X1_joined 71 rfl) ?_
        exact j_lret hC hret (dOk_at dt_X1_joined 73 rfl)
    refine j_ite (P := x0 = (9 : Int32)) (fun q_20 => ?_) (fun _ => ?_)
    · refine j_tswIn hC (tgt := 172) q_20 (by decide) (by decide) rfl (by decide) (dOk_at dt_X1_joined 1 rfl) ?_
      refine j_lload_n hC 1 rfl rfl (dOk_at dt_X1_joined 74 rfl) ?_
      refine j_lload_n hC 2 rfl rfl (dOk_at dt_X1_joined 75 rfl) ?_
      refine j_ladd hC (dOk_at dt_X1_joined 76 rfl) ?_
      exact j_lret hC hret (dOk_at dt_X1_joined 77 rfl)
    refine j_ite (P := x0 = (10 : Int32)) (fun q_21 => ?_) (fun _ => ?_)
    · refine j_tswIn hC (tgt := 176) q_21 (by decide) (by decide) rfl (by decide) (dOk_at dt_X1_joined 1 rfl) ?_
      refine j_lload_n hC 1 rfl rfl (dOk_at dt_X1_joined 78 rfl) ?_
      refine j_lload_n hC 2 rfl rfl (dOk_at dt_X1_joined 79 rfl) ?_
      refine j_lsub hC (dOk_at dt_X1_joined 80 rfl) ?_
      exact j_lret hC hret (dOk_at dt_X1_joined 81 rfl)
    refine j_ite (P := x0 = (11 : Int32)) (fun q_22 => ?_) (fun _ => ?_)
    · refine j_tswIn hC (tgt := 180) q_22 (by decide) (by decide) rfl (by decide) (dOk_at dt_X1_joined 1 rfl) ?_
      refine j_lload_n hC 1 rfl rfl (dOk_at dt_X1_joined 82 rfl) ?_
      refine j_lconst hC (v := (0 : Int64)) rfl (dOk_at dt_X1_joined 83 rfl) ?_
      refine j_lcmp hC (dOk_at dt_X1_joined 84 rfl) ?_
      refine j_if_eq hC (tgt := 202) (by decide) (dOk_at dt_X1_joined 85 rfl) (fun q_23 => ?_) (fun q_23 => ?_)
      · refine j_sub [1, 2] rfl ?_
        exact b202 h x1 x3 
      · refine j_lload_n hC 1 rfl rfl (dOk_at dt_X1_joined 86 rfl) ?_
        refine j_lload_n hC 2 rfl rfl (dOk_at dt_X1_joined 87 rfl) ?_
        refine j_lmul hC (dOk_at dt_X1_joined 88 rfl) ?_
        refine j_lload_n hC 1 rfl rfl (dOk_at dt_X1_joined 89 rfl) ?_
        refine j_ldiv hC (dOk_at dt_X1_joined 90 rfl) ?_
        refine j_lload_n hC 2 rfl rfl (dOk_at dt_X1_joined 91 rfl) ?_
        refine j_lcmp hC (dOk_at dt_X1_joined 92 rfl) ?_
        refine j_if_eq hC (tgt := 202) (by decide) (dOk_at dt_X1_joined 93 rfl) (fun q_24 => ?_) (fun q_24 => ?_)
        · refine j_sub [1, 2] rfl ?_
          exact b202 h x1 x3 
        · refine j_ldc2 hC klX1_27 (dOk_at dt_X1_joined 94 rfl) ?_
          refine j_goto hC (tgt := 205) (by decide) (dOk_at dt_X1_joined 95 rfl) ?_
          exact j_lret hC hret (dOk_at dt_X1_joined 99 rfl)
    exact j_none
  · refine j_tswOut hC (tgt := 206) q (by decide) (dOk_at dt_X1_joined 1 rfl) ?_
    refine j_sub [1, 2] rfl ?_
    exact b206 h x1 x3 
def tb_X1_value : List (Nat × Instr × Nat) := [(0, .iconst 0, 1), (1, .istore_n 2, 1), (2, .iconst 0, 1), (3, .istore_n 3, 1), (4, .iload_n 3, 1), (5, .aload_n 0, 1), (6, .getfield 15, 3), (9, .if_icmp .ge 210, 3), (12, .iload_n 3, 1), (13, .bipush 64, 2), (15, .if_icmp .ge 204, 3), (18, .aload_n 0, 1), (19, .getfield 19, 3), (22, .iload_n 3, 1), (23, .iaload, 1), (24, .istore 4, 2), (26, .iload 4, 2), (28, .sipush 20002, 3), (31, .if_icmp .ne 47, 3), (34, .iload_n 2, 1), (35, .iconst 1, 1), (36, .if_icmp .lt 9, 3), (39, .iload_n 2, 1), (40, .bipush 64, 2), (42, .if_icmp .le 7, 3), (45, .ldc2_w 27, 3), (48, .lreturn, 1), (49, .aload_n 0, 1), (50, .getfield 23, 3), (53, .iload_n 2, 1), (54, .iconst 1, 1), (55, .isub, 1), (56, .aload_n 0, 1), (57, .getfield 23, 3), (60, .iload_n 2, 1), (61, .iconst 1, 1), (62, .isub, 1), (63, .laload, 1), (64, .lconst 0, 1), (65, .lcmp, 1), (66, .ifCond .ne 7, 3), (69, .lconst 1, 1), (70, .goto 4, 3), (73, .lconst 0, 1), (74, .lastore, 1), (75, .goto 138, 3), (78, .iload 4, 2), (80, .sipush 20000, 3), (83, .if_icmp .lt 81, 3), (86, .iload_n 2, 1), (87, .iconst 2, 1), (88, .if_icmp .lt 9, 3), (91, .iload_n 2, 1), (92, .bipush 64, 2), (94, .if_icmp .le 7, 3), (97, .ldc2_w 27, 3), (100, .lreturn, 1), (101, .iinc 2 (-1), 3), (104, .iload 4, 2), (106, .sipush 20000, 3), (109, .isub, 1), (110, .aload_n 0, 1), (111, .getfield 23, 3), (114, .iload_n 2, 1), (115, .iconst 1, 1), (116, .isub, 1), (117, .laload, 1), (118, .aload_n 0, 1), (119, .getfield 23, 3), (122, .iload_n 2, 1), (123, .laload, 1), (124, .invokestatic 29, 3), (127, .lstore 5, 2), (129, .lload 5, 2), (131, .ldc2_w 33, 3), (134, .lcmp, 1), (135, .ifCond .gt 12, 3), (138, .lload 5, 2), (140, .ldc2_w 35, 3), (143, .lcmp, 1), (144, .ifCond .ge 7, 3), (147, .ldc2_w 27, 3), (150, .lreturn, 1), (151, .aload_n 0, 1), (152, .getfield 23, 3), (155, .iload_n 2, 1), (156, .iconst 1, 1), (157, .isub, 1), (158, .lload 5, 2), (160, .lastore, 1), (161, .goto 52, 3), (164, .iload 4, 2), (166, .sipush 10000, 3), (169, .isub, 1), (170, .istore 5, 2), (172, .iload_n 2, 1), (173, .bipush 64, 2), (175, .if_icmp .ge 10, 3), (178, .iload 5, 2), (180, .aload_n 1, 1), (181, .arraylength, 1), (182, .if_icmp .lt 7, 3), (185, .ldc2_w 27, 3), (188, .lreturn, 1), (189, .aload_n 0, 1), (190, .getfield 23, 3), (193, .iload_n 2, 1), (194, .iload 5, 2), (196, .ifCond .ge 9, 3), (199, .iload 4, 2), (201, .i2l, 1), (202, .goto 7, 3), (205, .aload_n 1, 1), (206, .iload 5, 2), (208, .laload, 1), (209, .lastore, 1), (210, .iinc 2 1, 3), (213, .iinc 3 1, 3), (216, .goto (-212), 3), (219, .iload_n 2, 1), (220, .iconst 1, 1), (221, .if_icmp .ne 12, 3), (224, .aload_n 0, 1), (225, .getfield 23, 3), (228, .iconst 0, 1), (229, .laload, 1), (230, .goto 6, 3), (233, .ldc2_w 27, 3), (236, .lreturn, 1)]
theorem dt_X1_value : dOk cX1_value tb_X1_value = true := by decide +kernel
def fX1_value_219 (tt : Nat) (r1 : Nat) (n1 : Nat) (h : Hp) (x2 : Int32) : Option (Int64 × Hp) := if x2 = (1 : Int32) then (if inb (0 : Int32) 64 then (some ((hJ h (rf tt 3) (Int32.toNatClampNeg (0 : Int32))), h)) else none) else (some ((-9223372036854775808 : Int64), h))
def fX1_value_213 (tt : Nat) (r1 : Nat) (n1 : Nat) (rec4 : Hp → Int32 → Int32 → Option (Int64 × Hp)) (h : Hp) (x2 : Int32) (x3 : Int32) : Option (Int64 × Hp) := rec4 h x2 (x3 + (1 : Int32))
def fX1_value_209 (tt : Nat) (r1 : Nat) (n1 : Nat) (rec4 : Hp → Int32 → Int32 → Option (Int64 × Hp)) (h : Hp) (x2 : Int32) (x3 : Int32) (s1 : Int32) (s2 : Int64) : Option (Int64 × Hp) := if inb s1 64 then (fX1_value_213 tt r1 n1 rec4 (uJ h (rf tt 3) (Int32.toNatClampNeg s1) s2) (x2 + (1 : Int32)) x3) else none
def fX1_value_74 (tt : Nat) (r1 : Nat) (n1 : Nat) (rec4 : Hp → Int32 → Int32 → Option (Int64 × Hp)) (h : Hp) (x2 : Int32) (x3 : Int32) (s1 : Int32) (s2 : Int64) : Option (Int64 × Hp) := if inb s1 64 then (fX1_value_213 tt r1 n1 rec4 (uJ h (rf tt 3) (Int32.toNatClampNeg s1) s2) x2 x3) else none
def fX1_value_4 : Nat → (Nat) → (Nat) → (Nat) → Hp → Int32 → Int32 → Option (Int64 × Hp)
  | 0, _, _, _, _, _, _ => none
  | fu + 1, tt, r1, n1, h, x2, x3 => if (hI h tt 1) ≤ x3 then (fX1_value_219 tt r1 n1 h x2) else (if (64 : Int32) ≤ x3 then (fX1_value_219 tt r1 n1 h x2) else (if inb x3 64 then (if (hI h (rf tt 2) (Int32.toNatClampNeg x3)) = (20002 : Int32) then (if x2 < (1 : Int32) then (some ((-9223372036854775808 : Int64), h)) else (if x2 ≤ (64 : Int32) then (if inb (x2 - (1 : Int32)) 64 then (if (lg_cmp (hJ h (rf tt 3) (Int32.toNatClampNeg (x2 - (1 : Int32)))) (0 : Int64)) = 0 then (fX1_value_74 tt r1 n1 (fX1_value_4 fu tt r1 n1) h x2 x3 (x2 - (1 : Int32)) (1 : Int64)) else (fX1_value_74 tt r1 n1 (fX1_value_4 fu tt r1 n1) h x2 x3 (x2 - (1 : Int32)) (0 : Int64))) else none) else (some ((-9223372036854775808 : Int64), h)))) else (if (hI h (rf tt 2) (Int32.toNatClampNeg x3)) < (20000 : Int32) then (if (64 : Int32) ≤ x2 then (some ((-9223372036854775808 : Int64), h)) else (if ((hI h (rf tt 2) (Int32.toNatClampNeg x3)) - (10000 : Int32)) < (Int32.ofNat n1) then (if 0 ≤ ((hI h (rf tt 2) (Int32.toNatClampNeg x3)) - (10000 : Int32)) then (if inb ((hI h (rf tt 2) (Int32.toNatClampNeg x3)) - (10000 : Int32)) n1 then (fX1_value_209 tt r1 n1 (fX1_value_4 fu tt r1 n1) h x2 x3 x2 (hJ h r1 (Int32.toNatClampNeg ((hI h (rf tt 2) (Int32.toNatClampNeg x3)) - (10000 : Int32))))) else none) else (fX1_value_209 tt r1 n1 (fX1_value_4 fu tt r1 n1) h x2 x3 x2 (Int32.toInt64 (hI h (rf tt 2) (Int32.toNatClampNeg x3))))) else (some ((-9223372036854775808 : Int64), h)))) else (if x2 < (2 : Int32) then (some ((-9223372036854775808 : Int64), h)) else (if x2 ≤ (64 : Int32) then (if inb ((x2 + (-1 : Int32)) - (1 : Int32)) 64 then (if inb (x2 + (-1 : Int32)) 64 then (bnd (fX1_joined h ((hI h (rf tt 2) (Int32.toNatClampNeg x3)) - (20000 : Int32)) (hJ h (rf tt 3) (Int32.toNatClampNeg ((x2 + (-1 : Int32)) - (1 : Int32)))) (hJ h (rf tt 3) (Int32.toNatClampNeg (x2 + (-1 : Int32))))) (fun v_10 h_11 => if 0 < (lg_cmp v_10 (1000000000000 : Int64)) then (some ((-9223372036854775808 : Int64), h_11)) else (if 0 ≤ (lg_cmp v_10 (-1000000000000 : Int64)) then (if inb ((x2 + (-1 : Int32)) - (1 : Int32)) 64 then (fX1_value_213 tt r1 n1 (fX1_value_4 fu tt r1 n1) (uJ h_11 (rf tt 3) (Int32.toNatClampNeg ((x2 + (-1 : Int32)) - (1 : Int32))) v_10) (x2 + (-1 : Int32)) x3) else none) else (some ((-9223372036854775808 : Int64), h_11))))) else none) else none) else (some ((-9223372036854775808 : Int64), h)))))) else none))
def fX1_value (tt : Nat) (r1 : Nat) (n1 : Nat) (h : Hp) : Option (Int64 × Hp) := fX1_value_4 FU tt r1 n1 h (0 : Int32) (0 : Int32)
set_option maxRecDepth 100000 in
set_option maxHeartbeats 4000000 in
theorem c_X1_value {l : Launch} {sb : State} {D : va_G} {ids : Nat → ClassId} {n : Nat} (hN : 152 ≤ n) {tt : Nat} {r1 : Nat} {n1 : Nat} (ht : shp tt = (1, 4)) (h1 : shp r1 = (22, n1)) (h : Hp) (r : Int64 × Hp) (hr : fX1_value tt r1 n1 h = some r) : jM l yX1_value cX1_value 7 (some .long) 1 sb D ids shp St n [.ref tt, .ref r1] h (jQl sb D ids shp St n r) := by
  refine jM_of hr rfl (Nat.le_of_ble_eq_true rfl) ?_
  intro p e s m args below meth c hC hret
  have b219 : ∀ (h : Hp) (x2 : Int32) , jJ p l e (rmD 1) s m args below meth c 7 sb D ids shp St (fun r => MQ below (jQl sb D ids shp St n r) args s 0 0 (jA sb)) n 0 0 h 219 [(0, .ref tt), (2, .int x2)] [] (fX1_value_219 tt r1 n1 h x2) := by
    intro h x2 
    unfold fX1_value_219
    refine j_iload_n hC 1 rfl rfl (dOk_at dt_X1_value 119 rfl) ?_
    refine j_iconst hC (v := (1 : Int32)) rfl (dOk_at dt_X1_value 120 rfl) ?_
    refine j_icmp_ne hC (tgt := 233) (by decide) (dOk_at dt_X1_value 121 rfl) (fun q_17 => ?_) (fun q_17 => ?_)
    · refine j_ldc2 hC klX1_27 (dOk_at dt_X1_value 127 rfl) ?_
      exact j_lret hC hret (dOk_at dt_X1_value 128 rfl)
    · refine j_aload_n hC 0 rfl rfl (dOk_at dt_X1_value 122 rfl) ?_
      refine j_getR hC flX1_23 ht (jlt hN ht (by decide)) (by decide) (by decide) (fun _ _ _ => rfl) (fun hs => hs _ _ _ (sf_1_3 ht).1) (dOk_at dt_X1_value 123 rfl) ?_
      refine j_iconst hC (v := (0 : Int32)) rfl (dOk_at dt_X1_value 124 rfl) ?_
      refine j_lald hC (sf_1_3 ht).2.1 (Nat.lt_of_lt_of_le (sf_1_3 ht).2.2 hN) (dOk_at dt_X1_value 125 rfl) ?_
      refine j_goto hC (tgt := 236) (by decide) (dOk_at dt_X1_value 126 rfl) ?_
      exact j_lret hC hret (dOk_at dt_X1_value 128 rfl)
  have b213 : ∀ (rec4 : Hp → Int32 → Int32 → Option (Int64 × Hp)) (hrec4 : ∀ (h : Hp) (x2 : Int32) (x3 : Int32) , jJ p l e (rmD 1) s m args below meth c 7 sb D ids shp St (fun r => MQ below (jQl sb D ids shp St n r) args s 0 0 (jA sb)) n 0 0 h 4 [(0, .ref tt), (1, .ref r1), (2, .int x2), (3, .int x3)] [] (rec4 h x2 x3)) (h : Hp) (x2 : Int32) (x3 : Int32) , jJ p l e (rmD 1) s m args below meth c 7 sb D ids shp St (fun r => MQ below (jQl sb D ids shp St n r) args s 0 0 (jA sb)) n 0 0 h 213 [(0, .ref tt), (1, .ref r1), (2, .int x2), (3, .int x3)] [] (fX1_value_213 tt r1 n1 rec4 h x2 x3) := by
    intro rec4 hrec4 h x2 x3 
    unfold fX1_value_213
    refine j_iinc hC (v := (x3 + (1 : Int32))) (lv' := [(3, .int (x3 + (1 : Int32))), (0, .ref tt), (1, .ref r1), (2, .int x2)]) 3 rfl (congrArg (fun z => x3 + z) (show Int32.ofInt (1) = (1 : Int32) from by decide)) (by decide) rfl (dOk_at dt_X1_value 117 rfl) ?_
    refine j_goto hC (tgt := 4) (by decide) (dOk_at dt_X1_value 118 rfl) ?_
    refine j_sub [1, 2, 3, 0] rfl ?_
    exact hrec4 h x2 (x3 + (1 : Int32)) 
  have b209 : ∀ (rec4 : Hp → Int32 → Int32 → Option (Int64 × Hp)) (hrec4 : ∀ (h : Hp) (x2 : Int32) (x3 : Int32) , jJ p l e (rmD 1) s m args below meth c 7 sb D ids shp St (fun r => MQ below (jQl sb D ids shp St n r) args s 0 0 (jA sb)) n 0 0 h 4 [(0, .ref tt), (1, .ref r1), (2, .int x2), (3, .int x3)] [] (rec4 h x2 x3)) (h : Hp) (x2 : Int32) (x3 : Int32) (s1 : Int32) (s2 : Int64) , jJ p l e (rmD 1) s m args below meth c 7 sb D ids shp St (fun r => MQ below (jQl sb D ids shp St n r) args s 0 0 (jA sb)) n 0 0 h 209 [(0, .ref tt), (1, .ref r1), (2, .int x2), (3, .int x3)] [.long s2, .int s1, .ref (rf tt 3)] (fX1_value_209 tt r1 n1 rec4 h x2 x3 s1 s2) := by
    intro rec4 hrec4 h x2 x3 s1 s2 
    unfold fX1_value_209
    refine j_last hC St_SP (sf_1_3 ht).2.1 (Nat.lt_of_lt_of_le (sf_1_3 ht).2.2 hN) (dOk_at dt_X1_value 115 rfl) ?_
    refine j_iinc hC (v := (x2 + (1 : Int32))) (lv' := [(2, .int (x2 + (1 : Int32))), (0, .ref tt), (1, .ref r1), (3, .int x3)]) 2 rfl (congrArg (fun z => x2 + z) (show Int32.ofInt (1) = (1 : Int32) from by decide)) (by decide) rfl (dOk_at dt_X1_value 116 rfl) ?_
    refine j_sub [1, 2, 0, 3] rfl ?_
    exact b213 rec4 hrec4 (uJ h (rf tt 3) (Int32.toNatClampNeg s1) s2) (x2 + (1 : Int32)) x3 
  have b74 : ∀ (rec4 : Hp → Int32 → Int32 → Option (Int64 × Hp)) (hrec4 : ∀ (h : Hp) (x2 : Int32) (x3 : Int32) , jJ p l e (rmD 1) s m args below meth c 7 sb D ids shp St (fun r => MQ below (jQl sb D ids shp St n r) args s 0 0 (jA sb)) n 0 0 h 4 [(0, .ref tt), (1, .ref r1), (2, .int x2), (3, .int x3)] [] (rec4 h x2 x3)) (h : Hp) (x2 : Int32) (x3 : Int32) (s1 : Int32) (s2 : Int64) , jJ p l e (rmD 1) s m args below meth c 7 sb D ids shp St (fun r => MQ below (jQl sb D ids shp St n r) args s 0 0 (jA sb)) n 0 0 h 74 [(0, .ref tt), (1, .ref r1), (2, .int x2), (3, .int x3)] [.long s2, .int s1, .ref (rf tt 3)] (fX1_value_74 tt r1 n1 rec4 h x2 x3 s1 s2) := by
    intro rec4 hrec4 h x2 x3 s1 s2 
    unfold fX1_value_74
    refine j_last hC St_SP (sf_1_3 ht).2.1 (Nat.lt_of_lt_of_le (sf_1_3 ht).2.2 hN) (dOk_at dt_X1_value 44 rfl) ?_
    refine j_goto hC (tgt := 213) (by decide) (dOk_at dt_X1_value 45 rfl) ?_
    exact b213 rec4 hrec4 (uJ h (rf tt 3) (Int32.toNatClampNeg s1) s2) x2 x3 
  have b4 : ∀ (fu : Nat) (h : Hp) (x2 : Int32) (x3 : Int32) , jJ p l e (rmD 1) s m args below meth c 7 sb D ids shp St (fun r => MQ below (jQl sb D ids shp St n r) args s 0 0 (jA sb)) n 0 0 h 4 [(0, .ref tt), (1, .ref r1), (2, .int x2), (3, .int x3)] [] (fX1_value_4 fu tt r1 n1 h x2 x3) := by
    intro fu 
    induction fu with
    | zero => intro h x2 x3 ; exact j_none
    | succ fu ih =>
    intro h x2 x3 
    rw [fX1_value_4]
    refine j_iload_n hC 3 rfl rfl (dOk_at dt_X1_value 4 rfl) ?_
    refine j_aload_n hC 0 rfl rfl (dOk_at dt_X1_value 5 rfl) ?_
    refine j_getI hC flX1_15 ht (jlt hN ht (by decide)) (by decide) (by decide) (fun _ _ _ => rfl) (dOk_at dt_X1_value 6 rfl) ?_
    refine j_icmp_ge hC (tgt := 219) (by decide) (dOk_at dt_X1_value 7 rfl) (fun q_1 => ?_) (fun q_1 => ?_)
    · refine j_sub [0, 2] rfl ?_
      exact b219 h x2 
    · refine j_iload_n hC 3 rfl rfl (dOk_at dt_X1_value 8 rfl) ?_
      refine j_bipush hC (v := (64 : Int32)) rfl (dOk_at dt_X1_value 9 rfl) ?_
      refine j_icmp_ge hC (tgt := 219) (by decide) (dOk_at dt_X1_value 10 rfl) (fun q_2 => ?_) (fun q_2 => ?_)
      · refine j_sub [0, 2] rfl ?_
        exact b219 h x2 
      · refine j_aload_n hC 0 rfl rfl (dOk_at dt_X1_value 11 rfl) ?_
        refine j_getR hC flX1_19 ht (jlt hN ht (by decide)) (by decide) (by decide) (fun _ _ _ => rfl) (fun hs => hs _ _ _ (sf_1_2 ht).1) (dOk_at dt_X1_value 12 rfl) ?_
        refine j_iload_n hC 3 rfl rfl (dOk_at dt_X1_value 13 rfl) ?_
        refine j_iald hC (sf_1_2 ht).2.1 (Nat.lt_of_lt_of_le (sf_1_2 ht).2.2 hN) (dOk_at dt_X1_value 14 rfl) ?_
        refine j_istore hC (lv' := [(4, .int (hI h (rf tt 2) (Int32.toNatClampNeg x3))), (0, .ref tt), (1, .ref r1), (2, .int x2), (3, .int x3)]) (by decide) rfl (dOk_at dt_X1_value 15 rfl) ?_
        refine j_iload hC 0 rfl (dOk_at dt_X1_value 16 rfl) ?_
        refine j_sipush hC (v := (20002 : Int32)) rfl (dOk_at dt_X1_value 17 rfl) ?_
        refine j_icmp_ne hC (tgt := 78) (by decide) (dOk_at dt_X1_value 18 rfl) (fun q_3 => ?_) (fun q_3 => ?_)
        · refine j_iload hC 0 rfl (dOk_at dt_X1_value 46 rfl) ?_
          refine j_sipush hC (v := (20000 : Int32)) rfl (dOk_at dt_X1_value 47 rfl) ?_
          refine j_icmp_lt hC (tgt := 164) (by decide) (dOk_at dt_X1_value 48 rfl) (fun q_4 => ?_) (fun q_4 => ?_)
          · refine j_iload hC 0 rfl (dOk_at dt_X1_value 91 rfl) ?_
            refine j_sipush hC (v := (10000 : Int32)) rfl (dOk_at dt_X1_value 92 rfl) ?_
            refine j_isub hC (dOk_at dt_X1_value 93 rfl) ?_
            refine j_istore hC (lv' := [(5, .int ((hI h (rf tt 2) (Int32.toNatClampNeg x3)) - (10000 : Int32))), (4, .int (hI h (rf tt 2) (Int32.toNatClampNeg x3))), (0, .ref tt), (1, .ref r1), (2, .int x2), (3, .int x3)]) (by decide) rfl (dOk_at dt_X1_value 94 rfl) ?_
            refine j_iload_n hC 4 rfl rfl (dOk_at dt_X1_value 95 rfl) ?_
            refine j_bipush hC (v := (64 : Int32)) rfl (dOk_at dt_X1_value 96 rfl) ?_
            refine j_icmp_ge hC (tgt := 185) (by decide) (dOk_at dt_X1_value 97 rfl) (fun q_5 => ?_) (fun q_5 => ?_)
            · refine j_ldc2 hC klX1_27 (dOk_at dt_X1_value 102 rfl) ?_
              exact j_lret hC hret (dOk_at dt_X1_value 103 rfl)
            · refine j_iload hC 0 rfl (dOk_at dt_X1_value 98 rfl) ?_
              refine j_aload_n hC 3 rfl rfl (dOk_at dt_X1_value 99 rfl) ?_
              refine j_alenJ hC (v := Int32.ofNat n1) h1 (jlt hN h1 (by decide)) rfl (dOk_at dt_X1_value 100 rfl) ?_
              refine j_icmp_lt hC (tgt := 189) (by decide) (dOk_at dt_X1_value 101 rfl) (fun q_6 => ?_) (fun q_6 => ?_)
              · refine j_aload_n hC 2 rfl rfl (dOk_at dt_X1_value 104 rfl) ?_
                refine j_getR hC flX1_23 ht (jlt hN ht (by decide)) (by decide) (by decide) (fun _ _ _ => rfl) (fun hs => hs _ _ _ (sf_1_3 ht).1) (dOk_at dt_X1_value 105 rfl) ?_
                refine j_iload_n hC 4 rfl rfl (dOk_at dt_X1_value 106 rfl) ?_
                refine j_iload hC 0 rfl (dOk_at dt_X1_value 107 rfl) ?_
                refine j_if_ge hC (tgt := 205) (by decide) (dOk_at dt_X1_value 108 rfl) (fun q_7 => ?_) (fun q_7 => ?_)
                · refine j_aload_n hC 3 rfl rfl (dOk_at dt_X1_value 112 rfl) ?_
                  refine j_iload hC 0 rfl (dOk_at dt_X1_value 113 rfl) ?_
                  refine j_lald hC h1 (jlt hN h1 (by decide)) (dOk_at dt_X1_value 114 rfl) ?_
                  refine j_sub [2, 3, 4, 5] rfl ?_
                  exact b209 (fX1_value_4 fu tt r1 n1) ih h x2 x3 x2 (hJ h r1 (Int32.toNatClampNeg ((hI h (rf tt 2) (Int32.toNatClampNeg x3)) - (10000 : Int32)))) 
                · refine j_iload hC 1 rfl (dOk_at dt_X1_value 109 rfl) ?_
                  refine j_i2l hC (dOk_at dt_X1_value 110 rfl) ?_
                  refine j_goto hC (tgt := 209) (by decide) (dOk_at dt_X1_value 111 rfl) ?_
                  refine j_sub [2, 3, 4, 5] rfl ?_
                  exact b209 (fX1_value_4 fu tt r1 n1) ih h x2 x3 x2 (Int32.toInt64 (hI h (rf tt 2) (Int32.toNatClampNeg x3))) 
              · refine j_ldc2 hC klX1_27 (dOk_at dt_X1_value 102 rfl) ?_
                exact j_lret hC hret (dOk_at dt_X1_value 103 rfl)
          · refine j_iload_n hC 3 rfl rfl (dOk_at dt_X1_value 49 rfl) ?_
            refine j_iconst hC (v := (2 : Int32)) rfl (dOk_at dt_X1_value 50 rfl) ?_
            refine j_icmp_lt hC (tgt := 97) (by decide) (dOk_at dt_X1_value 51 rfl) (fun q_8 => ?_) (fun q_8 => ?_)
            · refine j_ldc2 hC klX1_27 (dOk_at dt_X1_value 55 rfl) ?_
              exact j_lret hC hret (dOk_at dt_X1_value 56 rfl)
            · refine j_iload_n hC 3 rfl rfl (dOk_at dt_X1_value 52 rfl) ?_
              refine j_bipush hC (v := (64 : Int32)) rfl (dOk_at dt_X1_value 53 rfl) ?_
              refine j_icmp_le hC (tgt := 101) (by decide) (dOk_at dt_X1_value 54 rfl) (fun q_9 => ?_) (fun q_9 => ?_)
              · refine j_iinc hC (v := (x2 + (-1 : Int32))) (lv' := [(2, .int (x2 + (-1 : Int32))), (4, .int (hI h (rf tt 2) (Int32.toNatClampNeg x3))), (0, .ref tt), (1, .ref r1), (3, .int x3)]) 3 rfl (congrArg (fun z => x2 + z) (show Int32.ofInt (-1) = (-1 : Int32) from by decide)) (by decide) rfl (dOk_at dt_X1_value 57 rfl) ?_
                refine j_iload hC 1 rfl (dOk_at dt_X1_value 58 rfl) ?_
                refine j_sipush hC (v := (20000 : Int32)) rfl (dOk_at dt_X1_value 59 rfl) ?_
                refine j_isub hC (dOk_at dt_X1_value 60 rfl) ?_
                refine j_aload_n hC 2 rfl rfl (dOk_at dt_X1_value 61 rfl) ?_
                refine j_getR hC flX1_23 ht (jlt hN ht (by decide)) (by decide) (by decide) (fun _ _ _ => rfl) (fun hs => hs _ _ _ (sf_1_3 ht).1) (dOk_at dt_X1_value 62 rfl) ?_
                refine j_iload_n hC 0 rfl rfl (dOk_at dt_X1_value 63 rfl) ?_
                refine j_iconst hC (v := (1 : Int32)) rfl (dOk_at dt_X1_value 64 rfl) ?_
                refine j_isub hC (dOk_at dt_X1_value 65 rfl) ?_
                refine j_lald hC (sf_1_3 ht).2.1 (Nat.lt_of_lt_of_le (sf_1_3 ht).2.2 hN) (dOk_at dt_X1_value 66 rfl) ?_
                refine j_aload_n hC 2 rfl rfl (dOk_at dt_X1_value 67 rfl) ?_
                refine j_getR hC flX1_23 ht (jlt hN ht (by decide)) (by decide) (by decide) (fun _ _ _ => rfl) (fun hs => hs _ _ _ (sf_1_3 ht).1) (dOk_at dt_X1_value 68 rfl) ?_
                refine j_iload_n hC 0 rfl rfl (dOk_at dt_X1_value 69 rfl) ?_
                refine j_lald hC (sf_1_3 ht).2.1 (Nat.lt_of_lt_of_le (sf_1_3 ht).2.2 hN) (dOk_at dt_X1_value 70 rfl) ?_
                refine j_callSl hC clX1_29 (fun rz hrz => c_X1_joined hN _ _ _ _ rz hrz) rfl ⟨Nat.le_of_ble_eq_true rfl, Nat.le_of_ble_eq_true rfl⟩ ⟨Nat.le_refl 0, Nat.le_refl 0⟩ (As := [.int ((hI h (rf tt 2) (Int32.toNatClampNeg x3)) - (20000 : Int32)), .long (hJ h (rf tt 3) (Int32.toNatClampNeg ((x2 + (-1 : Int32)) - (1 : Int32)))), .long (hJ h (rf tt 3) (Int32.toNatClampNeg (x2 + (-1 : Int32))))]) (st := []) rfl (Nat.le_of_ble_eq_true rfl) (dOk_at dt_X1_value 71 rfl) (fun v_10 h_11 _ => ?_)
                refine j_lstore hC (lv' := [(5, .long v_10), (2, .int (x2 + (-1 : Int32))), (4, .int (hI h (rf tt 2) (Int32.toNatClampNeg x3))), (0, .ref tt), (1, .ref r1), (3, .int x3)]) (by decide) rfl (dOk_at dt_X1_value 72 rfl) ?_
                refine j_lload hC 0 rfl (dOk_at dt_X1_value 73 rfl) ?_
                refine j_ldc2 hC klX1_33 (dOk_at dt_X1_value 74 rfl) ?_
                refine j_lcmp hC (dOk_at dt_X1_value 75 rfl) ?_
                refine j_if_gt hC (tgt := 147) (by decide) (dOk_at dt_X1_value 76 rfl) (fun q_12 => ?_) (fun q_12 => ?_)
                · refine j_ldc2 hC klX1_27 (dOk_at dt_X1_value 81 rfl) ?_
                  exact j_lret hC hret (dOk_at dt_X1_value 82 rfl)
                · refine j_lload hC 0 rfl (dOk_at dt_X1_value 77 rfl) ?_
                  refine j_ldc2 hC klX1_35 (dOk_at dt_X1_value 78 rfl) ?_
                  refine j_lcmp hC (dOk_at dt_X1_value 79 rfl) ?_
                  refine j_if_ge hC (tgt := 151) (by decide) (dOk_at dt_X1_value 80 rfl) (fun q_13 => ?_) (fun q_13 => ?_)
                  · refine j_aload_n hC 3 rfl rfl (dOk_at dt_X1_value 83 rfl) ?_
                    refine j_getR hC flX1_23 ht (jlt hN ht (by decide)) (by decide) (by decide) (fun _ _ _ => rfl) (fun hs => hs _ _ _ (sf_1_3 ht).1) (dOk_at dt_X1_value 84 rfl) ?_
                    refine j_iload_n hC 1 rfl rfl (dOk_at dt_X1_value 85 rfl) ?_
                    refine j_iconst hC (v := (1 : Int32)) rfl (dOk_at dt_X1_value 86 rfl) ?_
                    refine j_isub hC (dOk_at dt_X1_value 87 rfl) ?_
                    refine j_lload hC 0 rfl (dOk_at dt_X1_value 88 rfl) ?_
                    refine j_last hC St_SP (sf_1_3 ht).2.1 (Nat.lt_of_lt_of_le (sf_1_3 ht).2.2 hN) (dOk_at dt_X1_value 89 rfl) ?_
                    refine j_goto hC (tgt := 213) (by decide) (dOk_at dt_X1_value 90 rfl) ?_
                    refine j_sub [3, 4, 1, 5] rfl ?_
                    exact b213 (fX1_value_4 fu tt r1 n1) ih (uJ h_11 (rf tt 3) (Int32.toNatClampNeg ((x2 + (-1 : Int32)) - (1 : Int32))) v_10) (x2 + (-1 : Int32)) x3 
                  · refine j_ldc2 hC klX1_27 (dOk_at dt_X1_value 81 rfl) ?_
                    exact j_lret hC hret (dOk_at dt_X1_value 82 rfl)
              · refine j_ldc2 hC klX1_27 (dOk_at dt_X1_value 55 rfl) ?_
                exact j_lret hC hret (dOk_at dt_X1_value 56 rfl)
        · refine j_iload_n hC 3 rfl rfl (dOk_at dt_X1_value 19 rfl) ?_
          refine j_iconst hC (v := (1 : Int32)) rfl (dOk_at dt_X1_value 20 rfl) ?_
          refine j_icmp_lt hC (tgt := 45) (by decide) (dOk_at dt_X1_value 21 rfl) (fun q_14 => ?_) (fun q_14 => ?_)
          · refine j_ldc2 hC klX1_27 (dOk_at dt_X1_value 25 rfl) ?_
            exact j_lret hC hret (dOk_at dt_X1_value 26 rfl)
          · refine j_iload_n hC 3 rfl rfl (dOk_at dt_X1_value 22 rfl) ?_
            refine j_bipush hC (v := (64 : Int32)) rfl (dOk_at dt_X1_value 23 rfl) ?_
            refine j_icmp_le hC (tgt := 49) (by decide) (dOk_at dt_X1_value 24 rfl) (fun q_15 => ?_) (fun q_15 => ?_)
            · refine j_aload_n hC 1 rfl rfl (dOk_at dt_X1_value 27 rfl) ?_
              refine j_getR hC flX1_23 ht (jlt hN ht (by decide)) (by decide) (by decide) (fun _ _ _ => rfl) (fun hs => hs _ _ _ (sf_1_3 ht).1) (dOk_at dt_X1_value 28 rfl) ?_
              refine j_iload_n hC 3 rfl rfl (dOk_at dt_X1_value 29 rfl) ?_
              refine j_iconst hC (v := (1 : Int32)) rfl (dOk_at dt_X1_value 30 rfl) ?_
              refine j_isub hC (dOk_at dt_X1_value 31 rfl) ?_
              refine j_aload_n hC 1 rfl rfl (dOk_at dt_X1_value 32 rfl) ?_
              refine j_getR hC flX1_23 ht (jlt hN ht (by decide)) (by decide) (by decide) (fun _ _ _ => rfl) (fun hs => hs _ _ _ (sf_1_3 ht).1) (dOk_at dt_X1_value 33 rfl) ?_
              refine j_iload_n hC 3 rfl rfl (dOk_at dt_X1_value 34 rfl) ?_
              refine j_iconst hC (v := (1 : Int32)) rfl (dOk_at dt_X1_value 35 rfl) ?_
              refine j_isub hC (dOk_at dt_X1_value 36 rfl) ?_
              refine j_lald hC (sf_1_3 ht).2.1 (Nat.lt_of_lt_of_le (sf_1_3 ht).2.2 hN) (dOk_at dt_X1_value 37 rfl) ?_
              refine j_lconst hC (v := (0 : Int64)) rfl (dOk_at dt_X1_value 38 rfl) ?_
              refine j_lcmp hC (dOk_at dt_X1_value 39 rfl) ?_
              refine j_if_ne hC (tgt := 73) (by decide) (dOk_at dt_X1_value 40 rfl) (fun q_16 => ?_) (fun q_16 => ?_)
              · refine j_lconst hC (v := (0 : Int64)) rfl (dOk_at dt_X1_value 43 rfl) ?_
                refine j_sub [1, 2, 3, 4] rfl ?_
                exact b74 (fX1_value_4 fu tt r1 n1) ih h x2 x3 (x2 - (1 : Int32)) (0 : Int64) 
              · refine j_lconst hC (v := (1 : Int64)) rfl (dOk_at dt_X1_value 41 rfl) ?_
                refine j_goto hC (tgt := 74) (by decide) (dOk_at dt_X1_value 42 rfl) ?_
                refine j_sub [1, 2, 3, 4] rfl ?_
                exact b74 (fX1_value_4 fu tt r1 n1) ih h x2 x3 (x2 - (1 : Int32)) (1 : Int64) 
            · refine j_ldc2 hC klX1_27 (dOk_at dt_X1_value 25 rfl) ?_
              exact j_lret hC hret (dOk_at dt_X1_value 26 rfl)
  unfold fX1_value
  refine j_iconst hC (v := (0 : Int32)) rfl (dOk_at dt_X1_value 0 rfl) ?_
  refine j_istore_n hC rfl (lv' := [(2, .int (0 : Int32)), (0, .ref tt), (1, .ref r1)]) (by decide) rfl (dOk_at dt_X1_value 1 rfl) ?_
  refine j_iconst hC (v := (0 : Int32)) rfl (dOk_at dt_X1_value 2 rfl) ?_
  refine j_istore_n hC rfl (lv' := [(3, .int (0 : Int32)), (2, .int (0 : Int32)), (0, .ref tt), (1, .ref r1)]) (by decide) rfl (dOk_at dt_X1_value 3 rfl) ?_
  refine j_sub [2, 3, 1, 0] rfl ?_
  exact b4 FU h (0 : Int32) (0 : Int32) 
def tb_X2_clear : List (Nat × Instr × Nat) := [(0, .aload_n 0, 1), (1, .iconst 0, 1), (2, .putfield 9, 3), (5, .aload_n 0, 1), (6, .iconst (-1), 1), (7, .putfield 15, 3), (10, .return_, 1)]
theorem dt_X2_clear : dOk cX2_clear tb_X2_clear = true := by decide +kernel
def fX2_clear (h : Hp) : Option (Hp) := some (uI (uI h 97 0 (0 : Int32)) 97 1 (-1 : Int32))
set_option maxRecDepth 100000 in
set_option maxHeartbeats 4000000 in
theorem c_X2_clear {l : Launch} {sb : State} {D : va_G} {ids : Nat → ClassId} {n : Nat} (hN : 152 ≤ n) (h : Hp) (r : Hp) (hr : fX2_clear h = some r) : jM l yX2_clear cX2_clear 1 none 0 sb D ids shp St n [.ref 97] h (jQv sb D ids shp St n r) := by
  refine jM_of hr rfl (Nat.le_of_ble_eq_true rfl) ?_
  intro p e s m args below meth c hC hret
  unfold fX2_clear
  refine j_aload_n hC 0 rfl rfl (dOk_at dt_X2_clear 0 rfl) ?_
  refine j_iconst hC (v := (0 : Int32)) rfl (dOk_at dt_X2_clear 1 rfl) ?_
  refine j_putI hC St_SP flX2_9 (show shp 97 = (2, 7) from rfl) (Nat.lt_of_lt_of_le (Nat.le_of_ble_eq_true rfl : 97 < 152) hN) (by decide) (by decide) rfl rfl (dOk_at dt_X2_clear 2 rfl) ?_
  refine j_aload_n hC 0 rfl rfl (dOk_at dt_X2_clear 3 rfl) ?_
  refine j_iconst hC (v := (-1 : Int32)) rfl (dOk_at dt_X2_clear 4 rfl) ?_
  refine j_putI hC St_SP flX2_15 (show shp 97 = (2, 7) from rfl) (Nat.lt_of_lt_of_le (Nat.le_of_ble_eq_true rfl : 97 < 152) hN) (by decide) (by decide) rfl rfl (dOk_at dt_X2_clear 5 rfl) ?_
  exact j_vret hC hret (dOk_at dt_X2_clear 6 rfl)
def tb_X2_addSeen : List (Nat × Instr × Nat) := [(0, .aload_n 0, 1), (1, .getfield 9, 3), (4, .ifCond .lt 12, 3), (7, .aload_n 0, 1), (8, .getfield 9, 3), (11, .bipush 24, 2), (13, .if_icmp .lt 5, 3), (16, .iconst (-1), 1), (17, .ireturn, 1), (18, .aload_n 0, 1), (19, .getfield 18, 3), (22, .aload_n 0, 1), (23, .getfield 9, 3), (26, .iload_n 1, 1), (27, .iastore, 1), (28, .aload_n 0, 1), (29, .getfield 22, 3), (32, .aload_n 0, 1), (33, .getfield 9, 3), (36, .iload_n 2, 1), (37, .iastore, 1), (38, .aload_n 0, 1), (39, .getfield 25, 3), (42, .aload_n 0, 1), (43, .getfield 9, 3), (46, .iload_n 3, 1), (47, .iastore, 1), (48, .aload_n 0, 1), (49, .getfield 28, 3), (52, .aload_n 0, 1), (53, .getfield 9, 3), (56, .iload 4, 2), (58, .bastore, 1), (59, .aload_n 0, 1), (60, .getfield 32, 3), (63, .aload_n 0, 1), (64, .getfield 9, 3), (67, .iconst (-1), 1), (68, .iastore, 1), (69, .aload_n 0, 1), (70, .dup, 1), (71, .getfield 9, 3), (74, .iconst 1, 1), (75, .iadd, 1), (76, .putfield 9, 3), (79, .aload_n 0, 1), (80, .getfield 9, 3), (83, .iconst 1, 1), (84, .isub, 1), (85, .ireturn, 1)]
theorem dt_X2_addSeen : dOk cX2_addSeen tb_X2_addSeen = true := by decide +kernel
def fX2_addSeen (h : Hp) (x1 : Int32) (x2 : Int32) (x3 : Int32) (x4 : Int32) : Option (Int32 × Hp) := if (hI h 97 0) < 0 then (some ((-1 : Int32), h)) else (if (hI h 97 0) < (24 : Int32) then (if inb (hI h 97 0) 24 then (if inb (hI (uI h 98 (Int32.toNatClampNeg (hI h 97 0)) x1) 97 0) 24 then (if inb (hI (uI (uI h 98 (Int32.toNatClampNeg (hI h 97 0)) x1) 99 (Int32.toNatClampNeg (hI (uI h 98 (Int32.toNatClampNeg (hI h 97 0)) x1) 97 0)) x2) 97 0) 24 then (if isZ x4 then (if inb (hI (uI (uI (uI h 98 (Int32.toNatClampNeg (hI h 97 0)) x1) 99 (Int32.toNatClampNeg (hI (uI h 98 (Int32.toNatClampNeg (hI h 97 0)) x1) 97 0)) x2) 100 (Int32.toNatClampNeg (hI (uI (uI h 98 (Int32.toNatClampNeg (hI h 97 0)) x1) 99 (Int32.toNatClampNeg (hI (uI h 98 (Int32.toNatClampNeg (hI h 97 0)) x1) 97 0)) x2) 97 0)) x3) 97 0) 24 then (if inb (hI (uI (uI (uI (uI h 98 (Int32.toNatClampNeg (hI h 97 0)) x1) 99 (Int32.toNatClampNeg (hI (uI h 98 (Int32.toNatClampNeg (hI h 97 0)) x1) 97 0)) x2) 100 (Int32.toNatClampNeg (hI (uI (uI h 98 (Int32.toNatClampNeg (hI h 97 0)) x1) 99 (Int32.toNatClampNeg (hI (uI h 98 (Int32.toNatClampNeg (hI h 97 0)) x1) 97 0)) x2) 97 0)) x3) 101 (Int32.toNatClampNeg (hI (uI (uI (uI h 98 (Int32.toNatClampNeg (hI h 97 0)) x1) 99 (Int32.toNatClampNeg (hI (uI h 98 (Int32.toNatClampNeg (hI h 97 0)) x1) 97 0)) x2) 100 (Int32.toNatClampNeg (hI (uI (uI h 98 (Int32.toNatClampNeg (hI h 97 0)) x1) 99 (Int32.toNatClampNeg (hI (uI h 98 (Int32.toNatClampNeg (hI h 97 0)) x1) 97 0)) x2) 97 0)) x3) 97 0)) x4) 97 0) 24 then (some (((hI (uI (uI (uI (uI (uI (uI h 98 (Int32.toNatClampNeg (hI h 97 0)) x1) 99 (Int32.toNatClampNeg (hI (uI h 98 (Int32.toNatClampNeg (hI h 97 0)) x1) 97 0)) x2) 100 (Int32.toNatClampNeg (hI (uI (uI h 98 (Int32.toNatClampNeg (hI h 97 0)) x1) 99 (Int32.toNatClampNeg (hI (uI h 98 (Int32.toNatClampNeg (hI h 97 0)) x1) 97 0)) x2) 97 0)) x3) 101 (Int32.toNatClampNeg (hI (uI (uI (uI h 98 (Int32.toNatClampNeg (hI h 97 0)) x1) 99 (Int32.toNatClampNeg (hI (uI h 98 (Int32.toNatClampNeg (hI h 97 0)) x1) 97 0)) x2) 100 (Int32.toNatClampNeg (hI (uI (uI h 98 (Int32.toNatClampNeg (hI h 97 0)) x1) 99 (Int32.toNatClampNeg (hI (uI h 98 (Int32.toNatClampNeg (hI h 97 0)) x1) 97 0)) x2) 97 0)) x3) 97 0)) x4) 102 (Int32.toNatClampNeg (hI (uI (uI (uI (uI h 98 (Int32.toNatClampNeg (hI h 97 0)) x1) 99 (Int32.toNatClampNeg (hI (uI h 98 (Int32.toNatClampNeg (hI h 97 0)) x1) 97 0)) x2) 100 (Int32.toNatClampNeg (hI (uI (uI h 98 (Int32.toNatClampNeg (hI h 97 0)) x1) 99 (Int32.toNatClampNeg (hI (uI h 98 (Int32.toNatClampNeg (hI h 97 0)) x1) 97 0)) x2) 97 0)) x3) 101 (Int32.toNatClampNeg (hI (uI (uI (uI h 98 (Int32.toNatClampNeg (hI h 97 0)) x1) 99 (Int32.toNatClampNeg (hI (uI h 98 (Int32.toNatClampNeg (hI h 97 0)) x1) 97 0)) x2) 100 (Int32.toNatClampNeg (hI (uI (uI h 98 (Int32.toNatClampNeg (hI h 97 0)) x1) 99 (Int32.toNatClampNeg (hI (uI h 98 (Int32.toNatClampNeg (hI h 97 0)) x1) 97 0)) x2) 97 0)) x3) 97 0)) x4) 97 0)) (-1 : Int32)) 97 0 ((hI (uI (uI (uI (uI (uI h 98 (Int32.toNatClampNeg (hI h 97 0)) x1) 99 (Int32.toNatClampNeg (hI (uI h 98 (Int32.toNatClampNeg (hI h 97 0)) x1) 97 0)) x2) 100 (Int32.toNatClampNeg (hI (uI (uI h 98 (Int32.toNatClampNeg (hI h 97 0)) x1) 99 (Int32.toNatClampNeg (hI (uI h 98 (Int32.toNatClampNeg (hI h 97 0)) x1) 97 0)) x2) 97 0)) x3) 101 (Int32.toNatClampNeg (hI (uI (uI (uI h 98 (Int32.toNatClampNeg (hI h 97 0)) x1) 99 (Int32.toNatClampNeg (hI (uI h 98 (Int32.toNatClampNeg (hI h 97 0)) x1) 97 0)) x2) 100 (Int32.toNatClampNeg (hI (uI (uI h 98 (Int32.toNatClampNeg (hI h 97 0)) x1) 99 (Int32.toNatClampNeg (hI (uI h 98 (Int32.toNatClampNeg (hI h 97 0)) x1) 97 0)) x2) 97 0)) x3) 97 0)) x4) 102 (Int32.toNatClampNeg (hI (uI (uI (uI (uI h 98 (Int32.toNatClampNeg (hI h 97 0)) x1) 99 (Int32.toNatClampNeg (hI (uI h 98 (Int32.toNatClampNeg (hI h 97 0)) x1) 97 0)) x2) 100 (Int32.toNatClampNeg (hI (uI (uI h 98 (Int32.toNatClampNeg (hI h 97 0)) x1) 99 (Int32.toNatClampNeg (hI (uI h 98 (Int32.toNatClampNeg (hI h 97 0)) x1) 97 0)) x2) 97 0)) x3) 101 (Int32.toNatClampNeg (hI (uI (uI (uI h 98 (Int32.toNatClampNeg (hI h 97 0)) x1) 99 (Int32.toNatClampNeg (hI (uI h 98 (Int32.toNatClampNeg (hI h 97 0)) x1) 97 0)) x2) 100 (Int32.toNatClampNeg (hI (uI (uI h 98 (Int32.toNatClampNeg (hI h 97 0)) x1) 99 (Int32.toNatClampNeg (hI (uI h 98 (Int32.toNatClampNeg (hI h 97 0)) x1) 97 0)) x2) 97 0)) x3) 97 0)) x4) 97 0)) (-1 : Int32)) 97 0) + (1 : Int32))) 97 0) - (1 : Int32)), (uI (uI (uI (uI (uI (uI h 98 (Int32.toNatClampNeg (hI h 97 0)) x1) 99 (Int32.toNatClampNeg (hI (uI h 98 (Int32.toNatClampNeg (hI h 97 0)) x1) 97 0)) x2) 100 (Int32.toNatClampNeg (hI (uI (uI h 98 (Int32.toNatClampNeg (hI h 97 0)) x1) 99 (Int32.toNatClampNeg (hI (uI h 98 (Int32.toNatClampNeg (hI h 97 0)) x1) 97 0)) x2) 97 0)) x3) 101 (Int32.toNatClampNeg (hI (uI (uI (uI h 98 (Int32.toNatClampNeg (hI h 97 0)) x1) 99 (Int32.toNatClampNeg (hI (uI h 98 (Int32.toNatClampNeg (hI h 97 0)) x1) 97 0)) x2) 100 (Int32.toNatClampNeg (hI (uI (uI h 98 (Int32.toNatClampNeg (hI h 97 0)) x1) 99 (Int32.toNatClampNeg (hI (uI h 98 (Int32.toNatClampNeg (hI h 97 0)) x1) 97 0)) x2) 97 0)) x3) 97 0)) x4) 102 (Int32.toNatClampNeg (hI (uI (uI (uI (uI h 98 (Int32.toNatClampNeg (hI h 97 0)) x1) 99 (Int32.toNatClampNeg (hI (uI h 98 (Int32.toNatClampNeg (hI h 97 0)) x1) 97 0)) x2) 100 (Int32.toNatClampNeg (hI (uI (uI h 98 (Int32.toNatClampNeg (hI h 97 0)) x1) 99 (Int32.toNatClampNeg (hI (uI h 98 (Int32.toNatClampNeg (hI h 97 0)) x1) 97 0)) x2) 97 0)) x3) 101 (Int32.toNatClampNeg (hI (uI (uI (uI h 98 (Int32.toNatClampNeg (hI h 97 0)) x1) 99 (Int32.toNatClampNeg (hI (uI h 98 (Int32.toNatClampNeg (hI h 97 0)) x1) 97 0)) x2) 100 (Int32.toNatClampNeg (hI (uI (uI h 98 (Int32.toNatClampNeg (hI h 97 0)) x1) 99 (Int32.toNatClampNeg (hI (uI h 98 (Int32.toNatClampNeg (hI h 97 0)) x1) 97 0)) x2) 97 0)) x3) 97 0)) x4) 97 0)) (-1 : Int32)) 97 0 ((hI (uI (uI (uI (uI (uI h 98 (Int32.toNatClampNeg (hI h 97 0)) x1) 99 (Int32.toNatClampNeg (hI (uI h 98 (Int32.toNatClampNeg (hI h 97 0)) x1) 97 0)) x2) 100 (Int32.toNatClampNeg (hI (uI (uI h 98 (Int32.toNatClampNeg (hI h 97 0)) x1) 99 (Int32.toNatClampNeg (hI (uI h 98 (Int32.toNatClampNeg (hI h 97 0)) x1) 97 0)) x2) 97 0)) x3) 101 (Int32.toNatClampNeg (hI (uI (uI (uI h 98 (Int32.toNatClampNeg (hI h 97 0)) x1) 99 (Int32.toNatClampNeg (hI (uI h 98 (Int32.toNatClampNeg (hI h 97 0)) x1) 97 0)) x2) 100 (Int32.toNatClampNeg (hI (uI (uI h 98 (Int32.toNatClampNeg (hI h 97 0)) x1) 99 (Int32.toNatClampNeg (hI (uI h 98 (Int32.toNatClampNeg (hI h 97 0)) x1) 97 0)) x2) 97 0)) x3) 97 0)) x4) 102 (Int32.toNatClampNeg (hI (uI (uI (uI (uI h 98 (Int32.toNatClampNeg (hI h 97 0)) x1) 99 (Int32.toNatClampNeg (hI (uI h 98 (Int32.toNatClampNeg (hI h 97 0)) x1) 97 0)) x2) 100 (Int32.toNatClampNeg (hI (uI (uI h 98 (Int32.toNatClampNeg (hI h 97 0)) x1) 99 (Int32.toNatClampNeg (hI (uI h 98 (Int32.toNatClampNeg (hI h 97 0)) x1) 97 0)) x2) 97 0)) x3) 101 (Int32.toNatClampNeg (hI (uI (uI (uI h 98 (Int32.toNatClampNeg (hI h 97 0)) x1) 99 (Int32.toNatClampNeg (hI (uI h 98 (Int32.toNatClampNeg (hI h 97 0)) x1) 97 0)) x2) 100 (Int32.toNatClampNeg (hI (uI (uI h 98 (Int32.toNatClampNeg (hI h 97 0)) x1) 99 (Int32.toNatClampNeg (hI (uI h 98 (Int32.toNatClampNeg (hI h 97 0)) x1) 97 0)) x2) 97 0)) x3) 97 0)) x4) 97 0)) (-1 : Int32)) 97 0) + (1 : Int32))))) else none) else none) else none) else none) else none) else none) else (some ((-1 : Int32), h)))
set_option maxRecDepth 100000 in
set_option maxHeartbeats 4000000 in
theorem c_X2_addSeen {l : Launch} {sb : State} {D : va_G} {ids : Nat → ClassId} {n : Nat} (hN : 152 ≤ n) (h : Hp) (x1 : Int32) (x2 : Int32) (x3 : Int32) (x4 : Int32) (r : Int32 × Hp) (hr : fX2_addSeen h x1 x2 x3 x4 = some r) : jM l yX2_addSeen cX2_addSeen 5 (some .int) 0 sb D ids shp St n [.ref 97, .int x1, .int x2, .int x3, .int x4] h (jQi sb D ids shp St n r) := by
  refine jM_of hr rfl (Nat.le_of_ble_eq_true rfl) ?_
  intro p e s m args below meth c hC hret
  unfold fX2_addSeen
  refine j_aload_n hC 0 rfl rfl (dOk_at dt_X2_addSeen 0 rfl) ?_
  refine j_getI hC flX2_9 (show shp 97 = (2, 7) from rfl) (Nat.lt_of_lt_of_le (Nat.le_of_ble_eq_true rfl : 97 < 152) hN) (by decide) (by decide) (fun _ _ _ => rfl) (dOk_at dt_X2_addSeen 1 rfl) ?_
  refine j_if_lt hC (tgt := 16) (by decide) (dOk_at dt_X2_addSeen 2 rfl) (fun q_1 => ?_) (fun q_1 => ?_)
  · refine j_iconst hC (v := (-1 : Int32)) rfl (dOk_at dt_X2_addSeen 7 rfl) ?_
    exact j_iret hC hret (dOk_at dt_X2_addSeen 8 rfl)
  · refine j_aload_n hC 0 rfl rfl (dOk_at dt_X2_addSeen 3 rfl) ?_
    refine j_getI hC flX2_9 (show shp 97 = (2, 7) from rfl) (Nat.lt_of_lt_of_le (Nat.le_of_ble_eq_true rfl : 97 < 152) hN) (by decide) (by decide) (fun _ _ _ => rfl) (dOk_at dt_X2_addSeen 4 rfl) ?_
    refine j_bipush hC (v := (24 : Int32)) rfl (dOk_at dt_X2_addSeen 5 rfl) ?_
    refine j_icmp_lt hC (tgt := 18) (by decide) (dOk_at dt_X2_addSeen 6 rfl) (fun q_2 => ?_) (fun q_2 => ?_)
    · refine j_aload_n hC 0 rfl rfl (dOk_at dt_X2_addSeen 9 rfl) ?_
      refine j_getR hC flX2_18 (show shp 97 = (2, 7) from rfl) (Nat.lt_of_lt_of_le (Nat.le_of_ble_eq_true rfl : 97 < 152) hN) (by decide) (by decide) (fun _ _ _ => rfl) (fun hs => hs 97 2 98 rfl) (dOk_at dt_X2_addSeen 10 rfl) ?_
      refine j_aload_n hC 0 rfl rfl (dOk_at dt_X2_addSeen 11 rfl) ?_
      refine j_getI hC flX2_9 (show shp 97 = (2, 7) from rfl) (Nat.lt_of_lt_of_le (Nat.le_of_ble_eq_true rfl : 97 < 152) hN) (by decide) (by decide) (fun _ _ _ => rfl) (dOk_at dt_X2_addSeen 12 rfl) ?_
      refine j_iload_n hC 1 rfl rfl (dOk_at dt_X2_addSeen 13 rfl) ?_
      refine j_iast hC St_SP (show shp 98 = (21, 24) from rfl) (Nat.lt_of_lt_of_le (Nat.le_of_ble_eq_true rfl : 98 < 152) hN) (dOk_at dt_X2_addSeen 14 rfl) ?_
      refine j_aload_n hC 0 rfl rfl (dOk_at dt_X2_addSeen 15 rfl) ?_
      refine j_getR hC flX2_22 (show shp 97 = (2, 7) from rfl) (Nat.lt_of_lt_of_le (Nat.le_of_ble_eq_true rfl : 97 < 152) hN) (by decide) (by decide) (fun _ _ _ => rfl) (fun hs => hs 97 3 99 rfl) (dOk_at dt_X2_addSeen 16 rfl) ?_
      refine j_aload_n hC 0 rfl rfl (dOk_at dt_X2_addSeen 17 rfl) ?_
      refine j_getI hC flX2_9 (show shp 97 = (2, 7) from rfl) (Nat.lt_of_lt_of_le (Nat.le_of_ble_eq_true rfl : 97 < 152) hN) (by decide) (by decide) (fun _ _ _ => rfl) (dOk_at dt_X2_addSeen 18 rfl) ?_
      refine j_iload_n hC 2 rfl rfl (dOk_at dt_X2_addSeen 19 rfl) ?_
      refine j_iast hC St_SP (show shp 99 = (21, 24) from rfl) (Nat.lt_of_lt_of_le (Nat.le_of_ble_eq_true rfl : 99 < 152) hN) (dOk_at dt_X2_addSeen 20 rfl) ?_
      refine j_aload_n hC 0 rfl rfl (dOk_at dt_X2_addSeen 21 rfl) ?_
      refine j_getR hC flX2_25 (show shp 97 = (2, 7) from rfl) (Nat.lt_of_lt_of_le (Nat.le_of_ble_eq_true rfl : 97 < 152) hN) (by decide) (by decide) (fun _ _ _ => rfl) (fun hs => hs 97 4 100 rfl) (dOk_at dt_X2_addSeen 22 rfl) ?_
      refine j_aload_n hC 0 rfl rfl (dOk_at dt_X2_addSeen 23 rfl) ?_
      refine j_getI hC flX2_9 (show shp 97 = (2, 7) from rfl) (Nat.lt_of_lt_of_le (Nat.le_of_ble_eq_true rfl : 97 < 152) hN) (by decide) (by decide) (fun _ _ _ => rfl) (dOk_at dt_X2_addSeen 24 rfl) ?_
      refine j_iload_n hC 3 rfl rfl (dOk_at dt_X2_addSeen 25 rfl) ?_
      refine j_iast hC St_SP (show shp 100 = (21, 24) from rfl) (Nat.lt_of_lt_of_le (Nat.le_of_ble_eq_true rfl : 100 < 152) hN) (dOk_at dt_X2_addSeen 26 rfl) ?_
      refine j_aload_n hC 0 rfl rfl (dOk_at dt_X2_addSeen 27 rfl) ?_
      refine j_getR hC flX2_28 (show shp 97 = (2, 7) from rfl) (Nat.lt_of_lt_of_le (Nat.le_of_ble_eq_true rfl : 97 < 152) hN) (by decide) (by decide) (fun _ _ _ => rfl) (fun hs => hs 97 5 101 rfl) (dOk_at dt_X2_addSeen 28 rfl) ?_
      refine j_aload_n hC 0 rfl rfl (dOk_at dt_X2_addSeen 29 rfl) ?_
      refine j_getI hC flX2_9 (show shp 97 = (2, 7) from rfl) (Nat.lt_of_lt_of_le (Nat.le_of_ble_eq_true rfl : 97 < 152) hN) (by decide) (by decide) (fun _ _ _ => rfl) (dOk_at dt_X2_addSeen 30 rfl) ?_
      refine j_iload hC 4 rfl (dOk_at dt_X2_addSeen 31 rfl) ?_
      refine j_ite (P := isZ x4 = true) (fun hz_3 => ?_) (fun _ => j_none)
      refine j_zast hC St_SP (show shp 101 = (23, 24) from rfl) (Nat.lt_of_lt_of_le (Nat.le_of_ble_eq_true rfl : 101 < 152) hN) hz_3 (dOk_at dt_X2_addSeen 32 rfl) ?_
      refine j_aload_n hC 0 rfl rfl (dOk_at dt_X2_addSeen 33 rfl) ?_
      refine j_getR hC flX2_32 (show shp 97 = (2, 7) from rfl) (Nat.lt_of_lt_of_le (Nat.le_of_ble_eq_true rfl : 97 < 152) hN) (by decide) (by decide) (fun _ _ _ => rfl) (fun hs => hs 97 6 102 rfl) (dOk_at dt_X2_addSeen 34 rfl) ?_
      refine j_aload_n hC 0 rfl rfl (dOk_at dt_X2_addSeen 35 rfl) ?_
      refine j_getI hC flX2_9 (show shp 97 = (2, 7) from rfl) (Nat.lt_of_lt_of_le (Nat.le_of_ble_eq_true rfl : 97 < 152) hN) (by decide) (by decide) (fun _ _ _ => rfl) (dOk_at dt_X2_addSeen 36 rfl) ?_
      refine j_iconst hC (v := (-1 : Int32)) rfl (dOk_at dt_X2_addSeen 37 rfl) ?_
      refine j_iast hC St_SP (show shp 102 = (21, 24) from rfl) (Nat.lt_of_lt_of_le (Nat.le_of_ble_eq_true rfl : 102 < 152) hN) (dOk_at dt_X2_addSeen 38 rfl) ?_
      refine j_aload_n hC 0 rfl rfl (dOk_at dt_X2_addSeen 39 rfl) ?_
      refine j_dupr hC (dOk_at dt_X2_addSeen 40 rfl) ?_
      refine j_getI hC flX2_9 (show shp 97 = (2, 7) from rfl) (Nat.lt_of_lt_of_le (Nat.le_of_ble_eq_true rfl : 97 < 152) hN) (by decide) (by decide) (fun _ _ _ => rfl) (dOk_at dt_X2_addSeen 41 rfl) ?_
      refine j_iconst hC (v := (1 : Int32)) rfl (dOk_at dt_X2_addSeen 42 rfl) ?_
      refine j_iadd hC (dOk_at dt_X2_addSeen 43 rfl) ?_
      refine j_putI hC St_SP flX2_9 (show shp 97 = (2, 7) from rfl) (Nat.lt_of_lt_of_le (Nat.le_of_ble_eq_true rfl : 97 < 152) hN) (by decide) (by decide) rfl rfl (dOk_at dt_X2_addSeen 44 rfl) ?_
      refine j_aload_n hC 0 rfl rfl (dOk_at dt_X2_addSeen 45 rfl) ?_
      refine j_getI hC flX2_9 (show shp 97 = (2, 7) from rfl) (Nat.lt_of_lt_of_le (Nat.le_of_ble_eq_true rfl : 97 < 152) hN) (by decide) (by decide) (fun _ _ _ => rfl) (dOk_at dt_X2_addSeen 46 rfl) ?_
      refine j_iconst hC (v := (1 : Int32)) rfl (dOk_at dt_X2_addSeen 47 rfl) ?_
      refine j_isub hC (dOk_at dt_X2_addSeen 48 rfl) ?_
      exact j_iret hC hret (dOk_at dt_X2_addSeen 49 rfl)
    · refine j_iconst hC (v := (-1 : Int32)) rfl (dOk_at dt_X2_addSeen 7 rfl) ?_
      exact j_iret hC hret (dOk_at dt_X2_addSeen 8 rfl)
def tb_X2_addStrike : List (Nat × Instr × Nat) := [(0, .aload_n 0, 1), (1, .getfield 9, 3), (4, .ifCond .lt 24, 3), (7, .aload_n 0, 1), (8, .getfield 9, 3), (11, .bipush 24, 2), (13, .if_icmp .ge 15, 3), (16, .iload_n 1, 1), (17, .ifCond .lt 11, 3), (20, .iload_n 1, 1), (21, .aload_n 0, 1), (22, .getfield 9, 3), (25, .if_icmp .lt 5, 3), (28, .iconst (-1), 1), (29, .ireturn, 1), (30, .aload_n 0, 1), (31, .getfield 32, 3), (34, .aload_n 0, 1), (35, .getfield 9, 3), (38, .iload_n 1, 1), (39, .iastore, 1), (40, .aload_n 0, 1), (41, .dup, 1), (42, .getfield 9, 3), (45, .iconst 1, 1), (46, .iadd, 1), (47, .putfield 9, 3), (50, .aload_n 0, 1), (51, .getfield 9, 3), (54, .iconst 1, 1), (55, .isub, 1), (56, .ireturn, 1)]
theorem dt_X2_addStrike : dOk cX2_addStrike tb_X2_addStrike = true := by decide +kernel
def fX2_addStrike (h : Hp) (x1 : Int32) : Option (Int32 × Hp) := if (hI h 97 0) < 0 then (some ((-1 : Int32), h)) else (if (24 : Int32) ≤ (hI h 97 0) then (some ((-1 : Int32), h)) else (if x1 < 0 then (some ((-1 : Int32), h)) else (if x1 < (hI h 97 0) then (if inb (hI h 97 0) 24 then (some (((hI (uI (uI h 102 (Int32.toNatClampNeg (hI h 97 0)) x1) 97 0 ((hI (uI h 102 (Int32.toNatClampNeg (hI h 97 0)) x1) 97 0) + (1 : Int32))) 97 0) - (1 : Int32)), (uI (uI h 102 (Int32.toNatClampNeg (hI h 97 0)) x1) 97 0 ((hI (uI h 102 (Int32.toNatClampNeg (hI h 97 0)) x1) 97 0) + (1 : Int32))))) else none) else (some ((-1 : Int32), h)))))
set_option maxRecDepth 100000 in
set_option maxHeartbeats 4000000 in
theorem c_X2_addStrike {l : Launch} {sb : State} {D : va_G} {ids : Nat → ClassId} {n : Nat} (hN : 152 ≤ n) (h : Hp) (x1 : Int32) (r : Int32 × Hp) (hr : fX2_addStrike h x1 = some r) : jM l yX2_addStrike cX2_addStrike 2 (some .int) 0 sb D ids shp St n [.ref 97, .int x1] h (jQi sb D ids shp St n r) := by
  refine jM_of hr rfl (Nat.le_of_ble_eq_true rfl) ?_
  intro p e s m args below meth c hC hret
  unfold fX2_addStrike
  refine j_aload_n hC 0 rfl rfl (dOk_at dt_X2_addStrike 0 rfl) ?_
  refine j_getI hC flX2_9 (show shp 97 = (2, 7) from rfl) (Nat.lt_of_lt_of_le (Nat.le_of_ble_eq_true rfl : 97 < 152) hN) (by decide) (by decide) (fun _ _ _ => rfl) (dOk_at dt_X2_addStrike 1 rfl) ?_
  refine j_if_lt hC (tgt := 28) (by decide) (dOk_at dt_X2_addStrike 2 rfl) (fun q_1 => ?_) (fun q_1 => ?_)
  · refine j_iconst hC (v := (-1 : Int32)) rfl (dOk_at dt_X2_addStrike 13 rfl) ?_
    exact j_iret hC hret (dOk_at dt_X2_addStrike 14 rfl)
  · refine j_aload_n hC 0 rfl rfl (dOk_at dt_X2_addStrike 3 rfl) ?_
    refine j_getI hC flX2_9 (show shp 97 = (2, 7) from rfl) (Nat.lt_of_lt_of_le (Nat.le_of_ble_eq_true rfl : 97 < 152) hN) (by decide) (by decide) (fun _ _ _ => rfl) (dOk_at dt_X2_addStrike 4 rfl) ?_
    refine j_bipush hC (v := (24 : Int32)) rfl (dOk_at dt_X2_addStrike 5 rfl) ?_
    refine j_icmp_ge hC (tgt := 28) (by decide) (dOk_at dt_X2_addStrike 6 rfl) (fun q_2 => ?_) (fun q_2 => ?_)
    · refine j_iconst hC (v := (-1 : Int32)) rfl (dOk_at dt_X2_addStrike 13 rfl) ?_
      exact j_iret hC hret (dOk_at dt_X2_addStrike 14 rfl)
    · refine j_iload_n hC 1 rfl rfl (dOk_at dt_X2_addStrike 7 rfl) ?_
      refine j_if_lt hC (tgt := 28) (by decide) (dOk_at dt_X2_addStrike 8 rfl) (fun q_3 => ?_) (fun q_3 => ?_)
      · refine j_iconst hC (v := (-1 : Int32)) rfl (dOk_at dt_X2_addStrike 13 rfl) ?_
        exact j_iret hC hret (dOk_at dt_X2_addStrike 14 rfl)
      · refine j_iload_n hC 1 rfl rfl (dOk_at dt_X2_addStrike 9 rfl) ?_
        refine j_aload_n hC 0 rfl rfl (dOk_at dt_X2_addStrike 10 rfl) ?_
        refine j_getI hC flX2_9 (show shp 97 = (2, 7) from rfl) (Nat.lt_of_lt_of_le (Nat.le_of_ble_eq_true rfl : 97 < 152) hN) (by decide) (by decide) (fun _ _ _ => rfl) (dOk_at dt_X2_addStrike 11 rfl) ?_
        refine j_icmp_lt hC (tgt := 30) (by decide) (dOk_at dt_X2_addStrike 12 rfl) (fun q_4 => ?_) (fun q_4 => ?_)
        · refine j_aload_n hC 0 rfl rfl (dOk_at dt_X2_addStrike 15 rfl) ?_
          refine j_getR hC flX2_32 (show shp 97 = (2, 7) from rfl) (Nat.lt_of_lt_of_le (Nat.le_of_ble_eq_true rfl : 97 < 152) hN) (by decide) (by decide) (fun _ _ _ => rfl) (fun hs => hs 97 6 102 rfl) (dOk_at dt_X2_addStrike 16 rfl) ?_
          refine j_aload_n hC 0 rfl rfl (dOk_at dt_X2_addStrike 17 rfl) ?_
          refine j_getI hC flX2_9 (show shp 97 = (2, 7) from rfl) (Nat.lt_of_lt_of_le (Nat.le_of_ble_eq_true rfl : 97 < 152) hN) (by decide) (by decide) (fun _ _ _ => rfl) (dOk_at dt_X2_addStrike 18 rfl) ?_
          refine j_iload_n hC 1 rfl rfl (dOk_at dt_X2_addStrike 19 rfl) ?_
          refine j_iast hC St_SP (show shp 102 = (21, 24) from rfl) (Nat.lt_of_lt_of_le (Nat.le_of_ble_eq_true rfl : 102 < 152) hN) (dOk_at dt_X2_addStrike 20 rfl) ?_
          refine j_aload_n hC 0 rfl rfl (dOk_at dt_X2_addStrike 21 rfl) ?_
          refine j_dupr hC (dOk_at dt_X2_addStrike 22 rfl) ?_
          refine j_getI hC flX2_9 (show shp 97 = (2, 7) from rfl) (Nat.lt_of_lt_of_le (Nat.le_of_ble_eq_true rfl : 97 < 152) hN) (by decide) (by decide) (fun _ _ _ => rfl) (dOk_at dt_X2_addStrike 23 rfl) ?_
          refine j_iconst hC (v := (1 : Int32)) rfl (dOk_at dt_X2_addStrike 24 rfl) ?_
          refine j_iadd hC (dOk_at dt_X2_addStrike 25 rfl) ?_
          refine j_putI hC St_SP flX2_9 (show shp 97 = (2, 7) from rfl) (Nat.lt_of_lt_of_le (Nat.le_of_ble_eq_true rfl : 97 < 152) hN) (by decide) (by decide) rfl rfl (dOk_at dt_X2_addStrike 26 rfl) ?_
          refine j_aload_n hC 0 rfl rfl (dOk_at dt_X2_addStrike 27 rfl) ?_
          refine j_getI hC flX2_9 (show shp 97 = (2, 7) from rfl) (Nat.lt_of_lt_of_le (Nat.le_of_ble_eq_true rfl : 97 < 152) hN) (by decide) (by decide) (fun _ _ _ => rfl) (dOk_at dt_X2_addStrike 28 rfl) ?_
          refine j_iconst hC (v := (1 : Int32)) rfl (dOk_at dt_X2_addStrike 29 rfl) ?_
          refine j_isub hC (dOk_at dt_X2_addStrike 30 rfl) ?_
          exact j_iret hC hret (dOk_at dt_X2_addStrike 31 rfl)
        · refine j_iconst hC (v := (-1 : Int32)) rfl (dOk_at dt_X2_addStrike 13 rfl) ?_
          exact j_iret hC hret (dOk_at dt_X2_addStrike 14 rfl)
def tb_X2_knownLimit : List (Nat × Instr × Nat) := [(0, .aload_n 0, 1), (1, .getfield 15, 3), (4, .iconst (-1), 1), (5, .if_icmp .ne 10, 3), (8, .aload_n 0, 1), (9, .getfield 9, 3), (12, .goto 7, 3), (15, .aload_n 0, 1), (16, .getfield 15, 3), (19, .ireturn, 1)]
theorem dt_X2_knownLimit : dOk cX2_knownLimit tb_X2_knownLimit = true := by decide +kernel
def fX2_knownLimit (h : Hp) : Option (Int32 × Hp) := if (hI h 97 1) = (-1 : Int32) then (some ((hI h 97 0), h)) else (some ((hI h 97 1), h))
set_option maxRecDepth 100000 in
set_option maxHeartbeats 4000000 in
theorem c_X2_knownLimit {l : Launch} {sb : State} {D : va_G} {ids : Nat → ClassId} {n : Nat} (hN : 152 ≤ n) (h : Hp) (r : Int32 × Hp) (hr : fX2_knownLimit h = some r) : jM l yX2_knownLimit cX2_knownLimit 1 (some .int) 0 sb D ids shp St n [.ref 97] h (jQi sb D ids shp St n r) := by
  refine jM_of hr rfl (Nat.le_of_ble_eq_true rfl) ?_
  intro p e s m args below meth c hC hret
  unfold fX2_knownLimit
  refine j_aload_n hC 0 rfl rfl (dOk_at dt_X2_knownLimit 0 rfl) ?_
  refine j_getI hC flX2_15 (show shp 97 = (2, 7) from rfl) (Nat.lt_of_lt_of_le (Nat.le_of_ble_eq_true rfl : 97 < 152) hN) (by decide) (by decide) (fun _ _ _ => rfl) (dOk_at dt_X2_knownLimit 1 rfl) ?_
  refine j_iconst hC (v := (-1 : Int32)) rfl (dOk_at dt_X2_knownLimit 2 rfl) ?_
  refine j_icmp_ne hC (tgt := 15) (by decide) (dOk_at dt_X2_knownLimit 3 rfl) (fun q_1 => ?_) (fun q_1 => ?_)
  · refine j_aload_n hC 0 rfl rfl (dOk_at dt_X2_knownLimit 7 rfl) ?_
    refine j_getI hC flX2_15 (show shp 97 = (2, 7) from rfl) (Nat.lt_of_lt_of_le (Nat.le_of_ble_eq_true rfl : 97 < 152) hN) (by decide) (by decide) (fun _ _ _ => rfl) (dOk_at dt_X2_knownLimit 8 rfl) ?_
    exact j_iret hC hret (dOk_at dt_X2_knownLimit 9 rfl)
  · refine j_aload_n hC 0 rfl rfl (dOk_at dt_X2_knownLimit 4 rfl) ?_
    refine j_getI hC flX2_9 (show shp 97 = (2, 7) from rfl) (Nat.lt_of_lt_of_le (Nat.le_of_ble_eq_true rfl : 97 < 152) hN) (by decide) (by decide) (fun _ _ _ => rfl) (dOk_at dt_X2_knownLimit 5 rfl) ?_
    refine j_goto hC (tgt := 19) (by decide) (dOk_at dt_X2_knownLimit 6 rfl) ?_
    exact j_iret hC hret (dOk_at dt_X2_knownLimit 9 rfl)
def tb_X2_knownOnes : List (Nat × Instr × Nat) := [(0, .iconst 0, 1), (1, .istore_n 1, 1), (2, .iconst 0, 1), (3, .istore_n 2, 1), (4, .aload_n 0, 1), (5, .invokevirtual 35, 3), (8, .bipush 24, 2), (10, .invokestatic 39, 3), (13, .iconst 1, 1), (14, .isub, 1), (15, .istore_n 3, 1), (16, .iload_n 3, 1), (17, .ifCond .lt 47, 3), (20, .iload_n 1, 1), (21, .iload_n 3, 1), (22, .ishr, 1), (23, .iconst 1, 1), (24, .iand, 1), (25, .ifCond .ne 33, 3), (28, .aload_n 0, 1), (29, .getfield 32, 3), (32, .iload_n 3, 1), (33, .iaload, 1), (34, .iconst (-1), 1), (35, .if_icmp .ne 12, 3), (38, .iload_n 2, 1), (39, .iconst 1, 1), (40, .iload_n 3, 1), (41, .ishl, 1), (42, .ior, 1), (43, .istore_n 2, 1), (44, .goto 14, 3), (47, .iload_n 1, 1), (48, .iconst 1, 1), (49, .aload_n 0, 1), (50, .getfield 32, 3), (53, .iload_n 3, 1), (54, .iaload, 1), (55, .ishl, 1), (56, .ior, 1), (57, .istore_n 1, 1), (58, .iinc 3 (-1), 3), (61, .goto (-45), 3), (64, .iload_n 2, 1), (65, .ireturn, 1)]
theorem dt_X2_knownOnes : dOk cX2_knownOnes tb_X2_knownOnes = true := by decide +kernel
def fX2_knownOnes_58 (rec16 : Hp → Int32 → Int32 → Int32 → Option (Int32 × Hp)) (h : Hp) (x1 : Int32) (x2 : Int32) (x3 : Int32) : Option (Int32 × Hp) := rec16 h x1 x2 (x3 + (-1 : Int32))
def fX2_knownOnes_16 : Nat → Hp → Int32 → Int32 → Int32 → Option (Int32 × Hp)
  | 0, _, _, _, _ => none
  | fu + 1, h, x1, x2, x3 => if x3 < 0 then (some (x2, h)) else (if ((x1 >>> (x3 &&& 31)) &&& (1 : Int32)) = 0 then (if inb x3 24 then (if (hI h 102 (Int32.toNatClampNeg x3)) = (-1 : Int32) then (fX2_knownOnes_58 (fX2_knownOnes_16 fu) h x1 (x2 ||| ((1 : Int32) <<< (x3 &&& 31))) x3) else (if inb x3 24 then (fX2_knownOnes_58 (fX2_knownOnes_16 fu) h (x1 ||| ((1 : Int32) <<< ((hI h 102 (Int32.toNatClampNeg x3)) &&& 31))) x2 x3) else none)) else none) else (fX2_knownOnes_58 (fX2_knownOnes_16 fu) h x1 x2 x3))
def fX2_knownOnes (h : Hp) : Option (Int32 × Hp) := bnd (fX2_knownLimit h) (fun v_1 h_2 => fX2_knownOnes_16 FU h_2 (0 : Int32) (0 : Int32) ((if (24 : Int32) < v_1 then (24 : Int32) else v_1) - (1 : Int32)))
set_option maxRecDepth 100000 in
set_option maxHeartbeats 4000000 in
theorem c_X2_knownOnes {l : Launch} {sb : State} {D : va_G} {ids : Nat → ClassId} {n : Nat} (hN : 152 ≤ n) (h : Hp) (r : Int32 × Hp) (hr : fX2_knownOnes h = some r) : jM l yX2_knownOnes cX2_knownOnes 4 (some .int) 1 sb D ids shp St n [.ref 97] h (jQi sb D ids shp St n r) := by
  refine jM_of hr rfl (Nat.le_of_ble_eq_true rfl) ?_
  intro p e s m args below meth c hC hret
  have b58 : ∀ (rec16 : Hp → Int32 → Int32 → Int32 → Option (Int32 × Hp)) (hrec16 : ∀ (h : Hp) (x1 : Int32) (x2 : Int32) (x3 : Int32) , jJ p l e (rmD 1) s m args below meth c 4 sb D ids shp St (fun r => MQ below (jQi sb D ids shp St n r) args s 0 0 (jA sb)) n 0 0 h 16 [(0, .ref 97), (1, .int x1), (2, .int x2), (3, .int x3)] [] (rec16 h x1 x2 x3)) (h : Hp) (x1 : Int32) (x2 : Int32) (x3 : Int32) , jJ p l e (rmD 1) s m args below meth c 4 sb D ids shp St (fun r => MQ below (jQi sb D ids shp St n r) args s 0 0 (jA sb)) n 0 0 h 58 [(0, .ref 97), (1, .int x1), (2, .int x2), (3, .int x3)] [] (fX2_knownOnes_58 rec16 h x1 x2 x3) := by
    intro rec16 hrec16 h x1 x2 x3 
    unfold fX2_knownOnes_58
    refine j_iinc hC (v := (x3 + (-1 : Int32))) (lv' := [(3, .int (x3 + (-1 : Int32))), (0, .ref 97), (1, .int x1), (2, .int x2)]) 3 rfl (congrArg (fun z => x3 + z) (show Int32.ofInt (-1) = (-1 : Int32) from by decide)) (by decide) rfl (dOk_at dt_X2_knownOnes 41 rfl) ?_
    refine j_goto hC (tgt := 16) (by decide) (dOk_at dt_X2_knownOnes 42 rfl) ?_
    refine j_sub [1, 2, 3, 0] rfl ?_
    exact hrec16 h x1 x2 (x3 + (-1 : Int32)) 
  have b16 : ∀ (fu : Nat) (h : Hp) (x1 : Int32) (x2 : Int32) (x3 : Int32) , jJ p l e (rmD 1) s m args below meth c 4 sb D ids shp St (fun r => MQ below (jQi sb D ids shp St n r) args s 0 0 (jA sb)) n 0 0 h 16 [(0, .ref 97), (1, .int x1), (2, .int x2), (3, .int x3)] [] (fX2_knownOnes_16 fu h x1 x2 x3) := by
    intro fu 
    induction fu with
    | zero => intro h x1 x2 x3 ; exact j_none
    | succ fu ih =>
    intro h x1 x2 x3 
    rw [fX2_knownOnes_16]
    refine j_iload_n hC 3 rfl rfl (dOk_at dt_X2_knownOnes 11 rfl) ?_
    refine j_if_lt hC (tgt := 64) (by decide) (dOk_at dt_X2_knownOnes 12 rfl) (fun q_3 => ?_) (fun q_3 => ?_)
    · refine j_iload_n hC 2 rfl rfl (dOk_at dt_X2_knownOnes 43 rfl) ?_
      exact j_iret hC hret (dOk_at dt_X2_knownOnes 44 rfl)
    · refine j_iload_n hC 1 rfl rfl (dOk_at dt_X2_knownOnes 13 rfl) ?_
      refine j_iload_n hC 3 rfl rfl (dOk_at dt_X2_knownOnes 14 rfl) ?_
      refine j_ishr hC (dOk_at dt_X2_knownOnes 15 rfl) ?_
      refine j_iconst hC (v := (1 : Int32)) rfl (dOk_at dt_X2_knownOnes 16 rfl) ?_
      refine j_iand hC (dOk_at dt_X2_knownOnes 17 rfl) ?_
      refine j_if_ne hC (tgt := 58) (by decide) (dOk_at dt_X2_knownOnes 18 rfl) (fun q_4 => ?_) (fun q_4 => ?_)
      · exact b58 (fX2_knownOnes_16 fu) ih h x1 x2 x3 
      · refine j_aload_n hC 0 rfl rfl (dOk_at dt_X2_knownOnes 19 rfl) ?_
        refine j_getR hC flX2_32 (show shp 97 = (2, 7) from rfl) (Nat.lt_of_lt_of_le (Nat.le_of_ble_eq_true rfl : 97 < 152) hN) (by decide) (by decide) (fun _ _ _ => rfl) (fun hs => hs 97 6 102 rfl) (dOk_at dt_X2_knownOnes 20 rfl) ?_
        refine j_iload_n hC 3 rfl rfl (dOk_at dt_X2_knownOnes 21 rfl) ?_
        refine j_iald hC (show shp 102 = (21, 24) from rfl) (Nat.lt_of_lt_of_le (Nat.le_of_ble_eq_true rfl : 102 < 152) hN) (dOk_at dt_X2_knownOnes 22 rfl) ?_
        refine j_iconst hC (v := (-1 : Int32)) rfl (dOk_at dt_X2_knownOnes 23 rfl) ?_
        refine j_icmp_ne hC (tgt := 47) (by decide) (dOk_at dt_X2_knownOnes 24 rfl) (fun q_5 => ?_) (fun q_5 => ?_)
        · refine j_iload_n hC 1 rfl rfl (dOk_at dt_X2_knownOnes 32 rfl) ?_
          refine j_iconst hC (v := (1 : Int32)) rfl (dOk_at dt_X2_knownOnes 33 rfl) ?_
          refine j_aload_n hC 0 rfl rfl (dOk_at dt_X2_knownOnes 34 rfl) ?_
          refine j_getR hC flX2_32 (show shp 97 = (2, 7) from rfl) (Nat.lt_of_lt_of_le (Nat.le_of_ble_eq_true rfl : 97 < 152) hN) (by decide) (by decide) (fun _ _ _ => rfl) (fun hs => hs 97 6 102 rfl) (dOk_at dt_X2_knownOnes 35 rfl) ?_
          refine j_iload_n hC 3 rfl rfl (dOk_at dt_X2_knownOnes 36 rfl) ?_
          refine j_iald hC (show shp 102 = (21, 24) from rfl) (Nat.lt_of_lt_of_le (Nat.le_of_ble_eq_true rfl : 102 < 152) hN) (dOk_at dt_X2_knownOnes 37 rfl) ?_
          refine j_ishl hC (dOk_at dt_X2_knownOnes 38 rfl) ?_
          refine j_ior hC (dOk_at dt_X2_knownOnes 39 rfl) ?_
          refine j_istore_n hC rfl (lv' := [(1, .int (x1 ||| ((1 : Int32) <<< ((hI h 102 (Int32.toNatClampNeg x3)) &&& 31)))), (0, .ref 97), (2, .int x2), (3, .int x3)]) (by decide) rfl (dOk_at dt_X2_knownOnes 40 rfl) ?_
          refine j_sub [1, 0, 2, 3] rfl ?_
          exact b58 (fX2_knownOnes_16 fu) ih h (x1 ||| ((1 : Int32) <<< ((hI h 102 (Int32.toNatClampNeg x3)) &&& 31))) x2 x3 
        · refine j_iload_n hC 2 rfl rfl (dOk_at dt_X2_knownOnes 25 rfl) ?_
          refine j_iconst hC (v := (1 : Int32)) rfl (dOk_at dt_X2_knownOnes 26 rfl) ?_
          refine j_iload_n hC 3 rfl rfl (dOk_at dt_X2_knownOnes 27 rfl) ?_
          refine j_ishl hC (dOk_at dt_X2_knownOnes 28 rfl) ?_
          refine j_ior hC (dOk_at dt_X2_knownOnes 29 rfl) ?_
          refine j_istore_n hC rfl (lv' := [(2, .int (x2 ||| ((1 : Int32) <<< (x3 &&& 31)))), (0, .ref 97), (1, .int x1), (3, .int x3)]) (by decide) rfl (dOk_at dt_X2_knownOnes 30 rfl) ?_
          refine j_goto hC (tgt := 58) (by decide) (dOk_at dt_X2_knownOnes 31 rfl) ?_
          refine j_sub [1, 2, 0, 3] rfl ?_
          exact b58 (fX2_knownOnes_16 fu) ih h x1 (x2 ||| ((1 : Int32) <<< (x3 &&& 31))) x3 
  unfold fX2_knownOnes
  refine j_iconst hC (v := (0 : Int32)) rfl (dOk_at dt_X2_knownOnes 0 rfl) ?_
  refine j_istore_n hC rfl (lv' := [(1, .int (0 : Int32)), (0, .ref 97)]) (by decide) rfl (dOk_at dt_X2_knownOnes 1 rfl) ?_
  refine j_iconst hC (v := (0 : Int32)) rfl (dOk_at dt_X2_knownOnes 2 rfl) ?_
  refine j_istore_n hC rfl (lv' := [(2, .int (0 : Int32)), (1, .int (0 : Int32)), (0, .ref 97)]) (by decide) rfl (dOk_at dt_X2_knownOnes 3 rfl) ?_
  refine j_aload_n hC 2 rfl rfl (dOk_at dt_X2_knownOnes 4 rfl) ?_
  refine j_callVi hC clX2_35 (fun rz hrz => c_X2_knownLimit hN _ rz hrz) (show shp 97 = (2, 7) from rfl) (Nat.lt_of_lt_of_le (Nat.le_of_ble_eq_true rfl : 97 < 152) hN) (by decide) rfl rfl ⟨Nat.le_of_ble_eq_true rfl, Nat.le_of_ble_eq_true rfl⟩ ⟨Nat.le_refl 0, Nat.le_refl 0⟩ (As := []) (st := []) rfl (Nat.le_of_ble_eq_true rfl) (dOk_at dt_X2_knownOnes 5 rfl) (fun v_1 h_2 _ => ?_)
  refine j_bipush hC (v := (24 : Int32)) rfl (dOk_at dt_X2_knownOnes 6 rfl) ?_
  refine j_mmin hC mtX2_39 ⟨Nat.le_of_ble_eq_true rfl, Nat.le_of_ble_eq_true rfl⟩ ⟨Nat.le_refl 0, Nat.le_refl 0⟩ (Nat.le_of_ble_eq_true rfl) (dOk_at dt_X2_knownOnes 7 rfl) ?_
  refine j_iconst hC (v := (1 : Int32)) rfl (dOk_at dt_X2_knownOnes 8 rfl) ?_
  refine j_isub hC (dOk_at dt_X2_knownOnes 9 rfl) ?_
  refine j_istore_n hC rfl (lv' := [(3, .int ((if (24 : Int32) < v_1 then (24 : Int32) else v_1) - (1 : Int32))), (2, .int (0 : Int32)), (1, .int (0 : Int32)), (0, .ref 97)]) (by decide) rfl (dOk_at dt_X2_knownOnes 10 rfl) ?_
  refine j_sub [3, 2, 1, 0] rfl ?_
  exact b16 FU h_2 (0 : Int32) (0 : Int32) ((if (24 : Int32) < v_1 then (24 : Int32) else v_1) - (1 : Int32)) 
def tb_X2_latestNight : List (Nat × Instr × Nat) := [(0, .iconst 0, 1), (1, .istore_n 2, 1), (2, .iconst 0, 1), (3, .istore_n 3, 1), (4, .iload_n 3, 1), (5, .bipush 24, 2), (7, .if_icmp .ge 35, 3), (10, .iload_n 1, 1), (11, .iload_n 3, 1), (12, .ishr, 1), (13, .iconst 1, 1), (14, .iand, 1), (15, .iconst 1, 1), (16, .if_icmp .ne 20, 3), (19, .aload_n 0, 1), (20, .getfield 18, 3), (23, .iload_n 3, 1), (24, .iaload, 1), (25, .iload_n 2, 1), (26, .if_icmp .le 10, 3), (29, .aload_n 0, 1), (30, .getfield 18, 3), (33, .iload_n 3, 1), (34, .iaload, 1), (35, .istore_n 2, 1), (36, .iinc 3 1, 3), (39, .goto (-35), 3), (42, .iload_n 2, 1), (43, .ireturn, 1)]
theorem dt_X2_latestNight : dOk cX2_latestNight tb_X2_latestNight = true := by decide +kernel
def fX2_latestNight_36 (rec4 : Hp → Int32 → Int32 → Int32 → Option (Int32 × Hp)) (h : Hp) (x1 : Int32) (x2 : Int32) (x3 : Int32) : Option (Int32 × Hp) := rec4 h x1 x2 (x3 + (1 : Int32))
def fX2_latestNight_4 : Nat → Hp → Int32 → Int32 → Int32 → Option (Int32 × Hp)
  | 0, _, _, _, _ => none
  | fu + 1, h, x1, x2, x3 => if (24 : Int32) ≤ x3 then (some (x2, h)) else (if ((x1 >>> (x3 &&& 31)) &&& (1 : Int32)) = (1 : Int32) then (if inb x3 24 then (if (hI h 98 (Int32.toNatClampNeg x3)) ≤ x2 then (fX2_latestNight_36 (fX2_latestNight_4 fu) h x1 x2 x3) else (if inb x3 24 then (fX2_latestNight_36 (fX2_latestNight_4 fu) h x1 (hI h 98 (Int32.toNatClampNeg x3)) x3) else none)) else none) else (fX2_latestNight_36 (fX2_latestNight_4 fu) h x1 x2 x3))
def fX2_latestNight (h : Hp) (x1 : Int32) : Option (Int32 × Hp) := fX2_latestNight_4 FU h x1 (0 : Int32) (0 : Int32)
set_option maxRecDepth 100000 in
set_option maxHeartbeats 4000000 in
theorem c_X2_latestNight {l : Launch} {sb : State} {D : va_G} {ids : Nat → ClassId} {n : Nat} (hN : 152 ≤ n) (h : Hp) (x1 : Int32) (r : Int32 × Hp) (hr : fX2_latestNight h x1 = some r) : jM l yX2_latestNight cX2_latestNight 4 (some .int) 0 sb D ids shp St n [.ref 97, .int x1] h (jQi sb D ids shp St n r) := by
  refine jM_of hr rfl (Nat.le_of_ble_eq_true rfl) ?_
  intro p e s m args below meth c hC hret
  have b36 : ∀ (rec4 : Hp → Int32 → Int32 → Int32 → Option (Int32 × Hp)) (hrec4 : ∀ (h : Hp) (x1 : Int32) (x2 : Int32) (x3 : Int32) , jJ p l e (rmD 0) s m args below meth c 4 sb D ids shp St (fun r => MQ below (jQi sb D ids shp St n r) args s 0 0 (jA sb)) n 0 0 h 4 [(0, .ref 97), (1, .int x1), (2, .int x2), (3, .int x3)] [] (rec4 h x1 x2 x3)) (h : Hp) (x1 : Int32) (x2 : Int32) (x3 : Int32) , jJ p l e (rmD 0) s m args below meth c 4 sb D ids shp St (fun r => MQ below (jQi sb D ids shp St n r) args s 0 0 (jA sb)) n 0 0 h 36 [(0, .ref 97), (1, .int x1), (2, .int x2), (3, .int x3)] [] (fX2_latestNight_36 rec4 h x1 x2 x3) := by
    intro rec4 hrec4 h x1 x2 x3 
    unfold fX2_latestNight_36
    refine j_iinc hC (v := (x3 + (1 : Int32))) (lv' := [(3, .int (x3 + (1 : Int32))), (0, .ref 97), (1, .int x1), (2, .int x2)]) 3 rfl (congrArg (fun z => x3 + z) (show Int32.ofInt (1) = (1 : Int32) from by decide)) (by decide) rfl (dOk_at dt_X2_latestNight 25 rfl) ?_
    refine j_goto hC (tgt := 4) (by decide) (dOk_at dt_X2_latestNight 26 rfl) ?_
    refine j_sub [1, 2, 3, 0] rfl ?_
    exact hrec4 h x1 x2 (x3 + (1 : Int32)) 
  have b4 : ∀ (fu : Nat) (h : Hp) (x1 : Int32) (x2 : Int32) (x3 : Int32) , jJ p l e (rmD 0) s m args below meth c 4 sb D ids shp St (fun r => MQ below (jQi sb D ids shp St n r) args s 0 0 (jA sb)) n 0 0 h 4 [(0, .ref 97), (1, .int x1), (2, .int x2), (3, .int x3)] [] (fX2_latestNight_4 fu h x1 x2 x3) := by
    intro fu 
    induction fu with
    | zero => intro h x1 x2 x3 ; exact j_none
    | succ fu ih =>
    intro h x1 x2 x3 
    rw [fX2_latestNight_4]
    refine j_iload_n hC 3 rfl rfl (dOk_at dt_X2_latestNight 4 rfl) ?_
    refine j_bipush hC (v := (24 : Int32)) rfl (dOk_at dt_X2_latestNight 5 rfl) ?_
    refine j_icmp_ge hC (tgt := 42) (by decide) (dOk_at dt_X2_latestNight 6 rfl) (fun q_1 => ?_) (fun q_1 => ?_)
    · refine j_iload_n hC 2 rfl rfl (dOk_at dt_X2_latestNight 27 rfl) ?_
      exact j_iret hC hret (dOk_at dt_X2_latestNight 28 rfl)
    · refine j_iload_n hC 1 rfl rfl (dOk_at dt_X2_latestNight 7 rfl) ?_
      refine j_iload_n hC 3 rfl rfl (dOk_at dt_X2_latestNight 8 rfl) ?_
      refine j_ishr hC (dOk_at dt_X2_latestNight 9 rfl) ?_
      refine j_iconst hC (v := (1 : Int32)) rfl (dOk_at dt_X2_latestNight 10 rfl) ?_
      refine j_iand hC (dOk_at dt_X2_latestNight 11 rfl) ?_
      refine j_iconst hC (v := (1 : Int32)) rfl (dOk_at dt_X2_latestNight 12 rfl) ?_
      refine j_icmp_ne hC (tgt := 36) (by decide) (dOk_at dt_X2_latestNight 13 rfl) (fun q_2 => ?_) (fun q_2 => ?_)
      · exact b36 (fX2_latestNight_4 fu) ih h x1 x2 x3 
      · refine j_aload_n hC 0 rfl rfl (dOk_at dt_X2_latestNight 14 rfl) ?_
        refine j_getR hC flX2_18 (show shp 97 = (2, 7) from rfl) (Nat.lt_of_lt_of_le (Nat.le_of_ble_eq_true rfl : 97 < 152) hN) (by decide) (by decide) (fun _ _ _ => rfl) (fun hs => hs 97 2 98 rfl) (dOk_at dt_X2_latestNight 15 rfl) ?_
        refine j_iload_n hC 3 rfl rfl (dOk_at dt_X2_latestNight 16 rfl) ?_
        refine j_iald hC (show shp 98 = (21, 24) from rfl) (Nat.lt_of_lt_of_le (Nat.le_of_ble_eq_true rfl : 98 < 152) hN) (dOk_at dt_X2_latestNight 17 rfl) ?_
        refine j_iload_n hC 2 rfl rfl (dOk_at dt_X2_latestNight 18 rfl) ?_
        refine j_icmp_le hC (tgt := 36) (by decide) (dOk_at dt_X2_latestNight 19 rfl) (fun q_3 => ?_) (fun q_3 => ?_)
        · exact b36 (fX2_latestNight_4 fu) ih h x1 x2 x3 
        · refine j_aload_n hC 0 rfl rfl (dOk_at dt_X2_latestNight 20 rfl) ?_
          refine j_getR hC flX2_18 (show shp 97 = (2, 7) from rfl) (Nat.lt_of_lt_of_le (Nat.le_of_ble_eq_true rfl : 97 < 152) hN) (by decide) (by decide) (fun _ _ _ => rfl) (fun hs => hs 97 2 98 rfl) (dOk_at dt_X2_latestNight 21 rfl) ?_
          refine j_iload_n hC 3 rfl rfl (dOk_at dt_X2_latestNight 22 rfl) ?_
          refine j_iald hC (show shp 98 = (21, 24) from rfl) (Nat.lt_of_lt_of_le (Nat.le_of_ble_eq_true rfl : 98 < 152) hN) (dOk_at dt_X2_latestNight 23 rfl) ?_
          refine j_istore_n hC rfl (lv' := [(2, .int (hI h 98 (Int32.toNatClampNeg x3))), (0, .ref 97), (1, .int x1), (3, .int x3)]) (by decide) rfl (dOk_at dt_X2_latestNight 24 rfl) ?_
          refine j_sub [1, 2, 0, 3] rfl ?_
          exact b36 (fX2_latestNight_4 fu) ih h x1 (hI h 98 (Int32.toNatClampNeg x3)) x3 
  unfold fX2_latestNight
  refine j_iconst hC (v := (0 : Int32)) rfl (dOk_at dt_X2_latestNight 0 rfl) ?_
  refine j_istore_n hC rfl (lv' := [(2, .int (0 : Int32)), (0, .ref 97), (1, .int x1)]) (by decide) rfl (dOk_at dt_X2_latestNight 1 rfl) ?_
  refine j_iconst hC (v := (0 : Int32)) rfl (dOk_at dt_X2_latestNight 2 rfl) ?_
  refine j_istore_n hC rfl (lv' := [(3, .int (0 : Int32)), (2, .int (0 : Int32)), (0, .ref 97), (1, .int x1)]) (by decide) rfl (dOk_at dt_X2_latestNight 3 rfl) ?_
  refine j_sub [2, 3, 1, 0] rfl ?_
  exact b4 FU h x1 (0 : Int32) (0 : Int32) 
def tb_X8_wonBy : List (Nat × Instr × Nat) := [(0, .iload_n 1, 1), (1, .ifCond .lt 17, 3), (4, .iload_n 1, 1), (5, .iconst 5, 1), (6, .if_icmp .ge 12, 3), (9, .aload_n 0, 1), (10, .getfield 22, 3), (13, .iload_n 1, 1), (14, .iaload, 1), (15, .goto 4, 3), (18, .iconst 0, 1), (19, .ireturn, 1)]
theorem dt_X8_wonBy : dOk cX8_wonBy tb_X8_wonBy = true := by decide +kernel
def fX8_wonBy (tt : Nat) (h : Hp) (x1 : Int32) : Option (Int32 × Hp) := if x1 < 0 then (some ((0 : Int32), h)) else (if (5 : Int32) ≤ x1 then (some ((0 : Int32), h)) else (if inb x1 5 then (some ((hI h (rf tt 7) (Int32.toNatClampNeg x1)), h)) else none))
set_option maxRecDepth 100000 in
set_option maxHeartbeats 4000000 in
theorem c_X8_wonBy {l : Launch} {sb : State} {D : va_G} {ids : Nat → ClassId} {n : Nat} (hN : 152 ≤ n) {tt : Nat} (ht : shp tt = (8, 15)) (h : Hp) (x1 : Int32) (r : Int32 × Hp) (hr : fX8_wonBy tt h x1 = some r) : jM l yX8_wonBy cX8_wonBy 2 (some .int) 0 sb D ids shp St n [.ref tt, .int x1] h (jQi sb D ids shp St n r) := by
  refine jM_of hr rfl (Nat.le_of_ble_eq_true rfl) ?_
  intro p e s m args below meth c hC hret
  unfold fX8_wonBy
  refine j_iload_n hC 1 rfl rfl (dOk_at dt_X8_wonBy 0 rfl) ?_
  refine j_if_lt hC (tgt := 18) (by decide) (dOk_at dt_X8_wonBy 1 rfl) (fun q_1 => ?_) (fun q_1 => ?_)
  · refine j_iconst hC (v := (0 : Int32)) rfl (dOk_at dt_X8_wonBy 10 rfl) ?_
    exact j_iret hC hret (dOk_at dt_X8_wonBy 11 rfl)
  · refine j_iload_n hC 1 rfl rfl (dOk_at dt_X8_wonBy 2 rfl) ?_
    refine j_iconst hC (v := (5 : Int32)) rfl (dOk_at dt_X8_wonBy 3 rfl) ?_
    refine j_icmp_ge hC (tgt := 18) (by decide) (dOk_at dt_X8_wonBy 4 rfl) (fun q_2 => ?_) (fun q_2 => ?_)
    · refine j_iconst hC (v := (0 : Int32)) rfl (dOk_at dt_X8_wonBy 10 rfl) ?_
      exact j_iret hC hret (dOk_at dt_X8_wonBy 11 rfl)
    · refine j_aload_n hC 0 rfl rfl (dOk_at dt_X8_wonBy 5 rfl) ?_
      refine j_getR hC flX8_22 ht (jlt hN ht (by decide)) (by decide) (by decide) (fun _ _ _ => rfl) (fun hs => hs _ _ _ (sf_8_7 ht).1) (dOk_at dt_X8_wonBy 6 rfl) ?_
      refine j_iload_n hC 1 rfl rfl (dOk_at dt_X8_wonBy 7 rfl) ?_
      refine j_iald hC (sf_8_7 ht).2.1 (Nat.lt_of_lt_of_le (sf_8_7 ht).2.2 hN) (dOk_at dt_X8_wonBy 8 rfl) ?_
      refine j_goto hC (tgt := 19) (by decide) (dOk_at dt_X8_wonBy 9 rfl) ?_
      exact j_iret hC hret (dOk_at dt_X8_wonBy 11 rfl)
def tb_X2_isBorneOut : List (Nat × Instr × Nat) := [(0, .iconst 0, 1), (1, .istore_n 3, 1), (2, .iload_n 3, 1), (3, .bipush 24, 2), (5, .if_icmp .ge 66, 3), (8, .iload_n 1, 1), (9, .iload_n 3, 1), (10, .ishr, 1), (11, .iconst 1, 1), (12, .iand, 1), (13, .iconst 1, 1), (14, .if_icmp .ne 51, 3), (17, .aload_n 0, 1), (18, .getfield 18, 3), (21, .iload_n 3, 1), (22, .iaload, 1), (23, .aload_n 2, 1), (24, .getfield 45, 3), (27, .if_icmp .ne 38, 3), (30, .aload_n 2, 1), (31, .aload_n 0, 1), (32, .getfield 22, 3), (35, .iload_n 3, 1), (36, .iaload, 1), (37, .invokevirtual 50, 3), (40, .aload_n 0, 1), (41, .getfield 25, 3), (44, .iload_n 3, 1), (45, .iaload, 1), (46, .if_icmp .lt 7, 3), (49, .iconst 1, 1), (50, .goto 4, 3), (53, .iconst 0, 1), (54, .aload_n 0, 1), (55, .getfield 28, 3), (58, .iload_n 3, 1), (59, .baload, 1), (60, .if_icmp .eq 5, 3), (63, .iconst 0, 1), (64, .ireturn, 1), (65, .iinc 3 1, 3), (68, .goto (-66), 3), (71, .iconst 1, 1), (72, .ireturn, 1)]
theorem dt_X2_isBorneOut : dOk cX2_isBorneOut tb_X2_isBorneOut = true := by decide +kernel
def fX2_isBorneOut_65 (r2 : Nat) (rec2 : Hp → Int32 → Int32 → Option (Int32 × Hp)) (h : Hp) (x1 : Int32) (x3 : Int32) : Option (Int32 × Hp) := rec2 h x1 (x3 + (1 : Int32))
def fX2_isBorneOut_54 (r2 : Nat) (rec2 : Hp → Int32 → Int32 → Option (Int32 × Hp)) (h : Hp) (x1 : Int32) (x3 : Int32) (s0 : Int32) : Option (Int32 × Hp) := if inb x3 24 then (if s0 = (hI h 101 (Int32.toNatClampNeg x3)) then (fX2_isBorneOut_65 r2 rec2 h x1 x3) else (some ((0 : Int32), h))) else none
def fX2_isBorneOut_2 : Nat → (Nat) → Hp → Int32 → Int32 → Option (Int32 × Hp)
  | 0, _, _, _, _ => none
  | fu + 1, r2, h, x1, x3 => if (24 : Int32) ≤ x3 then (some ((1 : Int32), h)) else (if ((x1 >>> (x3 &&& 31)) &&& (1 : Int32)) = (1 : Int32) then (if inb x3 24 then (if (hI h 98 (Int32.toNatClampNeg x3)) = (hI h r2 1) then (if inb x3 24 then (bnd (fX8_wonBy r2 h (hI h 99 (Int32.toNatClampNeg x3))) (fun v_4 h_5 => if inb x3 24 then (if v_4 < (hI h_5 100 (Int32.toNatClampNeg x3)) then (fX2_isBorneOut_54 r2 (fX2_isBorneOut_2 fu r2) h_5 x1 x3 (0 : Int32)) else (fX2_isBorneOut_54 r2 (fX2_isBorneOut_2 fu r2) h_5 x1 x3 (1 : Int32))) else none)) else none) else (fX2_isBorneOut_65 r2 (fX2_isBorneOut_2 fu r2) h x1 x3)) else none) else (fX2_isBorneOut_65 r2 (fX2_isBorneOut_2 fu r2) h x1 x3))
def fX2_isBorneOut (r2 : Nat) (h : Hp) (x1 : Int32) : Option (Int32 × Hp) := fX2_isBorneOut_2 FU r2 h x1 (0 : Int32)
set_option maxRecDepth 100000 in
set_option maxHeartbeats 4000000 in
theorem c_X2_isBorneOut {l : Launch} {sb : State} {D : va_G} {ids : Nat → ClassId} {n : Nat} (hN : 152 ≤ n) {r2 : Nat} (h2 : shp r2 = (8, 15)) (h : Hp) (x1 : Int32) (r : Int32 × Hp) (hr : fX2_isBorneOut r2 h x1 = some r) : jM l yX2_isBorneOut cX2_isBorneOut 4 (some .boolean) 1 sb D ids shp St n [.ref 97, .int x1, .ref r2] h (jQi sb D ids shp St n r) := by
  refine jM_of hr rfl (Nat.le_of_ble_eq_true rfl) ?_
  intro p e s m args below meth c hC hret
  have b65 : ∀ (rec2 : Hp → Int32 → Int32 → Option (Int32 × Hp)) (hrec2 : ∀ (h : Hp) (x1 : Int32) (x3 : Int32) , jJ p l e (rmD 1) s m args below meth c 4 sb D ids shp St (fun r => MQ below (jQi sb D ids shp St n r) args s 0 0 (jA sb)) n 0 0 h 2 [(0, .ref 97), (1, .int x1), (2, .ref r2), (3, .int x3)] [] (rec2 h x1 x3)) (h : Hp) (x1 : Int32) (x3 : Int32) , jJ p l e (rmD 1) s m args below meth c 4 sb D ids shp St (fun r => MQ below (jQi sb D ids shp St n r) args s 0 0 (jA sb)) n 0 0 h 65 [(0, .ref 97), (1, .int x1), (2, .ref r2), (3, .int x3)] [] (fX2_isBorneOut_65 r2 rec2 h x1 x3) := by
    intro rec2 hrec2 h x1 x3 
    unfold fX2_isBorneOut_65
    refine j_iinc hC (v := (x3 + (1 : Int32))) (lv' := [(3, .int (x3 + (1 : Int32))), (0, .ref 97), (1, .int x1), (2, .ref r2)]) 3 rfl (congrArg (fun z => x3 + z) (show Int32.ofInt (1) = (1 : Int32) from by decide)) (by decide) rfl (dOk_at dt_X2_isBorneOut 40 rfl) ?_
    refine j_goto hC (tgt := 2) (by decide) (dOk_at dt_X2_isBorneOut 41 rfl) ?_
    refine j_sub [1, 2, 3, 0] rfl ?_
    exact hrec2 h x1 (x3 + (1 : Int32)) 
  have b54 : ∀ (rec2 : Hp → Int32 → Int32 → Option (Int32 × Hp)) (hrec2 : ∀ (h : Hp) (x1 : Int32) (x3 : Int32) , jJ p l e (rmD 1) s m args below meth c 4 sb D ids shp St (fun r => MQ below (jQi sb D ids shp St n r) args s 0 0 (jA sb)) n 0 0 h 2 [(0, .ref 97), (1, .int x1), (2, .ref r2), (3, .int x3)] [] (rec2 h x1 x3)) (h : Hp) (x1 : Int32) (x3 : Int32) (s0 : Int32) , jJ p l e (rmD 1) s m args below meth c 4 sb D ids shp St (fun r => MQ below (jQi sb D ids shp St n r) args s 0 0 (jA sb)) n 0 0 h 54 [(0, .ref 97), (1, .int x1), (2, .ref r2), (3, .int x3)] [.int s0] (fX2_isBorneOut_54 r2 rec2 h x1 x3 s0) := by
    intro rec2 hrec2 h x1 x3 s0 
    unfold fX2_isBorneOut_54
    refine j_aload_n hC 0 rfl rfl (dOk_at dt_X2_isBorneOut 33 rfl) ?_
    refine j_getR hC flX2_28 (show shp 97 = (2, 7) from rfl) (Nat.lt_of_lt_of_le (Nat.le_of_ble_eq_true rfl : 97 < 152) hN) (by decide) (by decide) (fun _ _ _ => rfl) (fun hs => hs 97 5 101 rfl) (dOk_at dt_X2_isBorneOut 34 rfl) ?_
    refine j_iload_n hC 3 rfl rfl (dOk_at dt_X2_isBorneOut 35 rfl) ?_
    refine j_zald hC (show shp 101 = (23, 24) from rfl) (Nat.lt_of_lt_of_le (Nat.le_of_ble_eq_true rfl : 101 < 152) hN) (dOk_at dt_X2_isBorneOut 36 rfl) ?_
    refine j_icmp_eq hC (tgt := 65) (by decide) (dOk_at dt_X2_isBorneOut 37 rfl) (fun q_7 => ?_) (fun q_7 => ?_)
    · exact b65 rec2 hrec2 h x1 x3 
    · refine j_iconst hC (v := (0 : Int32)) rfl (dOk_at dt_X2_isBorneOut 38 rfl) ?_
      exact j_zretK hC hret rfl (dOk_at dt_X2_isBorneOut 39 rfl)
  have b2 : ∀ (fu : Nat) (h : Hp) (x1 : Int32) (x3 : Int32) , jJ p l e (rmD 1) s m args below meth c 4 sb D ids shp St (fun r => MQ below (jQi sb D ids shp St n r) args s 0 0 (jA sb)) n 0 0 h 2 [(0, .ref 97), (1, .int x1), (2, .ref r2), (3, .int x3)] [] (fX2_isBorneOut_2 fu r2 h x1 x3) := by
    intro fu 
    induction fu with
    | zero => intro h x1 x3 ; exact j_none
    | succ fu ih =>
    intro h x1 x3 
    rw [fX2_isBorneOut_2]
    refine j_iload_n hC 3 rfl rfl (dOk_at dt_X2_isBorneOut 2 rfl) ?_
    refine j_bipush hC (v := (24 : Int32)) rfl (dOk_at dt_X2_isBorneOut 3 rfl) ?_
    refine j_icmp_ge hC (tgt := 71) (by decide) (dOk_at dt_X2_isBorneOut 4 rfl) (fun q_1 => ?_) (fun q_1 => ?_)
    · refine j_iconst hC (v := (1 : Int32)) rfl (dOk_at dt_X2_isBorneOut 42 rfl) ?_
      exact j_zretK hC hret rfl (dOk_at dt_X2_isBorneOut 43 rfl)
    · refine j_iload_n hC 1 rfl rfl (dOk_at dt_X2_isBorneOut 5 rfl) ?_
      refine j_iload_n hC 3 rfl rfl (dOk_at dt_X2_isBorneOut 6 rfl) ?_
      refine j_ishr hC (dOk_at dt_X2_isBorneOut 7 rfl) ?_
      refine j_iconst hC (v := (1 : Int32)) rfl (dOk_at dt_X2_isBorneOut 8 rfl) ?_
      refine j_iand hC (dOk_at dt_X2_isBorneOut 9 rfl) ?_
      refine j_iconst hC (v := (1 : Int32)) rfl (dOk_at dt_X2_isBorneOut 10 rfl) ?_
      refine j_icmp_ne hC (tgt := 65) (by decide) (dOk_at dt_X2_isBorneOut 11 rfl) (fun q_2 => ?_) (fun q_2 => ?_)
      · exact b65 (fX2_isBorneOut_2 fu r2) ih h x1 x3 
      · refine j_aload_n hC 0 rfl rfl (dOk_at dt_X2_isBorneOut 12 rfl) ?_
        refine j_getR hC flX2_18 (show shp 97 = (2, 7) from rfl) (Nat.lt_of_lt_of_le (Nat.le_of_ble_eq_true rfl : 97 < 152) hN) (by decide) (by decide) (fun _ _ _ => rfl) (fun hs => hs 97 2 98 rfl) (dOk_at dt_X2_isBorneOut 13 rfl) ?_
        refine j_iload_n hC 3 rfl rfl (dOk_at dt_X2_isBorneOut 14 rfl) ?_
        refine j_iald hC (show shp 98 = (21, 24) from rfl) (Nat.lt_of_lt_of_le (Nat.le_of_ble_eq_true rfl : 98 < 152) hN) (dOk_at dt_X2_isBorneOut 15 rfl) ?_
        refine j_aload_n hC 2 rfl rfl (dOk_at dt_X2_isBorneOut 16 rfl) ?_
        refine j_getI hC flX2_45 h2 (jlt hN h2 (by decide)) (by decide) (by decide) (fun _ _ _ => rfl) (dOk_at dt_X2_isBorneOut 17 rfl) ?_
        refine j_icmp_ne hC (tgt := 65) (by decide) (dOk_at dt_X2_isBorneOut 18 rfl) (fun q_3 => ?_) (fun q_3 => ?_)
        · exact b65 (fX2_isBorneOut_2 fu r2) ih h x1 x3 
        · refine j_aload_n hC 2 rfl rfl (dOk_at dt_X2_isBorneOut 19 rfl) ?_
          refine j_aload_n hC 0 rfl rfl (dOk_at dt_X2_isBorneOut 20 rfl) ?_
          refine j_getR hC flX2_22 (show shp 97 = (2, 7) from rfl) (Nat.lt_of_lt_of_le (Nat.le_of_ble_eq_true rfl : 97 < 152) hN) (by decide) (by decide) (fun _ _ _ => rfl) (fun hs => hs 97 3 99 rfl) (dOk_at dt_X2_isBorneOut 21 rfl) ?_
          refine j_iload_n hC 3 rfl rfl (dOk_at dt_X2_isBorneOut 22 rfl) ?_
          refine j_iald hC (show shp 99 = (21, 24) from rfl) (Nat.lt_of_lt_of_le (Nat.le_of_ble_eq_true rfl : 99 < 152) hN) (dOk_at dt_X2_isBorneOut 23 rfl) ?_
          refine j_callVi hC clX2_50 (fun rz hrz => c_X8_wonBy hN (h2) _ _ rz hrz) h2 (jlt hN h2 (by decide)) (by decide) rfl rfl ⟨Nat.le_of_ble_eq_true rfl, Nat.le_of_ble_eq_true rfl⟩ ⟨Nat.le_refl 0, Nat.le_refl 0⟩ (As := [.int (hI h 99 (Int32.toNatClampNeg x3))]) (st := []) rfl (Nat.le_of_ble_eq_true rfl) (dOk_at dt_X2_isBorneOut 24 rfl) (fun v_4 h_5 _ => ?_)
          refine j_aload_n hC 0 rfl rfl (dOk_at dt_X2_isBorneOut 25 rfl) ?_
          refine j_getR hC flX2_25 (show shp 97 = (2, 7) from rfl) (Nat.lt_of_lt_of_le (Nat.le_of_ble_eq_true rfl : 97 < 152) hN) (by decide) (by decide) (fun _ _ _ => rfl) (fun hs => hs 97 4 100 rfl) (dOk_at dt_X2_isBorneOut 26 rfl) ?_
          refine j_iload_n hC 3 rfl rfl (dOk_at dt_X2_isBorneOut 27 rfl) ?_
          refine j_iald hC (show shp 100 = (21, 24) from rfl) (Nat.lt_of_lt_of_le (Nat.le_of_ble_eq_true rfl : 100 < 152) hN) (dOk_at dt_X2_isBorneOut 28 rfl) ?_
          refine j_icmp_lt hC (tgt := 53) (by decide) (dOk_at dt_X2_isBorneOut 29 rfl) (fun q_6 => ?_) (fun q_6 => ?_)
          · refine j_iconst hC (v := (0 : Int32)) rfl (dOk_at dt_X2_isBorneOut 32 rfl) ?_
            exact b54 (fX2_isBorneOut_2 fu r2) ih h_5 x1 x3 (0 : Int32) 
          · refine j_iconst hC (v := (1 : Int32)) rfl (dOk_at dt_X2_isBorneOut 30 rfl) ?_
            refine j_goto hC (tgt := 54) (by decide) (dOk_at dt_X2_isBorneOut 31 rfl) ?_
            exact b54 (fX2_isBorneOut_2 fu r2) ih h_5 x1 x3 (1 : Int32) 
  unfold fX2_isBorneOut
  refine j_iconst hC (v := (0 : Int32)) rfl (dOk_at dt_X2_isBorneOut 0 rfl) ?_
  refine j_istore_n hC rfl (lv' := [(3, .int (0 : Int32)), (0, .ref 97), (1, .int x1), (2, .ref r2)]) (by decide) rfl (dOk_at dt_X2_isBorneOut 1 rfl) ?_
  refine j_sub [1, 2, 3, 0] rfl ?_
  exact b2 FU h x1 (0 : Int32) 
def tb_X3_strawOf : List (Nat × Instr × Nat) := [(0, .iload_n 1, 1), (1, .ifCond .lt 17, 3), (4, .iload_n 1, 1), (5, .iconst 5, 1), (6, .if_icmp .ge 12, 3), (9, .aload_n 0, 1), (10, .getfield 19, 3), (13, .iload_n 1, 1), (14, .iaload, 1), (15, .goto 5, 3), (18, .bipush (-2), 2), (20, .ireturn, 1)]
theorem dt_X3_strawOf : dOk cX3_strawOf tb_X3_strawOf = true := by decide +kernel
def fX3_strawOf (h : Hp) (x1 : Int32) : Option (Int32 × Hp) := if x1 < 0 then (some ((-2 : Int32), h)) else (if (5 : Int32) ≤ x1 then (some ((-2 : Int32), h)) else (if inb x1 5 then (some ((hI h 105 (Int32.toNatClampNeg x1)), h)) else none))
set_option maxRecDepth 100000 in
set_option maxHeartbeats 4000000 in
theorem c_X3_strawOf {l : Launch} {sb : State} {D : va_G} {ids : Nat → ClassId} {n : Nat} (hN : 152 ≤ n) (h : Hp) (x1 : Int32) (r : Int32 × Hp) (hr : fX3_strawOf h x1 = some r) : jM l yX3_strawOf cX3_strawOf 2 (some .int) 0 sb D ids shp St n [.ref 103, .int x1] h (jQi sb D ids shp St n r) := by
  refine jM_of hr rfl (Nat.le_of_ble_eq_true rfl) ?_
  intro p e s m args below meth c hC hret
  unfold fX3_strawOf
  refine j_iload_n hC 1 rfl rfl (dOk_at dt_X3_strawOf 0 rfl) ?_
  refine j_if_lt hC (tgt := 18) (by decide) (dOk_at dt_X3_strawOf 1 rfl) (fun q_1 => ?_) (fun q_1 => ?_)
  · refine j_bipush hC (v := (-2 : Int32)) rfl (dOk_at dt_X3_strawOf 10 rfl) ?_
    exact j_iret hC hret (dOk_at dt_X3_strawOf 11 rfl)
  · refine j_iload_n hC 1 rfl rfl (dOk_at dt_X3_strawOf 2 rfl) ?_
    refine j_iconst hC (v := (5 : Int32)) rfl (dOk_at dt_X3_strawOf 3 rfl) ?_
    refine j_icmp_ge hC (tgt := 18) (by decide) (dOk_at dt_X3_strawOf 4 rfl) (fun q_2 => ?_) (fun q_2 => ?_)
    · refine j_bipush hC (v := (-2 : Int32)) rfl (dOk_at dt_X3_strawOf 10 rfl) ?_
      exact j_iret hC hret (dOk_at dt_X3_strawOf 11 rfl)
    · refine j_aload_n hC 0 rfl rfl (dOk_at dt_X3_strawOf 5 rfl) ?_
      refine j_getR hC flX3_19 (show shp 103 = (3, 4) from rfl) (Nat.lt_of_lt_of_le (Nat.le_of_ble_eq_true rfl : 103 < 152) hN) (by decide) (by decide) (fun _ _ _ => rfl) (fun hs => hs 103 2 105 rfl) (dOk_at dt_X3_strawOf 6 rfl) ?_
      refine j_iload_n hC 1 rfl rfl (dOk_at dt_X3_strawOf 7 rfl) ?_
      refine j_iald hC (show shp 105 = (21, 5) from rfl) (Nat.lt_of_lt_of_le (Nat.le_of_ble_eq_true rfl : 105 < 152) hN) (dOk_at dt_X3_strawOf 8 rfl) ?_
      refine j_goto hC (tgt := 20) (by decide) (dOk_at dt_X3_strawOf 9 rfl) ?_
      exact j_iret hC hret (dOk_at dt_X3_strawOf 11 rfl)
def tb_X8_inShed : List (Nat × Instr × Nat) := [(0, .iload_n 1, 1), (1, .ifCond .lt 24, 3), (4, .iload_n 1, 1), (5, .iconst 5, 1), (6, .if_icmp .ge 19, 3), (9, .aload_n 0, 1), (10, .getfield 43, 3), (13, .iload_n 1, 1), (14, .ishr, 1), (15, .iconst 1, 1), (16, .iand, 1), (17, .iconst 1, 1), (18, .if_icmp .ne 7, 3), (21, .iconst 1, 1), (22, .goto 4, 3), (25, .iconst 0, 1), (26, .ireturn, 1)]
theorem dt_X8_inShed : dOk cX8_inShed tb_X8_inShed = true := by decide +kernel
def fX8_inShed (tt : Nat) (h : Hp) (x1 : Int32) : Option (Int32 × Hp) := if x1 < 0 then (some ((0 : Int32), h)) else (if (5 : Int32) ≤ x1 then (some ((0 : Int32), h)) else (if (((hI h tt 2) >>> (x1 &&& 31)) &&& (1 : Int32)) = (1 : Int32) then (some ((1 : Int32), h)) else (some ((0 : Int32), h))))
set_option maxRecDepth 100000 in
set_option maxHeartbeats 4000000 in
theorem c_X8_inShed {l : Launch} {sb : State} {D : va_G} {ids : Nat → ClassId} {n : Nat} (hN : 152 ≤ n) {tt : Nat} (ht : shp tt = (8, 15)) (h : Hp) (x1 : Int32) (r : Int32 × Hp) (hr : fX8_inShed tt h x1 = some r) : jM l yX8_inShed cX8_inShed 2 (some .boolean) 0 sb D ids shp St n [.ref tt, .int x1] h (jQi sb D ids shp St n r) := by
  refine jM_of hr rfl (Nat.le_of_ble_eq_true rfl) ?_
  intro p e s m args below meth c hC hret
  unfold fX8_inShed
  refine j_iload_n hC 1 rfl rfl (dOk_at dt_X8_inShed 0 rfl) ?_
  refine j_if_lt hC (tgt := 25) (by decide) (dOk_at dt_X8_inShed 1 rfl) (fun q_1 => ?_) (fun q_1 => ?_)
  · refine j_iconst hC (v := (0 : Int32)) rfl (dOk_at dt_X8_inShed 15 rfl) ?_
    exact j_zretK hC hret rfl (dOk_at dt_X8_inShed 16 rfl)
  · refine j_iload_n hC 1 rfl rfl (dOk_at dt_X8_inShed 2 rfl) ?_
    refine j_iconst hC (v := (5 : Int32)) rfl (dOk_at dt_X8_inShed 3 rfl) ?_
    refine j_icmp_ge hC (tgt := 25) (by decide) (dOk_at dt_X8_inShed 4 rfl) (fun q_2 => ?_) (fun q_2 => ?_)
    · refine j_iconst hC (v := (0 : Int32)) rfl (dOk_at dt_X8_inShed 15 rfl) ?_
      exact j_zretK hC hret rfl (dOk_at dt_X8_inShed 16 rfl)
    · refine j_aload_n hC 0 rfl rfl (dOk_at dt_X8_inShed 5 rfl) ?_
      refine j_getI hC flX8_43 ht (jlt hN ht (by decide)) (by decide) (by decide) (fun _ _ _ => rfl) (dOk_at dt_X8_inShed 6 rfl) ?_
      refine j_iload_n hC 1 rfl rfl (dOk_at dt_X8_inShed 7 rfl) ?_
      refine j_ishr hC (dOk_at dt_X8_inShed 8 rfl) ?_
      refine j_iconst hC (v := (1 : Int32)) rfl (dOk_at dt_X8_inShed 9 rfl) ?_
      refine j_iand hC (dOk_at dt_X8_inShed 10 rfl) ?_
      refine j_iconst hC (v := (1 : Int32)) rfl (dOk_at dt_X8_inShed 11 rfl) ?_
      refine j_icmp_ne hC (tgt := 25) (by decide) (dOk_at dt_X8_inShed 12 rfl) (fun q_3 => ?_) (fun q_3 => ?_)
      · refine j_iconst hC (v := (0 : Int32)) rfl (dOk_at dt_X8_inShed 15 rfl) ?_
        exact j_zretK hC hret rfl (dOk_at dt_X8_inShed 16 rfl)
      · refine j_iconst hC (v := (1 : Int32)) rfl (dOk_at dt_X8_inShed 13 rfl) ?_
        refine j_goto hC (tgt := 26) (by decide) (dOk_at dt_X8_inShed 14 rfl) ?_
        exact j_zretK hC hret rfl (dOk_at dt_X8_inShed 16 rfl)
def tb_X7_claimOf : List (Nat × Instr × Nat) := [(0, .iload_n 1, 1), (1, .ifCond .lt 17, 3), (4, .iload_n 1, 1), (5, .iconst 5, 1), (6, .if_icmp .ge 12, 3), (9, .aload_n 0, 1), (10, .getfield 27, 3), (13, .iload_n 1, 1), (14, .iaload, 1), (15, .goto 4, 3), (18, .iconst (-1), 1), (19, .ireturn, 1)]
theorem dt_X7_claimOf : dOk cX7_claimOf tb_X7_claimOf = true := by decide +kernel
def fX7_claimOf (tt : Nat) (h : Hp) (x1 : Int32) : Option (Int32 × Hp) := if x1 < 0 then (some ((-1 : Int32), h)) else (if (5 : Int32) ≤ x1 then (some ((-1 : Int32), h)) else (if inb x1 5 then (some ((hI h (rf tt 2) (Int32.toNatClampNeg x1)), h)) else none))
set_option maxRecDepth 100000 in
set_option maxHeartbeats 4000000 in
theorem c_X7_claimOf {l : Launch} {sb : State} {D : va_G} {ids : Nat → ClassId} {n : Nat} (hN : 152 ≤ n) {tt : Nat} (ht : shp tt = (7, 20)) (h : Hp) (x1 : Int32) (r : Int32 × Hp) (hr : fX7_claimOf tt h x1 = some r) : jM l yX7_claimOf cX7_claimOf 2 (some .int) 0 sb D ids shp St n [.ref tt, .int x1] h (jQi sb D ids shp St n r) := by
  refine jM_of hr rfl (Nat.le_of_ble_eq_true rfl) ?_
  intro p e s m args below meth c hC hret
  unfold fX7_claimOf
  refine j_iload_n hC 1 rfl rfl (dOk_at dt_X7_claimOf 0 rfl) ?_
  refine j_if_lt hC (tgt := 18) (by decide) (dOk_at dt_X7_claimOf 1 rfl) (fun q_1 => ?_) (fun q_1 => ?_)
  · refine j_iconst hC (v := (-1 : Int32)) rfl (dOk_at dt_X7_claimOf 10 rfl) ?_
    exact j_iret hC hret (dOk_at dt_X7_claimOf 11 rfl)
  · refine j_iload_n hC 1 rfl rfl (dOk_at dt_X7_claimOf 2 rfl) ?_
    refine j_iconst hC (v := (5 : Int32)) rfl (dOk_at dt_X7_claimOf 3 rfl) ?_
    refine j_icmp_ge hC (tgt := 18) (by decide) (dOk_at dt_X7_claimOf 4 rfl) (fun q_2 => ?_) (fun q_2 => ?_)
    · refine j_iconst hC (v := (-1 : Int32)) rfl (dOk_at dt_X7_claimOf 10 rfl) ?_
      exact j_iret hC hret (dOk_at dt_X7_claimOf 11 rfl)
    · refine j_aload_n hC 0 rfl rfl (dOk_at dt_X7_claimOf 5 rfl) ?_
      refine j_getR hC flX7_27 ht (jlt hN ht (by decide)) (by decide) (by decide) (fun _ _ _ => rfl) (fun hs => hs _ _ _ (sf_7_2 ht).1) (dOk_at dt_X7_claimOf 6 rfl) ?_
      refine j_iload_n hC 1 rfl rfl (dOk_at dt_X7_claimOf 7 rfl) ?_
      refine j_iald hC (sf_7_2 ht).2.1 (Nat.lt_of_lt_of_le (sf_7_2 ht).2.2 hN) (dOk_at dt_X7_claimOf 8 rfl) ?_
      refine j_goto hC (tgt := 19) (by decide) (dOk_at dt_X7_claimOf 9 rfl) ?_
      exact j_iret hC hret (dOk_at dt_X7_claimOf 11 rfl)
def tb_X8_fullOf : List (Nat × Instr × Nat) := [(0, .iload_n 1, 1), (1, .ifCond .lt 17, 3), (4, .iload_n 1, 1), (5, .iconst 5, 1), (6, .if_icmp .ge 12, 3), (9, .aload_n 0, 1), (10, .getfield 15, 3), (13, .iload_n 1, 1), (14, .iaload, 1), (15, .goto 4, 3), (18, .iconst 0, 1), (19, .ireturn, 1)]
theorem dt_X8_fullOf : dOk cX8_fullOf tb_X8_fullOf = true := by decide +kernel
def fX8_fullOf (tt : Nat) (h : Hp) (x1 : Int32) : Option (Int32 × Hp) := if x1 < 0 then (some ((0 : Int32), h)) else (if (5 : Int32) ≤ x1 then (some ((0 : Int32), h)) else (if inb x1 5 then (some ((hI h (rf tt 5) (Int32.toNatClampNeg x1)), h)) else none))
set_option maxRecDepth 100000 in
set_option maxHeartbeats 4000000 in
theorem c_X8_fullOf {l : Launch} {sb : State} {D : va_G} {ids : Nat → ClassId} {n : Nat} (hN : 152 ≤ n) {tt : Nat} (ht : shp tt = (8, 15)) (h : Hp) (x1 : Int32) (r : Int32 × Hp) (hr : fX8_fullOf tt h x1 = some r) : jM l yX8_fullOf cX8_fullOf 2 (some .int) 0 sb D ids shp St n [.ref tt, .int x1] h (jQi sb D ids shp St n r) := by
  refine jM_of hr rfl (Nat.le_of_ble_eq_true rfl) ?_
  intro p e s m args below meth c hC hret
  unfold fX8_fullOf
  refine j_iload_n hC 1 rfl rfl (dOk_at dt_X8_fullOf 0 rfl) ?_
  refine j_if_lt hC (tgt := 18) (by decide) (dOk_at dt_X8_fullOf 1 rfl) (fun q_1 => ?_) (fun q_1 => ?_)
  · refine j_iconst hC (v := (0 : Int32)) rfl (dOk_at dt_X8_fullOf 10 rfl) ?_
    exact j_iret hC hret (dOk_at dt_X8_fullOf 11 rfl)
  · refine j_iload_n hC 1 rfl rfl (dOk_at dt_X8_fullOf 2 rfl) ?_
    refine j_iconst hC (v := (5 : Int32)) rfl (dOk_at dt_X8_fullOf 3 rfl) ?_
    refine j_icmp_ge hC (tgt := 18) (by decide) (dOk_at dt_X8_fullOf 4 rfl) (fun q_2 => ?_) (fun q_2 => ?_)
    · refine j_iconst hC (v := (0 : Int32)) rfl (dOk_at dt_X8_fullOf 10 rfl) ?_
      exact j_iret hC hret (dOk_at dt_X8_fullOf 11 rfl)
    · refine j_aload_n hC 0 rfl rfl (dOk_at dt_X8_fullOf 5 rfl) ?_
      refine j_getR hC flX8_15 ht (jlt hN ht (by decide)) (by decide) (by decide) (fun _ _ _ => rfl) (fun hs => hs _ _ _ (sf_8_5 ht).1) (dOk_at dt_X8_fullOf 6 rfl) ?_
      refine j_iload_n hC 1 rfl rfl (dOk_at dt_X8_fullOf 7 rfl) ?_
      refine j_iald hC (sf_8_5 ht).2.1 (Nat.lt_of_lt_of_le (sf_8_5 ht).2.2 hN) (dOk_at dt_X8_fullOf 8 rfl) ?_
      refine j_goto hC (tgt := 19) (by decide) (dOk_at dt_X8_fullOf 9 rfl) ?_
      exact j_iret hC hret (dOk_at dt_X8_fullOf 11 rfl)
def tb_X8_holdsOf : List (Nat × Instr × Nat) := [(0, .iload_n 1, 1), (1, .ifCond .lt 17, 3), (4, .iload_n 1, 1), (5, .iconst 5, 1), (6, .if_icmp .ge 12, 3), (9, .aload_n 0, 1), (10, .getfield 19, 3), (13, .iload_n 1, 1), (14, .iaload, 1), (15, .goto 4, 3), (18, .iconst 0, 1), (19, .ireturn, 1)]
theorem dt_X8_holdsOf : dOk cX8_holdsOf tb_X8_holdsOf = true := by decide +kernel
def fX8_holdsOf (tt : Nat) (h : Hp) (x1 : Int32) : Option (Int32 × Hp) := if x1 < 0 then (some ((0 : Int32), h)) else (if (5 : Int32) ≤ x1 then (some ((0 : Int32), h)) else (if inb x1 5 then (some ((hI h (rf tt 6) (Int32.toNatClampNeg x1)), h)) else none))
set_option maxRecDepth 100000 in
set_option maxHeartbeats 4000000 in
theorem c_X8_holdsOf {l : Launch} {sb : State} {D : va_G} {ids : Nat → ClassId} {n : Nat} (hN : 152 ≤ n) {tt : Nat} (ht : shp tt = (8, 15)) (h : Hp) (x1 : Int32) (r : Int32 × Hp) (hr : fX8_holdsOf tt h x1 = some r) : jM l yX8_holdsOf cX8_holdsOf 2 (some .int) 0 sb D ids shp St n [.ref tt, .int x1] h (jQi sb D ids shp St n r) := by
  refine jM_of hr rfl (Nat.le_of_ble_eq_true rfl) ?_
  intro p e s m args below meth c hC hret
  unfold fX8_holdsOf
  refine j_iload_n hC 1 rfl rfl (dOk_at dt_X8_holdsOf 0 rfl) ?_
  refine j_if_lt hC (tgt := 18) (by decide) (dOk_at dt_X8_holdsOf 1 rfl) (fun q_1 => ?_) (fun q_1 => ?_)
  · refine j_iconst hC (v := (0 : Int32)) rfl (dOk_at dt_X8_holdsOf 10 rfl) ?_
    exact j_iret hC hret (dOk_at dt_X8_holdsOf 11 rfl)
  · refine j_iload_n hC 1 rfl rfl (dOk_at dt_X8_holdsOf 2 rfl) ?_
    refine j_iconst hC (v := (5 : Int32)) rfl (dOk_at dt_X8_holdsOf 3 rfl) ?_
    refine j_icmp_ge hC (tgt := 18) (by decide) (dOk_at dt_X8_holdsOf 4 rfl) (fun q_2 => ?_) (fun q_2 => ?_)
    · refine j_iconst hC (v := (0 : Int32)) rfl (dOk_at dt_X8_holdsOf 10 rfl) ?_
      exact j_iret hC hret (dOk_at dt_X8_holdsOf 11 rfl)
    · refine j_aload_n hC 0 rfl rfl (dOk_at dt_X8_holdsOf 5 rfl) ?_
      refine j_getR hC flX8_19 ht (jlt hN ht (by decide)) (by decide) (by decide) (fun _ _ _ => rfl) (fun hs => hs _ _ _ (sf_8_6 ht).1) (dOk_at dt_X8_holdsOf 6 rfl) ?_
      refine j_iload_n hC 1 rfl rfl (dOk_at dt_X8_holdsOf 7 rfl) ?_
      refine j_iald hC (sf_8_6 ht).2.1 (Nat.lt_of_lt_of_le (sf_8_6 ht).2.2 hN) (dOk_at dt_X8_holdsOf 8 rfl) ?_
      refine j_goto hC (tgt := 19) (by decide) (dOk_at dt_X8_holdsOf 9 rfl) ?_
      exact j_iret hC hret (dOk_at dt_X8_holdsOf 11 rfl)
def tb_X8_forceOf : List (Nat × Instr × Nat) := [(0, .aload_n 0, 1), (1, .getfield 9, 3), (4, .getfield 100, 3), (7, .iload_n 2, 1), (8, .invokevirtual 104, 3), (11, .istore_n 3, 1), (12, .aload_n 0, 1), (13, .getfield 84, 3), (16, .ifCond .eq 17, 3), (19, .iload_n 3, 1), (20, .aload_n 0, 1), (21, .getfield 9, 3), (24, .getfield 100, 3), (27, .iload_n 2, 1), (28, .invokevirtual 109, 3), (31, .ior, 1), (32, .istore_n 3, 1), (33, .aload_n 0, 1), (34, .getfield 9, 3), (37, .getfield 100, 3), (40, .aload_n 0, 1), (41, .iload_n 1, 1), (42, .invokevirtual 87, 3), (45, .iload_n 3, 1), (46, .iand, 1), (47, .invokevirtual 112, 3), (50, .ireturn, 1)]
theorem dt_X8_forceOf : dOk cX8_forceOf tb_X8_forceOf = true := by decide +kernel
def fX8_forceOf_33 (tt : Nat) (h : Hp) (x1 : Int32) (x3 : Int32) : Option (Int32 × Hp) := (dref shp h tt 0 (7, 20)).bind (fun z_10 => bnd (fX8_holdsOf tt h x1) (fun v_12 h_13 => bnd (fX0_mostWeight (rf z_10 0) h_13 (v_12 &&& x3)) (fun v_14 h_15 => some (v_14, h_15))))
def fX8_forceOf (tt : Nat) (h : Hp) (x1 : Int32) (x2 : Int32) : Option (Int32 × Hp) := (dref shp h tt 0 (7, 20)).bind (fun z_1 => bnd (fX0_foesOf (rf z_1 0) h x2) (fun v_3 h_4 => if (hI h_4 tt 13) = 0 then (fX8_forceOf_33 tt h_4 x1 v_3) else ((dref shp h_4 tt 0 (7, 20)).bind (fun z_6 => bnd (fX0_hitBy (rf z_6 0) h_4 x2) (fun v_8 h_9 => fX8_forceOf_33 tt h_9 x1 (v_3 ||| v_8))))))
set_option maxRecDepth 100000 in
set_option maxHeartbeats 4000000 in
theorem c_X8_forceOf {l : Launch} {sb : State} {D : va_G} {ids : Nat → ClassId} {n : Nat} (hN : 152 ≤ n) {tt : Nat} (ht : shp tt = (8, 15)) (h : Hp) (x1 : Int32) (x2 : Int32) (r : Int32 × Hp) (hr : fX8_forceOf tt h x1 x2 = some r) : jM l yX8_forceOf cX8_forceOf 4 (some .int) 1 sb D ids shp St n [.ref tt, .int x1, .int x2] h (jQi sb D ids shp St n r) := by
  refine jM_of hr rfl (Nat.le_of_ble_eq_true rfl) ?_
  intro p e s m args below meth c hC hret
  have b33 : ∀ (h : Hp) (x1 : Int32) (x3 : Int32) , jJ p l e (rmD 1) s m args below meth c 4 sb D ids shp St (fun r => MQ below (jQi sb D ids shp St n r) args s 0 0 (jA sb)) n 0 0 h 33 [(0, .ref tt), (1, .int x1), (3, .int x3)] [] (fX8_forceOf_33 tt h x1 x3) := by
    intro h x1 x3 
    unfold fX8_forceOf_33
    refine j_aload_n hC 0 rfl rfl (dOk_at dt_X8_forceOf 17 rfl) ?_
    refine j_getD (q := (7, 20)) hC flX8_9 ht (jlt hN ht (by decide)) (by decide) (by decide) (fun _ _ _ => rfl) (dOk_at dt_X8_forceOf 18 rfl) (fun z_10 _ g_11 => ?_)
    refine j_getR hC flX8_100 g_11 (jlt hN g_11 (by decide)) (by decide) (by decide) (fun _ _ _ => rfl) (fun hs => hs _ _ _ (sf_7_0 g_11).1) (dOk_at dt_X8_forceOf 19 rfl) ?_
    refine j_aload_n hC 0 rfl rfl (dOk_at dt_X8_forceOf 20 rfl) ?_
    refine j_iload_n hC 1 rfl rfl (dOk_at dt_X8_forceOf 21 rfl) ?_
    refine j_callVi hC clX8_87 (fun rz hrz => c_X8_holdsOf hN (ht) _ _ rz hrz) ht (jlt hN ht (by decide)) (by decide) rfl rfl ⟨Nat.le_of_ble_eq_true rfl, Nat.le_of_ble_eq_true rfl⟩ ⟨Nat.le_refl 0, Nat.le_refl 0⟩ (As := [.int x1]) (st := [.ref (rf z_10 0)]) rfl (Nat.le_of_ble_eq_true rfl) (dOk_at dt_X8_forceOf 22 rfl) (fun v_12 h_13 _ => ?_)
    refine j_iload_n hC 2 rfl rfl (dOk_at dt_X8_forceOf 23 rfl) ?_
    refine j_iand hC (dOk_at dt_X8_forceOf 24 rfl) ?_
    refine j_callVi hC clX8_112 (fun rz hrz => c_X0_mostWeight hN ((sf_7_0 g_11).2.1) _ _ rz hrz) (sf_7_0 g_11).2.1 (Nat.lt_of_lt_of_le (sf_7_0 g_11).2.2 hN) (by decide) rfl rfl ⟨Nat.le_of_ble_eq_true rfl, Nat.le_of_ble_eq_true rfl⟩ ⟨Nat.le_refl 0, Nat.le_refl 0⟩ (As := [.int (v_12 &&& x3)]) (st := []) rfl (Nat.le_of_ble_eq_true rfl) (dOk_at dt_X8_forceOf 25 rfl) (fun v_14 h_15 _ => ?_)
    exact j_iret hC hret (dOk_at dt_X8_forceOf 26 rfl)
  unfold fX8_forceOf
  refine j_aload_n hC 0 rfl rfl (dOk_at dt_X8_forceOf 0 rfl) ?_
  refine j_getD (q := (7, 20)) hC flX8_9 ht (jlt hN ht (by decide)) (by decide) (by decide) (fun _ _ _ => rfl) (dOk_at dt_X8_forceOf 1 rfl) (fun z_1 _ g_2 => ?_)
  refine j_getR hC flX8_100 g_2 (jlt hN g_2 (by decide)) (by decide) (by decide) (fun _ _ _ => rfl) (fun hs => hs _ _ _ (sf_7_0 g_2).1) (dOk_at dt_X8_forceOf 2 rfl) ?_
  refine j_iload_n hC 2 rfl rfl (dOk_at dt_X8_forceOf 3 rfl) ?_
  refine j_callVi hC clX8_104 (fun rz hrz => c_X0_foesOf hN ((sf_7_0 g_2).2.1) _ _ rz hrz) (sf_7_0 g_2).2.1 (Nat.lt_of_lt_of_le (sf_7_0 g_2).2.2 hN) (by decide) rfl rfl ⟨Nat.le_of_ble_eq_true rfl, Nat.le_of_ble_eq_true rfl⟩ ⟨Nat.le_refl 0, Nat.le_refl 0⟩ (As := [.int x2]) (st := []) rfl (Nat.le_of_ble_eq_true rfl) (dOk_at dt_X8_forceOf 4 rfl) (fun v_3 h_4 _ => ?_)
  refine j_istore_n hC rfl (lv' := [(3, .int v_3), (0, .ref tt), (1, .int x1), (2, .int x2)]) (by decide) rfl (dOk_at dt_X8_forceOf 5 rfl) ?_
  refine j_aload_n hC 1 rfl rfl (dOk_at dt_X8_forceOf 6 rfl) ?_
  refine j_getI hC flX8_84 ht (jlt hN ht (by decide)) (by decide) (by decide) (fun _ _ _ => rfl) (dOk_at dt_X8_forceOf 7 rfl) ?_
  refine j_if_eq hC (tgt := 33) (by decide) (dOk_at dt_X8_forceOf 8 rfl) (fun q_5 => ?_) (fun q_5 => ?_)
  · refine j_sub [1, 2, 0] rfl ?_
    exact b33 h_4 x1 v_3 
  · refine j_iload_n hC 0 rfl rfl (dOk_at dt_X8_forceOf 9 rfl) ?_
    refine j_aload_n hC 1 rfl rfl (dOk_at dt_X8_forceOf 10 rfl) ?_
    refine j_getD (q := (7, 20)) hC flX8_9 ht (jlt hN ht (by decide)) (by decide) (by decide) (fun _ _ _ => rfl) (dOk_at dt_X8_forceOf 11 rfl) (fun z_6 _ g_7 => ?_)
    refine j_getR hC flX8_100 g_7 (jlt hN g_7 (by decide)) (by decide) (by decide) (fun _ _ _ => rfl) (fun hs => hs _ _ _ (sf_7_0 g_7).1) (dOk_at dt_X8_forceOf 12 rfl) ?_
    refine j_iload_n hC 3 rfl rfl (dOk_at dt_X8_forceOf 13 rfl) ?_
    refine j_callVi hC clX8_109 (fun rz hrz => c_X0_hitBy hN ((sf_7_0 g_7).2.1) _ _ rz hrz) (sf_7_0 g_7).2.1 (Nat.lt_of_lt_of_le (sf_7_0 g_7).2.2 hN) (by decide) rfl rfl ⟨Nat.le_of_ble_eq_true rfl, Nat.le_of_ble_eq_true rfl⟩ ⟨Nat.le_refl 0, Nat.le_refl 0⟩ (As := [.int x2]) (st := [.int v_3]) rfl (Nat.le_of_ble_eq_true rfl) (dOk_at dt_X8_forceOf 14 rfl) (fun v_8 h_9 _ => ?_)
    refine j_ior hC (dOk_at dt_X8_forceOf 15 rfl) ?_
    refine j_istore_n hC rfl (lv' := [(3, .int (v_3 ||| v_8)), (0, .ref tt), (1, .int x1), (2, .int x2)]) (by decide) rfl (dOk_at dt_X8_forceOf 16 rfl) ?_
    refine j_sub [1, 2, 0] rfl ?_
    exact b33 h_9 x1 (v_3 ||| v_8) 
def tb_X8_readNames : List (Nat × Instr × Nat) := [(0, .aload_n 0, 1), (1, .getfield 9, 3), (4, .iload_n 2, 1), (5, .invokevirtual 115, 3), (8, .istore_n 3, 1), (9, .aload_n 0, 1), (10, .getfield 28, 3), (13, .iconst 0, 1), (14, .aload_n 0, 1), (15, .getfield 9, 3), (18, .getfield 100, 3), (21, .iload_n 3, 1), (22, .invokevirtual 118, 3), (25, .i2l, 1), (26, .lastore, 1), (27, .aload_n 0, 1), (28, .getfield 28, 3), (31, .iconst 1, 1), (32, .aload_n 0, 1), (33, .getfield 9, 3), (36, .getfield 100, 3), (39, .iload_n 3, 1), (40, .invokevirtual 121, 3), (43, .i2l, 1), (44, .lastore, 1), (45, .aload_n 0, 1), (46, .getfield 28, 3), (49, .iconst 2, 1), (50, .aload_n 0, 1), (51, .iload_n 2, 1), (52, .invokevirtual 124, 3), (55, .i2l, 1), (56, .lastore, 1), (57, .aload_n 0, 1), (58, .getfield 28, 3), (61, .iconst 3, 1), (62, .aload_n 0, 1), (63, .iload_n 1, 1), (64, .iload_n 3, 1), (65, .invokevirtual 127, 3), (68, .i2l, 1), (69, .lastore, 1), (70, .aload_n 0, 1), (71, .getfield 28, 3), (74, .iconst 4, 1), (75, .aload_n 0, 1), (76, .iload_n 1, 1), (77, .invokevirtual 131, 3), (80, .i2l, 1), (81, .lastore, 1), (82, .aload_n 0, 1), (83, .getfield 28, 3), (86, .iconst 5, 1), (87, .aload_n 0, 1), (88, .iload_n 1, 1), (89, .invokevirtual 87, 3), (92, .invokestatic 95, 3), (95, .i2l, 1), (96, .lastore, 1), (97, .aload_n 0, 1), (98, .getfield 28, 3), (101, .bipush 6, 2), (103, .aload_n 0, 1), (104, .getfield 40, 3), (107, .i2l, 1), (108, .lastore, 1), (109, .return_, 1)]
theorem dt_X8_readNames : dOk cX8_readNames tb_X8_readNames = true := by decide +kernel
def fX8_readNames (tt : Nat) (h : Hp) (x1 : Int32) (x2 : Int32) : Option (Hp) := (dref shp h tt 0 (7, 20)).bind (fun z_1 => bnd (fX7_claimOf z_1 h x2) (fun v_3 h_4 => (dref shp h_4 tt 0 (7, 20)).bind (fun z_5 => bnd (fX0_weightOf (rf z_5 0) h_4 v_3) (fun v_7 h_8 => if inb (0 : Int32) 7 then ((dref shp (uJ h_8 (rf tt 9) (Int32.toNatClampNeg (0 : Int32)) (Int32.toInt64 v_7)) tt 0 (7, 20)).bind (fun z_9 => bnd (fX0_temperOf (rf z_9 0) (uJ h_8 (rf tt 9) (Int32.toNatClampNeg (0 : Int32)) (Int32.toInt64 v_7)) v_3) (fun v_11 h_12 => if inb (1 : Int32) 7 then (bnd (fX8_fullOf tt (uJ h_12 (rf tt 9) (Int32.toNatClampNeg (1 : Int32)) (Int32.toInt64 v_11)) x2) (fun v_13 h_14 => if inb (2 : Int32) 7 then (bnd (fX8_forceOf tt (uJ h_14 (rf tt 9) (Int32.toNatClampNeg (2 : Int32)) (Int32.toInt64 v_13)) x1 v_3) (fun v_15 h_16 => if inb (3 : Int32) 7 then (bnd (fX8_wonBy tt (uJ h_16 (rf tt 9) (Int32.toNatClampNeg (3 : Int32)) (Int32.toInt64 v_15)) x1) (fun v_17 h_18 => if inb (4 : Int32) 7 then (bnd (fX8_holdsOf tt (uJ h_18 (rf tt 9) (Int32.toNatClampNeg (4 : Int32)) (Int32.toInt64 v_17)) x1) (fun v_19 h_20 => bnd (fJ6_bitCount_0f7a4 h_20 v_19) (fun v_21 h_22 => if inb (5 : Int32) 7 then (if inb (6 : Int32) 7 then (some (uJ (uJ h_22 (rf tt 9) (Int32.toNatClampNeg (5 : Int32)) (Int32.toInt64 v_21)) (rf tt 9) (Int32.toNatClampNeg (6 : Int32)) (Int32.toInt64 (hI (uJ h_22 (rf tt 9) (Int32.toNatClampNeg (5 : Int32)) (Int32.toInt64 v_21)) tt 1)))) else none) else none))) else none)) else none)) else none)) else none))) else none))))
set_option maxRecDepth 100000 in
set_option maxHeartbeats 4000000 in
theorem c_X8_readNames {l : Launch} {sb : State} {D : va_G} {ids : Nat → ClassId} {n : Nat} (hN : 152 ≤ n) {tt : Nat} (ht : shp tt = (8, 15)) (h : Hp) (x1 : Int32) (x2 : Int32) (r : Hp) (hr : fX8_readNames tt h x1 x2 = some r) : jM l yX8_readNames cX8_readNames 4 none 2 sb D ids shp St n [.ref tt, .int x1, .int x2] h (jQv sb D ids shp St n r) := by
  refine jM_of hr rfl (Nat.le_of_ble_eq_true rfl) ?_
  intro p e s m args below meth c hC hret
  unfold fX8_readNames
  refine j_aload_n hC 0 rfl rfl (dOk_at dt_X8_readNames 0 rfl) ?_
  refine j_getD (q := (7, 20)) hC flX8_9 ht (jlt hN ht (by decide)) (by decide) (by decide) (fun _ _ _ => rfl) (dOk_at dt_X8_readNames 1 rfl) (fun z_1 _ g_2 => ?_)
  refine j_iload_n hC 2 rfl rfl (dOk_at dt_X8_readNames 2 rfl) ?_
  refine j_callVi hC clX8_115 (fun rz hrz => c_X7_claimOf hN (g_2) _ _ rz hrz) g_2 (jlt hN g_2 (by decide)) (by decide) rfl rfl ⟨Nat.le_of_ble_eq_true rfl, Nat.le_of_ble_eq_true rfl⟩ ⟨Nat.le_refl 0, Nat.le_refl 0⟩ (As := [.int x2]) (st := []) rfl (Nat.le_of_ble_eq_true rfl) (dOk_at dt_X8_readNames 3 rfl) (fun v_3 h_4 _ => ?_)
  refine j_istore_n hC rfl (lv' := [(3, .int v_3), (0, .ref tt), (1, .int x1), (2, .int x2)]) (by decide) rfl (dOk_at dt_X8_readNames 4 rfl) ?_
  refine j_aload_n hC 1 rfl rfl (dOk_at dt_X8_readNames 5 rfl) ?_
  refine j_getR hC flX8_28 ht (jlt hN ht (by decide)) (by decide) (by decide) (fun _ _ _ => rfl) (fun hs => hs _ _ _ (sf_8_9 ht).1) (dOk_at dt_X8_readNames 6 rfl) ?_
  refine j_iconst hC (v := (0 : Int32)) rfl (dOk_at dt_X8_readNames 7 rfl) ?_
  refine j_aload_n hC 1 rfl rfl (dOk_at dt_X8_readNames 8 rfl) ?_
  refine j_getD (q := (7, 20)) hC flX8_9 ht (jlt hN ht (by decide)) (by decide) (by decide) (fun _ _ _ => rfl) (dOk_at dt_X8_readNames 9 rfl) (fun z_5 _ g_6 => ?_)
  refine j_getR hC flX8_100 g_6 (jlt hN g_6 (by decide)) (by decide) (by decide) (fun _ _ _ => rfl) (fun hs => hs _ _ _ (sf_7_0 g_6).1) (dOk_at dt_X8_readNames 10 rfl) ?_
  refine j_iload_n hC 0 rfl rfl (dOk_at dt_X8_readNames 11 rfl) ?_
  refine j_callVi hC clX8_118 (fun rz hrz => c_X0_weightOf hN ((sf_7_0 g_6).2.1) _ _ rz hrz) (sf_7_0 g_6).2.1 (Nat.lt_of_lt_of_le (sf_7_0 g_6).2.2 hN) (by decide) rfl rfl ⟨Nat.le_of_ble_eq_true rfl, Nat.le_of_ble_eq_true rfl⟩ ⟨Nat.le_refl 0, Nat.le_refl 0⟩ (As := [.int v_3]) (st := [.int (0 : Int32), .ref (rf tt 9)]) rfl (Nat.le_of_ble_eq_true rfl) (dOk_at dt_X8_readNames 12 rfl) (fun v_7 h_8 _ => ?_)
  refine j_i2l hC (dOk_at dt_X8_readNames 13 rfl) ?_
  refine j_last hC St_SP (sf_8_9 ht).2.1 (Nat.lt_of_lt_of_le (sf_8_9 ht).2.2 hN) (dOk_at dt_X8_readNames 14 rfl) ?_
  refine j_aload_n hC 1 rfl rfl (dOk_at dt_X8_readNames 15 rfl) ?_
  refine j_getR hC flX8_28 ht (jlt hN ht (by decide)) (by decide) (by decide) (fun _ _ _ => rfl) (fun hs => hs _ _ _ (sf_8_9 ht).1) (dOk_at dt_X8_readNames 16 rfl) ?_
  refine j_iconst hC (v := (1 : Int32)) rfl (dOk_at dt_X8_readNames 17 rfl) ?_
  refine j_aload_n hC 1 rfl rfl (dOk_at dt_X8_readNames 18 rfl) ?_
  refine j_getD (q := (7, 20)) hC flX8_9 ht (jlt hN ht (by decide)) (by decide) (by decide) (fun _ _ _ => rfl) (dOk_at dt_X8_readNames 19 rfl) (fun z_9 _ g_10 => ?_)
  refine j_getR hC flX8_100 g_10 (jlt hN g_10 (by decide)) (by decide) (by decide) (fun _ _ _ => rfl) (fun hs => hs _ _ _ (sf_7_0 g_10).1) (dOk_at dt_X8_readNames 20 rfl) ?_
  refine j_iload_n hC 0 rfl rfl (dOk_at dt_X8_readNames 21 rfl) ?_
  refine j_callVi hC clX8_121 (fun rz hrz => c_X0_temperOf hN ((sf_7_0 g_10).2.1) _ _ rz hrz) (sf_7_0 g_10).2.1 (Nat.lt_of_lt_of_le (sf_7_0 g_10).2.2 hN) (by decide) rfl rfl ⟨Nat.le_of_ble_eq_true rfl, Nat.le_of_ble_eq_true rfl⟩ ⟨Nat.le_refl 0, Nat.le_refl 0⟩ (As := [.int v_3]) (st := [.int (1 : Int32), .ref (rf tt 9)]) rfl (Nat.le_of_ble_eq_true rfl) (dOk_at dt_X8_readNames 22 rfl) (fun v_11 h_12 _ => ?_)
  refine j_i2l hC (dOk_at dt_X8_readNames 23 rfl) ?_
  refine j_last hC St_SP (sf_8_9 ht).2.1 (Nat.lt_of_lt_of_le (sf_8_9 ht).2.2 hN) (dOk_at dt_X8_readNames 24 rfl) ?_
  refine j_aload_n hC 1 rfl rfl (dOk_at dt_X8_readNames 25 rfl) ?_
  refine j_getR hC flX8_28 ht (jlt hN ht (by decide)) (by decide) (by decide) (fun _ _ _ => rfl) (fun hs => hs _ _ _ (sf_8_9 ht).1) (dOk_at dt_X8_readNames 26 rfl) ?_
  refine j_iconst hC (v := (2 : Int32)) rfl (dOk_at dt_X8_readNames 27 rfl) ?_
  refine j_aload_n hC 1 rfl rfl (dOk_at dt_X8_readNames 28 rfl) ?_
  refine j_iload_n hC 3 rfl rfl (dOk_at dt_X8_readNames 29 rfl) ?_
  refine j_callVi hC clX8_124 (fun rz hrz => c_X8_fullOf hN (ht) _ _ rz hrz) ht (jlt hN ht (by decide)) (by decide) rfl rfl ⟨Nat.le_of_ble_eq_true rfl, Nat.le_of_ble_eq_true rfl⟩ ⟨Nat.le_refl 0, Nat.le_refl 0⟩ (As := [.int x2]) (st := [.int (2 : Int32), .ref (rf tt 9)]) rfl (Nat.le_of_ble_eq_true rfl) (dOk_at dt_X8_readNames 30 rfl) (fun v_13 h_14 _ => ?_)
  refine j_i2l hC (dOk_at dt_X8_readNames 31 rfl) ?_
  refine j_last hC St_SP (sf_8_9 ht).2.1 (Nat.lt_of_lt_of_le (sf_8_9 ht).2.2 hN) (dOk_at dt_X8_readNames 32 rfl) ?_
  refine j_aload_n hC 1 rfl rfl (dOk_at dt_X8_readNames 33 rfl) ?_
  refine j_getR hC flX8_28 ht (jlt hN ht (by decide)) (by decide) (by decide) (fun _ _ _ => rfl) (fun hs => hs _ _ _ (sf_8_9 ht).1) (dOk_at dt_X8_readNames 34 rfl) ?_
  refine j_iconst hC (v := (3 : Int32)) rfl (dOk_at dt_X8_readNames 35 rfl) ?_
  refine j_aload_n hC 1 rfl rfl (dOk_at dt_X8_readNames 36 rfl) ?_
  refine j_iload_n hC 2 rfl rfl (dOk_at dt_X8_readNames 37 rfl) ?_
  refine j_iload_n hC 0 rfl rfl (dOk_at dt_X8_readNames 38 rfl) ?_
  refine j_callVi hC clX8_127 (fun rz hrz => c_X8_forceOf hN (ht) _ _ _ rz hrz) ht (jlt hN ht (by decide)) (by decide) rfl rfl ⟨Nat.le_of_ble_eq_true rfl, Nat.le_of_ble_eq_true rfl⟩ ⟨Nat.le_refl 0, Nat.le_refl 0⟩ (As := [.int x1, .int v_3]) (st := [.int (3 : Int32), .ref (rf tt 9)]) rfl (Nat.le_of_ble_eq_true rfl) (dOk_at dt_X8_readNames 39 rfl) (fun v_15 h_16 _ => ?_)
  refine j_i2l hC (dOk_at dt_X8_readNames 40 rfl) ?_
  refine j_last hC St_SP (sf_8_9 ht).2.1 (Nat.lt_of_lt_of_le (sf_8_9 ht).2.2 hN) (dOk_at dt_X8_readNames 41 rfl) ?_
  refine j_aload_n hC 1 rfl rfl (dOk_at dt_X8_readNames 42 rfl) ?_
  refine j_getR hC flX8_28 ht (jlt hN ht (by decide)) (by decide) (by decide) (fun _ _ _ => rfl) (fun hs => hs _ _ _ (sf_8_9 ht).1) (dOk_at dt_X8_readNames 43 rfl) ?_
  refine j_iconst hC (v := (4 : Int32)) rfl (dOk_at dt_X8_readNames 44 rfl) ?_
  refine j_aload_n hC 1 rfl rfl (dOk_at dt_X8_readNames 45 rfl) ?_
  refine j_iload_n hC 2 rfl rfl (dOk_at dt_X8_readNames 46 rfl) ?_
  refine j_callVi hC clX8_131 (fun rz hrz => c_X8_wonBy hN (ht) _ _ rz hrz) ht (jlt hN ht (by decide)) (by decide) rfl rfl ⟨Nat.le_of_ble_eq_true rfl, Nat.le_of_ble_eq_true rfl⟩ ⟨Nat.le_refl 0, Nat.le_refl 0⟩ (As := [.int x1]) (st := [.int (4 : Int32), .ref (rf tt 9)]) rfl (Nat.le_of_ble_eq_true rfl) (dOk_at dt_X8_readNames 47 rfl) (fun v_17 h_18 _ => ?_)
  refine j_i2l hC (dOk_at dt_X8_readNames 48 rfl) ?_
  refine j_last hC St_SP (sf_8_9 ht).2.1 (Nat.lt_of_lt_of_le (sf_8_9 ht).2.2 hN) (dOk_at dt_X8_readNames 49 rfl) ?_
  refine j_aload_n hC 1 rfl rfl (dOk_at dt_X8_readNames 50 rfl) ?_
  refine j_getR hC flX8_28 ht (jlt hN ht (by decide)) (by decide) (by decide) (fun _ _ _ => rfl) (fun hs => hs _ _ _ (sf_8_9 ht).1) (dOk_at dt_X8_readNames 51 rfl) ?_
  refine j_iconst hC (v := (5 : Int32)) rfl (dOk_at dt_X8_readNames 52 rfl) ?_
  refine j_aload_n hC 1 rfl rfl (dOk_at dt_X8_readNames 53 rfl) ?_
  refine j_iload_n hC 2 rfl rfl (dOk_at dt_X8_readNames 54 rfl) ?_
  refine j_callVi hC clX8_87 (fun rz hrz => c_X8_holdsOf hN (ht) _ _ rz hrz) ht (jlt hN ht (by decide)) (by decide) rfl rfl ⟨Nat.le_of_ble_eq_true rfl, Nat.le_of_ble_eq_true rfl⟩ ⟨Nat.le_refl 0, Nat.le_refl 0⟩ (As := [.int x1]) (st := [.int (5 : Int32), .ref (rf tt 9)]) rfl (Nat.le_of_ble_eq_true rfl) (dOk_at dt_X8_readNames 55 rfl) (fun v_19 h_20 _ => ?_)
  refine j_callSi hC clX8_95 (fun rz hrz => c_J6_bitCount_0f7a4 hN _ _ rz hrz) rfl ⟨Nat.le_of_ble_eq_true rfl, Nat.le_of_ble_eq_true rfl⟩ ⟨Nat.le_refl 0, Nat.le_refl 0⟩ (As := [.int v_19]) (st := [.int (5 : Int32), .ref (rf tt 9)]) rfl (Nat.le_of_ble_eq_true rfl) (dOk_at dt_X8_readNames 56 rfl) (fun v_21 h_22 _ => ?_)
  refine j_i2l hC (dOk_at dt_X8_readNames 57 rfl) ?_
  refine j_last hC St_SP (sf_8_9 ht).2.1 (Nat.lt_of_lt_of_le (sf_8_9 ht).2.2 hN) (dOk_at dt_X8_readNames 58 rfl) ?_
  refine j_aload_n hC 1 rfl rfl (dOk_at dt_X8_readNames 59 rfl) ?_
  refine j_getR hC flX8_28 ht (jlt hN ht (by decide)) (by decide) (by decide) (fun _ _ _ => rfl) (fun hs => hs _ _ _ (sf_8_9 ht).1) (dOk_at dt_X8_readNames 60 rfl) ?_
  refine j_bipush hC (v := (6 : Int32)) rfl (dOk_at dt_X8_readNames 61 rfl) ?_
  refine j_aload_n hC 1 rfl rfl (dOk_at dt_X8_readNames 62 rfl) ?_
  refine j_getI hC flX8_40 ht (jlt hN ht (by decide)) (by decide) (by decide) (fun _ _ _ => rfl) (dOk_at dt_X8_readNames 63 rfl) ?_
  refine j_i2l hC (dOk_at dt_X8_readNames 64 rfl) ?_
  refine j_last hC St_SP (sf_8_9 ht).2.1 (Nat.lt_of_lt_of_le (sf_8_9 ht).2.2 hN) (dOk_at dt_X8_readNames 65 rfl) ?_
  exact j_vret hC hret (dOk_at dt_X8_readNames 66 rfl)
def tb_X8_boundLaw : List (Nat × Instr × Nat) := [(0, .iload_n 1, 1), (1, .ifCond .lt 23, 3), (4, .iload_n 1, 1), (5, .iconst 3, 1), (6, .if_icmp .ge 18, 3), (9, .aload_n 0, 1), (10, .getfield 9, 3), (13, .getfield 134, 3), (16, .iload_n 1, 1), (17, .aaload, 1), (18, .getfield 138, 3), (21, .ifCond .ne 6, 3), (24, .lload 4, 2), (26, .lreturn, 1), (27, .aload_n 0, 1), (28, .getfield 9, 3), (31, .getfield 134, 3), (34, .iload_n 1, 1), (35, .aaload, 1), (36, .aload_n 0, 1), (37, .getfield 28, 3), (40, .invokevirtual 145, 3), (43, .lstore 6, 2), (45, .lload 6, 2), (47, .ldc2_w 143, 3), (50, .lcmp, 1), (51, .ifCond .ne 6, 3), (54, .lload 4, 2), (56, .lreturn, 1), (57, .lload 6, 2), (59, .lconst 0, 1), (60, .lcmp, 1), (61, .ifCond .ge 7, 3), (64, .lconst 0, 1), (65, .goto 16, 3), (68, .lload 6, 2), (70, .lload_n 2, 1), (71, .lcmp, 1), (72, .ifCond .le 7, 3), (75, .lload_n 2, 1), (76, .goto 5, 3), (79, .lload 6, 2), (81, .lreturn, 1)]
theorem dt_X8_boundLaw : dOk cX8_boundLaw tb_X8_boundLaw = true := by decide +kernel
def fX8_boundLaw (tt : Nat) (h : Hp) (x1 : Int32) (x2 : Int64) (x4 : Int64) : Option (Int64 × Hp) := if x1 < 0 then (some (x4, h)) else (if (3 : Int32) ≤ x1 then (some (x4, h)) else ((dref shp h tt 0 (7, 20)).bind (fun z_3 => if inb x1 3 then (dref shp h (rf z_3 17) (Int32.toNatClampNeg x1) (1, 4)).bind (fun z_5 => if (hI h z_5 0) = 0 then (some (x4, h)) else ((dref shp h tt 0 (7, 20)).bind (fun z_8 => if inb x1 3 then (dref shp h (rf z_8 17) (Int32.toNatClampNeg x1) (1, 4)).bind (fun z_10 => bnd (fX1_value z_10 (rf tt 9) 7 h) (fun v_12 h_13 => if (lg_cmp v_12 (-9223372036854775808 : Int64)) = 0 then (some (x4, h_13)) else (if 0 ≤ (lg_cmp v_12 (0 : Int64)) then (if (lg_cmp v_12 x2) ≤ 0 then (some (v_12, h_13)) else (some (x2, h_13))) else (some ((0 : Int64), h_13))))) else none))) else none)))
set_option maxRecDepth 100000 in
set_option maxHeartbeats 4000000 in
theorem c_X8_boundLaw {l : Launch} {sb : State} {D : va_G} {ids : Nat → ClassId} {n : Nat} (hN : 152 ≤ n) {tt : Nat} (ht : shp tt = (8, 15)) (h : Hp) (x1 : Int32) (x2 : Int64) (x4 : Int64) (r : Int64 × Hp) (hr : fX8_boundLaw tt h x1 x2 x4 = some r) : jM l yX8_boundLaw cX8_boundLaw 8 (some .long) 2 sb D ids shp St n [.ref tt, .int x1, .long x2, .long x4] h (jQl sb D ids shp St n r) := by
  refine jM_of hr rfl (Nat.le_of_ble_eq_true rfl) ?_
  intro p e s m args below meth c hC hret
  unfold fX8_boundLaw
  refine j_iload_n hC 1 rfl rfl (dOk_at dt_X8_boundLaw 0 rfl) ?_
  refine j_if_lt hC (tgt := 24) (by decide) (dOk_at dt_X8_boundLaw 1 rfl) (fun q_1 => ?_) (fun q_1 => ?_)
  · refine j_lload hC 3 rfl (dOk_at dt_X8_boundLaw 12 rfl) ?_
    exact j_lret hC hret (dOk_at dt_X8_boundLaw 13 rfl)
  · refine j_iload_n hC 1 rfl rfl (dOk_at dt_X8_boundLaw 2 rfl) ?_
    refine j_iconst hC (v := (3 : Int32)) rfl (dOk_at dt_X8_boundLaw 3 rfl) ?_
    refine j_icmp_ge hC (tgt := 24) (by decide) (dOk_at dt_X8_boundLaw 4 rfl) (fun q_2 => ?_) (fun q_2 => ?_)
    · refine j_lload hC 3 rfl (dOk_at dt_X8_boundLaw 12 rfl) ?_
      exact j_lret hC hret (dOk_at dt_X8_boundLaw 13 rfl)
    · refine j_aload_n hC 0 rfl rfl (dOk_at dt_X8_boundLaw 5 rfl) ?_
      refine j_getD (q := (7, 20)) hC flX8_9 ht (jlt hN ht (by decide)) (by decide) (by decide) (fun _ _ _ => rfl) (dOk_at dt_X8_boundLaw 6 rfl) (fun z_3 _ g_4 => ?_)
      refine j_getR hC flX8_134 g_4 (jlt hN g_4 (by decide)) (by decide) (by decide) (fun _ _ _ => rfl) (fun hs => hs _ _ _ (sf_7_17 g_4).1) (dOk_at dt_X8_boundLaw 7 rfl) ?_
      refine j_iload_n hC 1 rfl rfl (dOk_at dt_X8_boundLaw 8 rfl) ?_
      refine j_aald (q := (1, 4)) hC (sf_7_17 g_4).2.1 (Nat.lt_of_lt_of_le (sf_7_17 g_4).2.2 hN) (dOk_at dt_X8_boundLaw 9 rfl) (fun z_5 _ g_6 => ?_)
      refine j_getI hC flX8_138 g_6 (jlt hN g_6 (by decide)) (by decide) (by decide) (fun _ _ _ => rfl) (dOk_at dt_X8_boundLaw 10 rfl) ?_
      refine j_if_ne hC (tgt := 27) (by decide) (dOk_at dt_X8_boundLaw 11 rfl) (fun q_7 => ?_) (fun q_7 => ?_)
      · refine j_aload_n hC 0 rfl rfl (dOk_at dt_X8_boundLaw 14 rfl) ?_
        refine j_getD (q := (7, 20)) hC flX8_9 ht (jlt hN ht (by decide)) (by decide) (by decide) (fun _ _ _ => rfl) (dOk_at dt_X8_boundLaw 15 rfl) (fun z_8 _ g_9 => ?_)
        refine j_getR hC flX8_134 g_9 (jlt hN g_9 (by decide)) (by decide) (by decide) (fun _ _ _ => rfl) (fun hs => hs _ _ _ (sf_7_17 g_9).1) (dOk_at dt_X8_boundLaw 16 rfl) ?_
        refine j_iload_n hC 1 rfl rfl (dOk_at dt_X8_boundLaw 17 rfl) ?_
        refine j_aald (q := (1, 4)) hC (sf_7_17 g_9).2.1 (Nat.lt_of_lt_of_le (sf_7_17 g_9).2.2 hN) (dOk_at dt_X8_boundLaw 18 rfl) (fun z_10 _ g_11 => ?_)
        refine j_aload_n hC 0 rfl rfl (dOk_at dt_X8_boundLaw 19 rfl) ?_
        refine j_getR hC flX8_28 ht (jlt hN ht (by decide)) (by decide) (by decide) (fun _ _ _ => rfl) (fun hs => hs _ _ _ (sf_8_9 ht).1) (dOk_at dt_X8_boundLaw 20 rfl) ?_
        refine j_callVl hC clX8_145 (fun rz hrz => c_X1_value hN (g_11) ((sf_8_9 ht).2.1) _ rz hrz) g_11 (jlt hN g_11 (by decide)) (by decide) rfl rfl ⟨Nat.le_of_ble_eq_true rfl, Nat.le_of_ble_eq_true rfl⟩ ⟨Nat.le_refl 0, Nat.le_refl 0⟩ (As := [.ref (rf tt 9)]) (st := []) rfl (Nat.le_of_ble_eq_true rfl) (dOk_at dt_X8_boundLaw 21 rfl) (fun v_12 h_13 _ => ?_)
        refine j_lstore hC (lv' := [(6, .long v_12), (0, .ref tt), (1, .int x1), (2, .long x2), (4, .long x4)]) (by decide) rfl (dOk_at dt_X8_boundLaw 22 rfl) ?_
        refine j_lload hC 0 rfl (dOk_at dt_X8_boundLaw 23 rfl) ?_
        refine j_ldc2 hC klX8_143 (dOk_at dt_X8_boundLaw 24 rfl) ?_
        refine j_lcmp hC (dOk_at dt_X8_boundLaw 25 rfl) ?_
        refine j_if_ne hC (tgt := 57) (by decide) (dOk_at dt_X8_boundLaw 26 rfl) (fun q_14 => ?_) (fun q_14 => ?_)
        · refine j_lload hC 0 rfl (dOk_at dt_X8_boundLaw 29 rfl) ?_
          refine j_lconst hC (v := (0 : Int64)) rfl (dOk_at dt_X8_boundLaw 30 rfl) ?_
          refine j_lcmp hC (dOk_at dt_X8_boundLaw 31 rfl) ?_
          refine j_if_ge hC (tgt := 68) (by decide) (dOk_at dt_X8_boundLaw 32 rfl) (fun q_15 => ?_) (fun q_15 => ?_)
          · refine j_lload hC 0 rfl (dOk_at dt_X8_boundLaw 35 rfl) ?_
            refine j_lload_n hC 3 rfl rfl (dOk_at dt_X8_boundLaw 36 rfl) ?_
            refine j_lcmp hC (dOk_at dt_X8_boundLaw 37 rfl) ?_
            refine j_if_le hC (tgt := 79) (by decide) (dOk_at dt_X8_boundLaw 38 rfl) (fun q_16 => ?_) (fun q_16 => ?_)
            · refine j_lload hC 0 rfl (dOk_at dt_X8_boundLaw 41 rfl) ?_
              exact j_lret hC hret (dOk_at dt_X8_boundLaw 42 rfl)
            · refine j_lload_n hC 3 rfl rfl (dOk_at dt_X8_boundLaw 39 rfl) ?_
              refine j_goto hC (tgt := 81) (by decide) (dOk_at dt_X8_boundLaw 40 rfl) ?_
              exact j_lret hC hret (dOk_at dt_X8_boundLaw 42 rfl)
          · refine j_lconst hC (v := (0 : Int64)) rfl (dOk_at dt_X8_boundLaw 33 rfl) ?_
            refine j_goto hC (tgt := 81) (by decide) (dOk_at dt_X8_boundLaw 34 rfl) ?_
            exact j_lret hC hret (dOk_at dt_X8_boundLaw 42 rfl)
        · refine j_lload hC 4 rfl (dOk_at dt_X8_boundLaw 27 rfl) ?_
          exact j_lret hC hret (dOk_at dt_X8_boundLaw 28 rfl)
      · refine j_lload hC 3 rfl (dOk_at dt_X8_boundLaw 12 rfl) ?_
        exact j_lret hC hret (dOk_at dt_X8_boundLaw 13 rfl)
def tb_X8_winsNow : List (Nat × Instr × Nat) := [(0, .aload_n 0, 1), (1, .iload_n 1, 1), (2, .iload_n 2, 1), (3, .invokevirtual 149, 3), (6, .aload_n 0, 1), (7, .getfield 28, 3), (10, .iconst 0, 1), (11, .laload, 1), (12, .aload_n 0, 1), (13, .getfield 28, 3), (16, .iconst 2, 1), (17, .laload, 1), (18, .lmul, 1), (19, .ldc2_w 153, 3), (22, .ldiv, 1), (23, .lstore_n 3, 1), (24, .aload_n 0, 1), (25, .getfield 28, 3), (28, .iconst 3, 1), (29, .laload, 1), (30, .aload_n 0, 1), (31, .iconst 0, 1), (32, .ldc2_w 155, 3), (35, .lload_n 3, 1), (36, .invokevirtual 157, 3), (39, .lcmp, 1), (40, .ifCond .le 7, 3), (43, .iconst 1, 1), (44, .goto 4, 3), (47, .iconst 0, 1), (48, .ireturn, 1)]
theorem dt_X8_winsNow : dOk cX8_winsNow tb_X8_winsNow = true := by decide +kernel
def fX8_winsNow (tt : Nat) (h : Hp) (x1 : Int32) (x2 : Int32) : Option (Int32 × Hp) := (fX8_readNames tt h x1 x2).bind (fun h_2 => if inb (0 : Int32) 7 then (if inb (2 : Int32) 7 then (if inb (3 : Int32) 7 then (bnd (fX8_boundLaw tt h_2 (0 : Int32) (999 : Int64) (((hJ h_2 (rf tt 9) (Int32.toNatClampNeg (0 : Int32))) * (hJ h_2 (rf tt 9) (Int32.toNatClampNeg (2 : Int32)))) / (100 : Int64))) (fun v_3 h_4 => if (lg_cmp (hJ h_2 (rf tt 9) (Int32.toNatClampNeg (3 : Int32))) v_3) ≤ 0 then (some ((0 : Int32), h_4)) else (some ((1 : Int32), h_4)))) else none) else none) else none)
set_option maxRecDepth 100000 in
set_option maxHeartbeats 4000000 in
theorem c_X8_winsNow {l : Launch} {sb : State} {D : va_G} {ids : Nat → ClassId} {n : Nat} (hN : 152 ≤ n) {tt : Nat} (ht : shp tt = (8, 15)) (h : Hp) (x1 : Int32) (x2 : Int32) (r : Int32 × Hp) (hr : fX8_winsNow tt h x1 x2 = some r) : jM l yX8_winsNow cX8_winsNow 5 (some .boolean) 3 sb D ids shp St n [.ref tt, .int x1, .int x2] h (jQi sb D ids shp St n r) := by
  refine jM_of hr rfl (Nat.le_of_ble_eq_true rfl) ?_
  intro p e s m args below meth c hC hret
  unfold fX8_winsNow
  refine j_aload_n hC 0 rfl rfl (dOk_at dt_X8_winsNow 0 rfl) ?_
  refine j_iload_n hC 1 rfl rfl (dOk_at dt_X8_winsNow 1 rfl) ?_
  refine j_iload_n hC 2 rfl rfl (dOk_at dt_X8_winsNow 2 rfl) ?_
  refine j_callVv hC clX8_149 (fun rz hrz => c_X8_readNames hN (ht) _ _ _ rz hrz) ht (jlt hN ht (by decide)) (by decide) rfl rfl ⟨Nat.le_of_ble_eq_true rfl, Nat.le_of_ble_eq_true rfl⟩ ⟨Nat.le_refl 0, Nat.le_refl 0⟩ (As := [.int x1, .int x2]) (st := []) rfl (Nat.le_of_ble_eq_true rfl) (dOk_at dt_X8_winsNow 3 rfl) (fun h_2 _ => ?_)
  refine j_aload_n hC 0 rfl rfl (dOk_at dt_X8_winsNow 4 rfl) ?_
  refine j_getR hC flX8_28 ht (jlt hN ht (by decide)) (by decide) (by decide) (fun _ _ _ => rfl) (fun hs => hs _ _ _ (sf_8_9 ht).1) (dOk_at dt_X8_winsNow 5 rfl) ?_
  refine j_iconst hC (v := (0 : Int32)) rfl (dOk_at dt_X8_winsNow 6 rfl) ?_
  refine j_lald hC (sf_8_9 ht).2.1 (Nat.lt_of_lt_of_le (sf_8_9 ht).2.2 hN) (dOk_at dt_X8_winsNow 7 rfl) ?_
  refine j_aload_n hC 0 rfl rfl (dOk_at dt_X8_winsNow 8 rfl) ?_
  refine j_getR hC flX8_28 ht (jlt hN ht (by decide)) (by decide) (by decide) (fun _ _ _ => rfl) (fun hs => hs _ _ _ (sf_8_9 ht).1) (dOk_at dt_X8_winsNow 9 rfl) ?_
  refine j_iconst hC (v := (2 : Int32)) rfl (dOk_at dt_X8_winsNow 10 rfl) ?_
  refine j_lald hC (sf_8_9 ht).2.1 (Nat.lt_of_lt_of_le (sf_8_9 ht).2.2 hN) (dOk_at dt_X8_winsNow 11 rfl) ?_
  refine j_lmul hC (dOk_at dt_X8_winsNow 12 rfl) ?_
  refine j_ldc2 hC klX8_153 (dOk_at dt_X8_winsNow 13 rfl) ?_
  refine j_ldivK hC (by decide) (dOk_at dt_X8_winsNow 14 rfl) ?_
  refine j_lstore_n hC rfl (lv' := [(3, .long (((hJ h_2 (rf tt 9) (Int32.toNatClampNeg (0 : Int32))) * (hJ h_2 (rf tt 9) (Int32.toNatClampNeg (2 : Int32)))) / (100 : Int64))), (0, .ref tt), (1, .int x1), (2, .int x2)]) (by decide) rfl (dOk_at dt_X8_winsNow 15 rfl) ?_
  refine j_aload_n hC 1 rfl rfl (dOk_at dt_X8_winsNow 16 rfl) ?_
  refine j_getR hC flX8_28 ht (jlt hN ht (by decide)) (by decide) (by decide) (fun _ _ _ => rfl) (fun hs => hs _ _ _ (sf_8_9 ht).1) (dOk_at dt_X8_winsNow 17 rfl) ?_
  refine j_iconst hC (v := (3 : Int32)) rfl (dOk_at dt_X8_winsNow 18 rfl) ?_
  refine j_lald hC (sf_8_9 ht).2.1 (Nat.lt_of_lt_of_le (sf_8_9 ht).2.2 hN) (dOk_at dt_X8_winsNow 19 rfl) ?_
  refine j_aload_n hC 1 rfl rfl (dOk_at dt_X8_winsNow 20 rfl) ?_
  refine j_iconst hC (v := (0 : Int32)) rfl (dOk_at dt_X8_winsNow 21 rfl) ?_
  refine j_ldc2 hC klX8_155 (dOk_at dt_X8_winsNow 22 rfl) ?_
  refine j_lload_n hC 0 rfl rfl (dOk_at dt_X8_winsNow 23 rfl) ?_
  refine j_callVl hC clX8_157 (fun rz hrz => c_X8_boundLaw hN (ht) _ _ _ _ rz hrz) ht (jlt hN ht (by decide)) (by decide) rfl rfl ⟨Nat.le_of_ble_eq_true rfl, Nat.le_of_ble_eq_true rfl⟩ ⟨Nat.le_refl 0, Nat.le_refl 0⟩ (As := [.int (0 : Int32), .long (999 : Int64), .long (((hJ h_2 (rf tt 9) (Int32.toNatClampNeg (0 : Int32))) * (hJ h_2 (rf tt 9) (Int32.toNatClampNeg (2 : Int32)))) / (100 : Int64))]) (st := [.long (hJ h_2 (rf tt 9) (Int32.toNatClampNeg (3 : Int32)))]) rfl (Nat.le_of_ble_eq_true rfl) (dOk_at dt_X8_winsNow 24 rfl) (fun v_3 h_4 _ => ?_)
  refine j_lcmp hC (dOk_at dt_X8_winsNow 25 rfl) ?_
  refine j_if_le hC (tgt := 47) (by decide) (dOk_at dt_X8_winsNow 26 rfl) (fun q_5 => ?_) (fun q_5 => ?_)
  · refine j_iconst hC (v := (0 : Int32)) rfl (dOk_at dt_X8_winsNow 29 rfl) ?_
    exact j_zretK hC hret rfl (dOk_at dt_X8_winsNow 30 rfl)
  · refine j_iconst hC (v := (1 : Int32)) rfl (dOk_at dt_X8_winsNow 27 rfl) ?_
    refine j_goto hC (tgt := 48) (by decide) (dOk_at dt_X8_winsNow 28 rfl) ?_
    exact j_zretK hC hret rfl (dOk_at dt_X8_winsNow 30 rfl)
def tb_X3_beatableBy : List (Nat × Instr × Nat) := [(0, .iconst 0, 1), (1, .istore_n 3, 1), (2, .iconst 0, 1), (3, .istore 4, 2), (5, .iload 4, 2), (7, .aload_n 1, 1), (8, .getfield 25, 3), (11, .getfield 56, 3), (14, .getfield 37, 3), (17, .if_icmp .ge 35, 3), (20, .aload_n 1, 1), (21, .iload 4, 2), (23, .invokevirtual 58, 3), (26, .ifCond .ne 20, 3), (29, .aload_n 1, 1), (30, .iload_n 2, 1), (31, .iload 4, 2), (33, .invokevirtual 62, 3), (36, .ifCond .eq 10, 3), (39, .iload_n 3, 1), (40, .iconst 1, 1), (41, .iload 4, 2), (43, .ishl, 1), (44, .ior, 1), (45, .istore_n 3, 1), (46, .iinc 4 1, 3), (49, .goto (-44), 3), (52, .iload_n 3, 1), (53, .ireturn, 1)]
theorem dt_X3_beatableBy : dOk cX3_beatableBy tb_X3_beatableBy = true := by decide +kernel
def fX3_beatableBy_46 (r1 : Nat) (rec5 : Hp → Int32 → Int32 → Int32 → Option (Int32 × Hp)) (h : Hp) (x2 : Int32) (x3 : Int32) (x4 : Int32) : Option (Int32 × Hp) := rec5 h x2 x3 (x4 + (1 : Int32))
def fX3_beatableBy_5 : Nat → (Nat) → Hp → Int32 → Int32 → Int32 → Option (Int32 × Hp)
  | 0, _, _, _, _, _ => none
  | fu + 1, r1, h, x2, x3, x4 => (dref shp h r1 0 (7, 20)).bind (fun z_1 => if (hI h (rf z_1 1) 2) ≤ x4 then (some (x3, h)) else (bnd (fX8_inShed r1 h x4) (fun v_4 h_5 => if v_4 = 0 then (bnd (fX8_winsNow r1 h_5 x2 x4) (fun v_7 h_8 => if v_7 = 0 then (fX3_beatableBy_46 r1 (fX3_beatableBy_5 fu r1) h_8 x2 x3 x4) else (fX3_beatableBy_46 r1 (fX3_beatableBy_5 fu r1) h_8 x2 (x3 ||| ((1 : Int32) <<< (x4 &&& 31))) x4))) else (fX3_beatableBy_46 r1 (fX3_beatableBy_5 fu r1) h_5 x2 x3 x4))))
def fX3_beatableBy (r1 : Nat) (h : Hp) (x2 : Int32) : Option (Int32 × Hp) := fX3_beatableBy_5 FU r1 h x2 (0 : Int32) (0 : Int32)
set_option maxRecDepth 100000 in
set_option maxHeartbeats 4000000 in
theorem c_X3_beatableBy {l : Launch} {sb : State} {D : va_G} {ids : Nat → ClassId} {n : Nat} (hN : 152 ≤ n) {r1 : Nat} (h1 : shp r1 = (8, 15)) (h : Hp) (x2 : Int32) (r : Int32 × Hp) (hr : fX3_beatableBy r1 h x2 = some r) : jM l yX3_beatableBy cX3_beatableBy 5 (some .int) 4 sb D ids shp St n [.ref 103, .ref r1, .int x2] h (jQi sb D ids shp St n r) := by
  refine jM_of hr rfl (Nat.le_of_ble_eq_true rfl) ?_
  intro p e s m args below meth c hC hret
  have b46 : ∀ (rec5 : Hp → Int32 → Int32 → Int32 → Option (Int32 × Hp)) (hrec5 : ∀ (h : Hp) (x2 : Int32) (x3 : Int32) (x4 : Int32) , jJ p l e (rmD 4) s m args below meth c 5 sb D ids shp St (fun r => MQ below (jQi sb D ids shp St n r) args s 0 0 (jA sb)) n 0 0 h 5 [(1, .ref r1), (2, .int x2), (3, .int x3), (4, .int x4)] [] (rec5 h x2 x3 x4)) (h : Hp) (x2 : Int32) (x3 : Int32) (x4 : Int32) , jJ p l e (rmD 4) s m args below meth c 5 sb D ids shp St (fun r => MQ below (jQi sb D ids shp St n r) args s 0 0 (jA sb)) n 0 0 h 46 [(1, .ref r1), (2, .int x2), (3, .int x3), (4, .int x4)] [] (fX3_beatableBy_46 r1 rec5 h x2 x3 x4) := by
    intro rec5 hrec5 h x2 x3 x4 
    unfold fX3_beatableBy_46
    refine j_iinc hC (v := (x4 + (1 : Int32))) (lv' := [(4, .int (x4 + (1 : Int32))), (1, .ref r1), (2, .int x2), (3, .int x3)]) 3 rfl (congrArg (fun z => x4 + z) (show Int32.ofInt (1) = (1 : Int32) from by decide)) (by decide) rfl (dOk_at dt_X3_beatableBy 25 rfl) ?_
    refine j_goto hC (tgt := 5) (by decide) (dOk_at dt_X3_beatableBy 26 rfl) ?_
    refine j_sub [1, 2, 3, 0] rfl ?_
    exact hrec5 h x2 x3 (x4 + (1 : Int32)) 
  have b5 : ∀ (fu : Nat) (h : Hp) (x2 : Int32) (x3 : Int32) (x4 : Int32) , jJ p l e (rmD 4) s m args below meth c 5 sb D ids shp St (fun r => MQ below (jQi sb D ids shp St n r) args s 0 0 (jA sb)) n 0 0 h 5 [(1, .ref r1), (2, .int x2), (3, .int x3), (4, .int x4)] [] (fX3_beatableBy_5 fu r1 h x2 x3 x4) := by
    intro fu 
    induction fu with
    | zero => intro h x2 x3 x4 ; exact j_none
    | succ fu ih =>
    intro h x2 x3 x4 
    rw [fX3_beatableBy_5]
    refine j_iload hC 3 rfl (dOk_at dt_X3_beatableBy 4 rfl) ?_
    refine j_aload_n hC 0 rfl rfl (dOk_at dt_X3_beatableBy 5 rfl) ?_
    refine j_getD (q := (7, 20)) hC flX3_25 h1 (jlt hN h1 (by decide)) (by decide) (by decide) (fun _ _ _ => rfl) (dOk_at dt_X3_beatableBy 6 rfl) (fun z_1 _ g_2 => ?_)
    refine j_getR hC flX3_56 g_2 (jlt hN g_2 (by decide)) (by decide) (by decide) (fun _ _ _ => rfl) (fun hs => hs _ _ _ (sf_7_1 g_2).1) (dOk_at dt_X3_beatableBy 7 rfl) ?_
    refine j_getI hC flX3_37 (sf_7_1 g_2).2.1 (Nat.lt_of_lt_of_le (sf_7_1 g_2).2.2 hN) (by decide) (by decide) (fun _ _ _ => rfl) (dOk_at dt_X3_beatableBy 8 rfl) ?_
    refine j_icmp_ge hC (tgt := 52) (by decide) (dOk_at dt_X3_beatableBy 9 rfl) (fun q_3 => ?_) (fun q_3 => ?_)
    · refine j_iload_n hC 2 rfl rfl (dOk_at dt_X3_beatableBy 27 rfl) ?_
      exact j_iret hC hret (dOk_at dt_X3_beatableBy 28 rfl)
    · refine j_aload_n hC 0 rfl rfl (dOk_at dt_X3_beatableBy 10 rfl) ?_
      refine j_iload hC 3 rfl (dOk_at dt_X3_beatableBy 11 rfl) ?_
      refine j_callVi hC clX3_58 (fun rz hrz => c_X8_inShed hN (h1) _ _ rz hrz) h1 (jlt hN h1 (by decide)) (by decide) rfl rfl ⟨Nat.le_of_ble_eq_true rfl, Nat.le_of_ble_eq_true rfl⟩ ⟨Nat.le_refl 0, Nat.le_refl 0⟩ (As := [.int x4]) (st := []) rfl (Nat.le_of_ble_eq_true rfl) (dOk_at dt_X3_beatableBy 12 rfl) (fun v_4 h_5 _ => ?_)
      refine j_if_ne hC (tgt := 46) (by decide) (dOk_at dt_X3_beatableBy 13 rfl) (fun q_6 => ?_) (fun q_6 => ?_)
      · exact b46 (fX3_beatableBy_5 fu r1) ih h_5 x2 x3 x4 
      · refine j_aload_n hC 0 rfl rfl (dOk_at dt_X3_beatableBy 14 rfl) ?_
        refine j_iload_n hC 1 rfl rfl (dOk_at dt_X3_beatableBy 15 rfl) ?_
        refine j_iload hC 3 rfl (dOk_at dt_X3_beatableBy 16 rfl) ?_
        refine j_callVi hC clX3_62 (fun rz hrz => c_X8_winsNow hN (h1) _ _ _ rz hrz) h1 (jlt hN h1 (by decide)) (by decide) rfl rfl ⟨Nat.le_of_ble_eq_true rfl, Nat.le_of_ble_eq_true rfl⟩ ⟨Nat.le_refl 0, Nat.le_refl 0⟩ (As := [.int x2, .int x4]) (st := []) rfl (Nat.le_of_ble_eq_true rfl) (dOk_at dt_X3_beatableBy 17 rfl) (fun v_7 h_8 _ => ?_)
        refine j_if_eq hC (tgt := 46) (by decide) (dOk_at dt_X3_beatableBy 18 rfl) (fun q_9 => ?_) (fun q_9 => ?_)
        · exact b46 (fX3_beatableBy_5 fu r1) ih h_8 x2 x3 x4 
        · refine j_iload_n hC 2 rfl rfl (dOk_at dt_X3_beatableBy 19 rfl) ?_
          refine j_iconst hC (v := (1 : Int32)) rfl (dOk_at dt_X3_beatableBy 20 rfl) ?_
          refine j_iload hC 3 rfl (dOk_at dt_X3_beatableBy 21 rfl) ?_
          refine j_ishl hC (dOk_at dt_X3_beatableBy 22 rfl) ?_
          refine j_ior hC (dOk_at dt_X3_beatableBy 23 rfl) ?_
          refine j_istore_n hC rfl (lv' := [(3, .int (x3 ||| ((1 : Int32) <<< (x4 &&& 31)))), (1, .ref r1), (2, .int x2), (4, .int x4)]) (by decide) rfl (dOk_at dt_X3_beatableBy 24 rfl) ?_
          refine j_sub [1, 2, 0, 3] rfl ?_
          exact b46 (fX3_beatableBy_5 fu r1) ih h_8 x2 (x3 ||| ((1 : Int32) <<< (x4 &&& 31))) x4 
  unfold fX3_beatableBy
  refine j_iconst hC (v := (0 : Int32)) rfl (dOk_at dt_X3_beatableBy 0 rfl) ?_
  refine j_istore_n hC rfl (lv' := [(3, .int (0 : Int32)), (0, .ref 103), (1, .ref r1), (2, .int x2)]) (by decide) rfl (dOk_at dt_X3_beatableBy 1 rfl) ?_
  refine j_iconst hC (v := (0 : Int32)) rfl (dOk_at dt_X3_beatableBy 2 rfl) ?_
  refine j_istore hC (lv' := [(4, .int (0 : Int32)), (3, .int (0 : Int32)), (0, .ref 103), (1, .ref r1), (2, .int x2)]) (by decide) rfl (dOk_at dt_X3_beatableBy 3 rfl) ?_
  refine j_sub [3, 4, 1, 0] rfl ?_
  exact b5 FU h x2 (0 : Int32) (0 : Int32) 
def tb_X3_pairsFrom : List (Nat × Instr × Nat) := [(0, .iload_n 1, 1), (1, .iconst 5, 1), (2, .ishl, 1), (3, .iload_n 2, 1), (4, .ior, 1), (5, .istore_n 3, 1), (6, .iload_n 3, 1), (7, .ifCond .lt 21, 3), (10, .iload_n 3, 1), (11, .aload_n 0, 1), (12, .getfield 22, 3), (15, .arraylength, 1), (16, .if_icmp .ge 12, 3), (19, .aload_n 0, 1), (20, .getfield 22, 3), (23, .iload_n 3, 1), (24, .iaload, 1), (25, .goto 4, 3), (28, .iconst 0, 1), (29, .ireturn, 1)]
theorem dt_X3_pairsFrom : dOk cX3_pairsFrom tb_X3_pairsFrom = true := by decide +kernel
def fX3_pairsFrom (h : Hp) (x1 : Int32) (x2 : Int32) : Option (Int32 × Hp) := if ((x1 <<< ((5 : Int32) &&& 31)) ||| x2) < 0 then (some ((0 : Int32), h)) else (if (192 : Int32) ≤ ((x1 <<< ((5 : Int32) &&& 31)) ||| x2) then (some ((0 : Int32), h)) else (if inb ((x1 <<< ((5 : Int32) &&& 31)) ||| x2) 192 then (some ((hI h 106 (Int32.toNatClampNeg ((x1 <<< ((5 : Int32) &&& 31)) ||| x2))), h)) else none))
set_option maxRecDepth 100000 in
set_option maxHeartbeats 4000000 in
theorem c_X3_pairsFrom {l : Launch} {sb : State} {D : va_G} {ids : Nat → ClassId} {n : Nat} (hN : 152 ≤ n) (h : Hp) (x1 : Int32) (x2 : Int32) (r : Int32 × Hp) (hr : fX3_pairsFrom h x1 x2 = some r) : jM l yX3_pairsFrom cX3_pairsFrom 4 (some .int) 0 sb D ids shp St n [.ref 103, .int x1, .int x2] h (jQi sb D ids shp St n r) := by
  refine jM_of hr rfl (Nat.le_of_ble_eq_true rfl) ?_
  intro p e s m args below meth c hC hret
  unfold fX3_pairsFrom
  refine j_iload_n hC 1 rfl rfl (dOk_at dt_X3_pairsFrom 0 rfl) ?_
  refine j_iconst hC (v := (5 : Int32)) rfl (dOk_at dt_X3_pairsFrom 1 rfl) ?_
  refine j_ishl hC (dOk_at dt_X3_pairsFrom 2 rfl) ?_
  refine j_iload_n hC 2 rfl rfl (dOk_at dt_X3_pairsFrom 3 rfl) ?_
  refine j_ior hC (dOk_at dt_X3_pairsFrom 4 rfl) ?_
  refine j_istore_n hC rfl (lv' := [(3, .int ((x1 <<< ((5 : Int32) &&& 31)) ||| x2)), (0, .ref 103), (1, .int x1), (2, .int x2)]) (by decide) rfl (dOk_at dt_X3_pairsFrom 5 rfl) ?_
  refine j_iload_n hC 0 rfl rfl (dOk_at dt_X3_pairsFrom 6 rfl) ?_
  refine j_if_lt hC (tgt := 28) (by decide) (dOk_at dt_X3_pairsFrom 7 rfl) (fun q_1 => ?_) (fun q_1 => ?_)
  · refine j_iconst hC (v := (0 : Int32)) rfl (dOk_at dt_X3_pairsFrom 18 rfl) ?_
    exact j_iret hC hret (dOk_at dt_X3_pairsFrom 19 rfl)
  · refine j_iload_n hC 0 rfl rfl (dOk_at dt_X3_pairsFrom 8 rfl) ?_
    refine j_aload_n hC 1 rfl rfl (dOk_at dt_X3_pairsFrom 9 rfl) ?_
    refine j_getR hC flX3_22 (show shp 103 = (3, 4) from rfl) (Nat.lt_of_lt_of_le (Nat.le_of_ble_eq_true rfl : 103 < 152) hN) (by decide) (by decide) (fun _ _ _ => rfl) (fun hs => hs 103 3 106 rfl) (dOk_at dt_X3_pairsFrom 10 rfl) ?_
    refine j_alen hC (v := (192 : Int32)) (show shp 106 = (21, 192) from rfl) (Nat.lt_of_lt_of_le (Nat.le_of_ble_eq_true rfl : 106 < 152) hN) (by decide) rfl (dOk_at dt_X3_pairsFrom 11 rfl) ?_
    refine j_icmp_ge hC (tgt := 28) (by decide) (dOk_at dt_X3_pairsFrom 12 rfl) (fun q_2 => ?_) (fun q_2 => ?_)
    · refine j_iconst hC (v := (0 : Int32)) rfl (dOk_at dt_X3_pairsFrom 18 rfl) ?_
      exact j_iret hC hret (dOk_at dt_X3_pairsFrom 19 rfl)
    · refine j_aload_n hC 1 rfl rfl (dOk_at dt_X3_pairsFrom 13 rfl) ?_
      refine j_getR hC flX3_22 (show shp 103 = (3, 4) from rfl) (Nat.lt_of_lt_of_le (Nat.le_of_ble_eq_true rfl : 103 < 152) hN) (by decide) (by decide) (fun _ _ _ => rfl) (fun hs => hs 103 3 106 rfl) (dOk_at dt_X3_pairsFrom 14 rfl) ?_
      refine j_iload_n hC 0 rfl rfl (dOk_at dt_X3_pairsFrom 15 rfl) ?_
      refine j_iald hC (show shp 106 = (21, 192) from rfl) (Nat.lt_of_lt_of_le (Nat.le_of_ble_eq_true rfl : 106 < 152) hN) (dOk_at dt_X3_pairsFrom 16 rfl) ?_
      refine j_goto hC (tgt := 29) (by decide) (dOk_at dt_X3_pairsFrom 17 rfl) ?_
      exact j_iret hC hret (dOk_at dt_X3_pairsFrom 19 rfl)
