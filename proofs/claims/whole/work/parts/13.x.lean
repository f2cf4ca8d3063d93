def tb_X5_pass : List (Nat × Instr × Nat) := [(0, .aload_n 0, 1), (1, .getfield 79, 3), (4, .iload_n 1, 1), (5, .if_icmp .eq 12, 3), (8, .aload_n 0, 1), (9, .iconst 1, 1), (10, .aload_n 0, 1), (11, .getfield 70, 3), (14, .invokevirtual 138, 3), (17, .aload_n 0, 1), (18, .getfield 73, 3), (21, .ifCond .ne 7, 3), (24, .aload_n 0, 1), (25, .invokevirtual 76, 3), (28, .return_, 1)]
theorem dt_X5_pass : dOk cX5_pass tb_X5_pass = true := by decide +kernel
def fX5_pass_17 (h : Hp) : Option (Hp) := if (hI h 69 14) = 0 then ((fX5_next h).bind (fun h_6 => some h_6)) else (some h)
def fX5_pass (h : Hp) (x1 : Int32) : Option (Hp) := if (hI h 69 7) = x1 then (fX5_pass_17 h) else ((fX5_fail h (1 : Int32) (hI h 69 8)).bind (fun h_3 => fX5_pass_17 h_3))
set_option maxRecDepth 100000 in
set_option maxHeartbeats 4000000 in
theorem c_X5_pass {l : Launch} {sb : State} {D : va_G} {ids : Nat → ClassId} {n : Nat} (hN : 152 ≤ n) (h : Hp) (x1 : Int32) (r : Hp) (hr : fX5_pass h x1 = some r) : jM l yX5_pass cX5_pass 2 none 2 sb D ids shp St n [.ref 69, .int x1] h (jQv sb D ids shp St n r) := by
  refine jM_of hr rfl (Nat.le_of_ble_eq_true rfl) ?_
  intro p e s m args below meth c hC hret
  have b17 : ∀ (h : Hp) , jJ p l e (rmD 2) s m args below meth c 2 sb D ids shp St (fun r => MQ below (jQv sb D ids shp St n r) args s 0 0 (jA sb)) n 0 0 h 17 [(0, .ref 69)] [] (fX5_pass_17 h ) := by
    intro h 
    unfold fX5_pass_17
    refine j_aload_n hC 0 rfl rfl (dOk_at dt_X5_pass 9 rfl) ?_
    refine j_getI hC flX5_73 (show shp 69 = (5, 16) from rfl) (Nat.lt_of_lt_of_le (Nat.le_of_ble_eq_true rfl : 69 < 152) hN) (by decide) (by decide) (fun _ _ _ => rfl) (dOk_at dt_X5_pass 10 rfl) ?_
    refine j_if_ne hC (tgt := 28) (by decide) (dOk_at dt_X5_pass 11 rfl) (fun q_4 => ?_) (fun q_4 => ?_)
    · exact j_vret hC hret (dOk_at dt_X5_pass 14 rfl)
    · refine j_aload_n hC 0 rfl rfl (dOk_at dt_X5_pass 12 rfl) ?_
      refine j_callVv hC clX5_76 (fun rz hrz => c_X5_next hN _ rz hrz) (show shp 69 = (5, 16) from rfl) (Nat.lt_of_lt_of_le (Nat.le_of_ble_eq_true rfl : 69 < 152) hN) (by decide) rfl rfl ⟨Nat.le_of_ble_eq_true rfl, Nat.le_of_ble_eq_true rfl⟩ ⟨Nat.le_refl 0, Nat.le_refl 0⟩ (As := []) (st := []) rfl (Nat.le_of_ble_eq_true rfl) (dOk_at dt_X5_pass 13 rfl) (fun h_6 _ => ?_)
      exact j_vret hC hret (dOk_at dt_X5_pass 14 rfl)
  unfold fX5_pass
  refine j_aload_n hC 0 rfl rfl (dOk_at dt_X5_pass 0 rfl) ?_
  refine j_getI hC flX5_79 (show shp 69 = (5, 16) from rfl) (Nat.lt_of_lt_of_le (Nat.le_of_ble_eq_true rfl : 69 < 152) hN) (by decide) (by decide) (fun _ _ _ => rfl) (dOk_at dt_X5_pass 1 rfl) ?_
  refine j_iload_n hC 1 rfl rfl (dOk_at dt_X5_pass 2 rfl) ?_
  refine j_icmp_eq hC (tgt := 17) (by decide) (dOk_at dt_X5_pass 3 rfl) (fun q_1 => ?_) (fun q_1 => ?_)
  · refine j_sub [0] rfl ?_
    exact b17 h 
  · refine j_aload_n hC 0 rfl rfl (dOk_at dt_X5_pass 4 rfl) ?_
    refine j_iconst hC (v := (1 : Int32)) rfl (dOk_at dt_X5_pass 5 rfl) ?_
    refine j_aload_n hC 0 rfl rfl (dOk_at dt_X5_pass 6 rfl) ?_
    refine j_getI hC flX5_70 (show shp 69 = (5, 16) from rfl) (Nat.lt_of_lt_of_le (Nat.le_of_ble_eq_true rfl : 69 < 152) hN) (by decide) (by decide) (fun _ _ _ => rfl) (dOk_at dt_X5_pass 7 rfl) ?_
    refine j_callVv hC clX5_138 (fun rz hrz => c_X5_fail hN _ _ _ rz hrz) (show shp 69 = (5, 16) from rfl) (Nat.lt_of_lt_of_le (Nat.le_of_ble_eq_true rfl : 69 < 152) hN) (by decide) rfl rfl ⟨Nat.le_of_ble_eq_true rfl, Nat.le_of_ble_eq_true rfl⟩ ⟨Nat.le_refl 0, Nat.le_refl 0⟩ (As := [.int (1 : Int32), .int (hI h 69 8)]) (st := []) rfl (Nat.le_of_ble_eq_true rfl) (dOk_at dt_X5_pass 8 rfl) (fun h_3 _ => ?_)
    refine j_sub [0] rfl ?_
    exact b17 h_3 
def tb_X5_passWord : List (Nat × Instr × Nat) := [(0, .iload_n 1, 1), (1, .ifCond .ne 12, 3), (4, .aload_n 0, 1), (5, .iload_n 2, 1), (6, .aload_n 0, 1), (7, .getfield 70, 3), (10, .invokevirtual 138, 3), (13, .aload_n 0, 1), (14, .iconst 3, 1), (15, .invokevirtual 142, 3), (18, .return_, 1)]
theorem dt_X5_passWord : dOk cX5_passWord tb_X5_passWord = true := by decide +kernel
def fX5_passWord_13 (h : Hp) : Option (Hp) := (fX5_pass h (3 : Int32)).bind (fun h_5 => some h_5)
def fX5_passWord (h : Hp) (x1 : Int32) (x2 : Int32) : Option (Hp) := if x1 = 0 then ((fX5_fail h x2 (hI h 69 8)).bind (fun h_3 => fX5_passWord_13 h_3)) else (fX5_passWord_13 h)
set_option maxRecDepth 100000 in
set_option maxHeartbeats 4000000 in
theorem c_X5_passWord {l : Launch} {sb : State} {D : va_G} {ids : Nat → ClassId} {n : Nat} (hN : 152 ≤ n) (h : Hp) (x1 : Int32) (x2 : Int32) (r : Hp) (hr : fX5_passWord h x1 x2 = some r) : jM l yX5_passWord cX5_passWord 3 none 3 sb D ids shp St n [.ref 69, .int x1, .int x2] h (jQv sb D ids shp St n r) := by
  refine jM_of hr rfl (Nat.le_of_ble_eq_true rfl) ?_
  intro p e s m args below meth c hC hret
  have b13 : ∀ (h : Hp) , jJ p l e (rmD 3) s m args below meth c 3 sb D ids shp St (fun r => MQ below (jQv sb D ids shp St n r) args s 0 0 (jA sb)) n 0 0 h 13 [(0, .ref 69)] [] (fX5_passWord_13 h ) := by
    intro h 
    unfold fX5_passWord_13
    refine j_aload_n hC 0 rfl rfl (dOk_at dt_X5_passWord 7 rfl) ?_
    refine j_iconst hC (v := (3 : Int32)) rfl (dOk_at dt_X5_passWord 8 rfl) ?_
    refine j_callVv hC clX5_142 (fun rz hrz => c_X5_pass hN _ _ rz hrz) (show shp 69 = (5, 16) from rfl) (Nat.lt_of_lt_of_le (Nat.le_of_ble_eq_true rfl : 69 < 152) hN) (by decide) rfl rfl ⟨Nat.le_of_ble_eq_true rfl, Nat.le_of_ble_eq_true rfl⟩ ⟨Nat.le_refl 0, Nat.le_refl 0⟩ (As := [.int (3 : Int32)]) (st := []) rfl (Nat.le_of_ble_eq_true rfl) (dOk_at dt_X5_passWord 9 rfl) (fun h_5 _ => ?_)
    exact j_vret hC hret (dOk_at dt_X5_passWord 10 rfl)
  unfold fX5_passWord
  refine j_iload_n hC 1 rfl rfl (dOk_at dt_X5_passWord 0 rfl) ?_
  refine j_if_ne hC (tgt := 13) (by decide) (dOk_at dt_X5_passWord 1 rfl) (fun q_1 => ?_) (fun q_1 => ?_)
  · refine j_sub [0] rfl ?_
    exact b13 h 
  · refine j_aload_n hC 0 rfl rfl (dOk_at dt_X5_passWord 2 rfl) ?_
    refine j_iload_n hC 2 rfl rfl (dOk_at dt_X5_passWord 3 rfl) ?_
    refine j_aload_n hC 0 rfl rfl (dOk_at dt_X5_passWord 4 rfl) ?_
    refine j_getI hC flX5_70 (show shp 69 = (5, 16) from rfl) (Nat.lt_of_lt_of_le (Nat.le_of_ble_eq_true rfl : 69 < 152) hN) (by decide) (by decide) (fun _ _ _ => rfl) (dOk_at dt_X5_passWord 5 rfl) ?_
    refine j_callVv hC clX5_138 (fun rz hrz => c_X5_fail hN _ _ _ rz hrz) (show shp 69 = (5, 16) from rfl) (Nat.lt_of_lt_of_le (Nat.le_of_ble_eq_true rfl : 69 < 152) hN) (by decide) rfl rfl ⟨Nat.le_of_ble_eq_true rfl, Nat.le_of_ble_eq_true rfl⟩ ⟨Nat.le_refl 0, Nat.le_refl 0⟩ (As := [.int x2, .int (hI h 69 8)]) (st := []) rfl (Nat.le_of_ble_eq_true rfl) (dOk_at dt_X5_passWord 6 rfl) (fun h_3 _ => ?_)
    refine j_sub [0] rfl ?_
    exact b13 h_3 
def tb_X6_find : List (Nat × Instr × Nat) := [(0, .iconst 0, 1), (1, .istore_n 2, 1), (2, .iload_n 2, 1), (3, .aload_n 0, 1), (4, .getfield 19, 3), (7, .if_icmp .ge 30, 3), (10, .iload_n 2, 1), (11, .aload_n 0, 1), (12, .getfield 9, 3), (15, .arraylength, 1), (16, .if_icmp .ge 21, 3), (19, .aload_n 0, 1), (20, .getfield 9, 3), (23, .iload_n 2, 1), (24, .iaload, 1), (25, .iload_n 1, 1), (26, .if_icmp .ne 5, 3), (29, .iload_n 2, 1), (30, .ireturn, 1), (31, .iinc 2 1, 3), (34, .goto (-32), 3), (37, .iconst (-1), 1), (38, .ireturn, 1)]
theorem dt_X6_find : dOk cX6_find tb_X6_find = true := by decide +kernel
def fX6_find_2 : Nat → (Nat) → Hp → Int32 → Int32 → Option (Int32 × Hp)
  | 0, _, _, _, _ => none
  | fu + 1, tt, h, x1, x2 => if (hI h tt 2) ≤ x2 then (some ((-1 : Int32), h)) else (if (8 : Int32) ≤ x2 then (some ((-1 : Int32), h)) else (if inb x2 8 then (if (hI h (rf tt 0) (Int32.toNatClampNeg x2)) = x1 then (some (x2, h)) else ((fX6_find_2 fu tt) h x1 (x2 + (1 : Int32)))) else none))
def fX6_find (tt : Nat) (h : Hp) (x1 : Int32) : Option (Int32 × Hp) := fX6_find_2 FU tt h x1 (0 : Int32)
set_option maxRecDepth 100000 in
set_option maxHeartbeats 4000000 in
theorem c_X6_find {l : Launch} {sb : State} {D : va_G} {ids : Nat → ClassId} {n : Nat} (hN : 152 ≤ n) {tt : Nat} (ht : shp tt = (6, 3)) (h : Hp) (x1 : Int32) (r : Int32 × Hp) (hr : fX6_find tt h x1 = some r) : jM l yX6_find cX6_find 3 (some .int) 0 sb D ids shp St n [.ref tt, .int x1] h (jQi sb D ids shp St n r) := by
  refine jM_of hr rfl (Nat.le_of_ble_eq_true rfl) ?_
  intro p e s m args below meth c hC hret
  have b2 : ∀ (fu : Nat) (h : Hp) (x1 : Int32) (x2 : Int32) , jJ p l e (rmD 0) s m args below meth c 3 sb D ids shp St (fun r => MQ below (jQi sb D ids shp St n r) args s 0 0 (jA sb)) n 0 0 h 2 [(0, .ref tt), (1, .int x1), (2, .int x2)] [] (fX6_find_2 fu tt h x1 x2) := by
    intro fu 
    induction fu with
    | zero => intro h x1 x2 ; exact j_none
    | succ fu ih =>
    intro h x1 x2 
    rw [fX6_find_2]
    refine j_iload_n hC 2 rfl rfl (dOk_at dt_X6_find 2 rfl) ?_
    refine j_aload_n hC 0 rfl rfl (dOk_at dt_X6_find 3 rfl) ?_
    refine j_getI hC flX6_19 ht (jlt hN ht (by decide)) (by decide) (by decide) (fun _ _ _ => rfl) (dOk_at dt_X6_find 4 rfl) ?_
    refine j_icmp_ge hC (tgt := 37) (by decide) (dOk_at dt_X6_find 5 rfl) (fun q_1 => ?_) (fun q_1 => ?_)
    · refine j_iconst hC (v := (-1 : Int32)) rfl (dOk_at dt_X6_find 21 rfl) ?_
      exact j_iret hC hret (dOk_at dt_X6_find 22 rfl)
    · refine j_iload_n hC 2 rfl rfl (dOk_at dt_X6_find 6 rfl) ?_
      refine j_aload_n hC 0 rfl rfl (dOk_at dt_X6_find 7 rfl) ?_
      refine j_getR hC flX6_9 ht (jlt hN ht (by decide)) (by decide) (by decide) (fun _ _ _ => rfl) (fun hs => hs _ _ _ (sf_6_0 ht).1) (dOk_at dt_X6_find 8 rfl) ?_
      refine j_alen hC (v := (8 : Int32)) (sf_6_0 ht).2.1 (Nat.lt_of_lt_of_le (sf_6_0 ht).2.2 hN) (by decide) rfl (dOk_at dt_X6_find 9 rfl) ?_
      refine j_icmp_ge hC (tgt := 37) (by decide) (dOk_at dt_X6_find 10 rfl) (fun q_2 => ?_) (fun q_2 => ?_)
      · refine j_iconst hC (v := (-1 : Int32)) rfl (dOk_at dt_X6_find 21 rfl) ?_
        exact j_iret hC hret (dOk_at dt_X6_find 22 rfl)
      · refine j_aload_n hC 0 rfl rfl (dOk_at dt_X6_find 11 rfl) ?_
        refine j_getR hC flX6_9 ht (jlt hN ht (by decide)) (by decide) (by decide) (fun _ _ _ => rfl) (fun hs => hs _ _ _ (sf_6_0 ht).1) (dOk_at dt_X6_find 12 rfl) ?_
        refine j_iload_n hC 2 rfl rfl (dOk_at dt_X6_find 13 rfl) ?_
        refine j_iald hC (sf_6_0 ht).2.1 (Nat.lt_of_lt_of_le (sf_6_0 ht).2.2 hN) (dOk_at dt_X6_find 14 rfl) ?_
        refine j_iload_n hC 1 rfl rfl (dOk_at dt_X6_find 15 rfl) ?_
        refine j_icmp_ne hC (tgt := 31) (by decide) (dOk_at dt_X6_find 16 rfl) (fun q_3 => ?_) (fun q_3 => ?_)
        · refine j_iinc hC (v := (x2 + (1 : Int32))) (lv' := [(2, .int (x2 + (1 : Int32))), (0, .ref tt), (1, .int x1)]) 2 rfl (congrArg (fun z => x2 + z) (show Int32.ofInt (1) = (1 : Int32) from by decide)) (by decide) rfl (dOk_at dt_X6_find 19 rfl) ?_
          refine j_goto hC (tgt := 2) (by decide) (dOk_at dt_X6_find 20 rfl) ?_
          refine j_sub [1, 2, 0] rfl ?_
          exact ih h x1 (x2 + (1 : Int32)) 
        · refine j_iload_n hC 2 rfl rfl (dOk_at dt_X6_find 17 rfl) ?_
          exact j_iret hC hret (dOk_at dt_X6_find 18 rfl)
  unfold fX6_find
  refine j_iconst hC (v := (0 : Int32)) rfl (dOk_at dt_X6_find 0 rfl) ?_
  refine j_istore_n hC rfl (lv' := [(2, .int (0 : Int32)), (0, .ref tt), (1, .int x1)]) (by decide) rfl (dOk_at dt_X6_find 1 rfl) ?_
  refine j_sub [1, 2, 0] rfl ?_
  exact b2 FU h x1 (0 : Int32) 
def tb_X5_freshName : List (Nat × Instr × Nat) := [(0, .aload_n 0, 1), (1, .getfield 101, 3), (4, .istore_n 2, 1), (5, .aload_n 0, 1), (6, .getfield 79, 3), (9, .iconst 2, 1), (10, .if_icmp .ne 21, 3), (13, .aload_n 1, 1), (14, .iload_n 2, 1), (15, .invokevirtual 148, 3), (18, .iconst (-1), 1), (19, .if_icmp .eq 12, 3), (22, .aload_n 0, 1), (23, .iconst 3, 1), (24, .aload_n 0, 1), (25, .getfield 70, 3), (28, .invokevirtual 138, 3), (31, .aload_n 0, 1), (32, .iconst 2, 1), (33, .invokevirtual 142, 3), (36, .iload_n 2, 1), (37, .ireturn, 1)]
theorem dt_X5_freshName : dOk cX5_freshName tb_X5_freshName = true := by decide +kernel
def fX5_freshName_31 (r1 : Nat) (h : Hp) (x2 : Int32) : Option (Int32 × Hp) := (fX5_pass h (2 : Int32)).bind (fun h_8 => some (x2, h_8))
def fX5_freshName (r1 : Nat) (h : Hp) : Option (Int32 × Hp) := if (hI h 69 7) = (2 : Int32) then (bnd (fX6_find r1 h (hI h 69 10)) (fun v_2 h_3 => if v_2 = (-1 : Int32) then (fX5_freshName_31 r1 h_3 (hI h 69 10)) else ((fX5_fail h_3 (3 : Int32) (hI h_3 69 8)).bind (fun h_6 => fX5_freshName_31 r1 h_6 (hI h 69 10))))) else (fX5_freshName_31 r1 h (hI h 69 10))
set_option maxRecDepth 100000 in
set_option maxHeartbeats 4000000 in
theorem c_X5_freshName {l : Launch} {sb : State} {D : va_G} {ids : Nat → ClassId} {n : Nat} (hN : 152 ≤ n) {r1 : Nat} (h1 : shp r1 = (6, 3)) (h : Hp) (r : Int32 × Hp) (hr : fX5_freshName r1 h = some r) : jM l yX5_freshName cX5_freshName 3 (some .int) 3 sb D ids shp St n [.ref 69, .ref r1] h (jQi sb D ids shp St n r) := by
  refine jM_of hr rfl (Nat.le_of_ble_eq_true rfl) ?_
  intro p e s m args below meth c hC hret
  have b31 : ∀ (h : Hp) (x2 : Int32) , jJ p l e (rmD 3) s m args below meth c 3 sb D ids shp St (fun r => MQ below (jQi sb D ids shp St n r) args s 0 0 (jA sb)) n 0 0 h 31 [(0, .ref 69), (2, .int x2)] [] (fX5_freshName_31 r1 h x2) := by
    intro h x2 
    unfold fX5_freshName_31
    refine j_aload_n hC 0 rfl rfl (dOk_at dt_X5_freshName 17 rfl) ?_
    refine j_iconst hC (v := (2 : Int32)) rfl (dOk_at dt_X5_freshName 18 rfl) ?_
    refine j_callVv hC clX5_142 (fun rz hrz => c_X5_pass hN _ _ rz hrz) (show shp 69 = (5, 16) from rfl) (Nat.lt_of_lt_of_le (Nat.le_of_ble_eq_true rfl : 69 < 152) hN) (by decide) rfl rfl ⟨Nat.le_of_ble_eq_true rfl, Nat.le_of_ble_eq_true rfl⟩ ⟨Nat.le_refl 0, Nat.le_refl 0⟩ (As := [.int (2 : Int32)]) (st := []) rfl (Nat.le_of_ble_eq_true rfl) (dOk_at dt_X5_freshName 19 rfl) (fun h_8 _ => ?_)
    refine j_iload_n hC 1 rfl rfl (dOk_at dt_X5_freshName 20 rfl) ?_
    exact j_iret hC hret (dOk_at dt_X5_freshName 21 rfl)
  unfold fX5_freshName
  refine j_aload_n hC 0 rfl rfl (dOk_at dt_X5_freshName 0 rfl) ?_
  refine j_getI hC flX5_101 (show shp 69 = (5, 16) from rfl) (Nat.lt_of_lt_of_le (Nat.le_of_ble_eq_true rfl : 69 < 152) hN) (by decide) (by decide) (fun _ _ _ => rfl) (dOk_at dt_X5_freshName 1 rfl) ?_
  refine j_istore_n hC rfl (lv' := [(2, .int (hI h 69 10)), (0, .ref 69), (1, .ref r1)]) (by decide) rfl (dOk_at dt_X5_freshName 2 rfl) ?_
  refine j_aload_n hC 1 rfl rfl (dOk_at dt_X5_freshName 3 rfl) ?_
  refine j_getI hC flX5_79 (show shp 69 = (5, 16) from rfl) (Nat.lt_of_lt_of_le (Nat.le_of_ble_eq_true rfl : 69 < 152) hN) (by decide) (by decide) (fun _ _ _ => rfl) (dOk_at dt_X5_freshName 4 rfl) ?_
  refine j_iconst hC (v := (2 : Int32)) rfl (dOk_at dt_X5_freshName 5 rfl) ?_
  refine j_icmp_ne hC (tgt := 31) (by decide) (dOk_at dt_X5_freshName 6 rfl) (fun q_1 => ?_) (fun q_1 => ?_)
  · refine j_sub [1, 0] rfl ?_
    exact b31 h (hI h 69 10) 
  · refine j_aload_n hC 2 rfl rfl (dOk_at dt_X5_freshName 7 rfl) ?_
    refine j_iload_n hC 0 rfl rfl (dOk_at dt_X5_freshName 8 rfl) ?_
    refine j_callVi hC clX5_148 (fun rz hrz => c_X6_find hN (h1) _ _ rz hrz) h1 (jlt hN h1 (by decide)) (by decide) rfl rfl ⟨Nat.le_of_ble_eq_true rfl, Nat.le_of_ble_eq_true rfl⟩ ⟨Nat.le_refl 0, Nat.le_refl 0⟩ (As := [.int (hI h 69 10)]) (st := []) rfl (Nat.le_of_ble_eq_true rfl) (dOk_at dt_X5_freshName 9 rfl) (fun v_2 h_3 _ => ?_)
    refine j_iconst hC (v := (-1 : Int32)) rfl (dOk_at dt_X5_freshName 10 rfl) ?_
    refine j_icmp_eq hC (tgt := 31) (by decide) (dOk_at dt_X5_freshName 11 rfl) (fun q_4 => ?_) (fun q_4 => ?_)
    · refine j_sub [1, 0] rfl ?_
      exact b31 h_3 (hI h 69 10) 
    · refine j_aload_n hC 1 rfl rfl (dOk_at dt_X5_freshName 12 rfl) ?_
      refine j_iconst hC (v := (3 : Int32)) rfl (dOk_at dt_X5_freshName 13 rfl) ?_
      refine j_aload_n hC 1 rfl rfl (dOk_at dt_X5_freshName 14 rfl) ?_
      refine j_getI hC flX5_70 (show shp 69 = (5, 16) from rfl) (Nat.lt_of_lt_of_le (Nat.le_of_ble_eq_true rfl : 69 < 152) hN) (by decide) (by decide) (fun _ _ _ => rfl) (dOk_at dt_X5_freshName 15 rfl) ?_
      refine j_callVv hC clX5_138 (fun rz hrz => c_X5_fail hN _ _ _ rz hrz) (show shp 69 = (5, 16) from rfl) (Nat.lt_of_lt_of_le (Nat.le_of_ble_eq_true rfl : 69 < 152) hN) (by decide) rfl rfl ⟨Nat.le_of_ble_eq_true rfl, Nat.le_of_ble_eq_true rfl⟩ ⟨Nat.le_refl 0, Nat.le_refl 0⟩ (As := [.int (3 : Int32), .int (hI h_3 69 8)]) (st := []) rfl (Nat.le_of_ble_eq_true rfl) (dOk_at dt_X5_freshName 16 rfl) (fun h_6 _ => ?_)
      refine j_sub [1, 0] rfl ?_
      exact b31 h_6 (hI h 69 10) 
def tb_X5_numberWithin : List (Nat × Instr × Nat) := [(0, .aload_n 0, 1), (1, .getfield 104, 3), (4, .istore_n 3, 1), (5, .aload_n 0, 1), (6, .getfield 79, 3), (9, .iconst 4, 1), (10, .if_icmp .ne 22, 3), (13, .iload_n 3, 1), (14, .iload_n 1, 1), (15, .if_icmp .lt 8, 3), (18, .iload_n 3, 1), (19, .iload_n 2, 1), (20, .if_icmp .le 12, 3), (23, .aload_n 0, 1), (24, .iconst 2, 1), (25, .aload_n 0, 1), (26, .getfield 70, 3), (29, .invokevirtual 138, 3), (32, .aload_n 0, 1), (33, .iconst 4, 1), (34, .invokevirtual 142, 3), (37, .iload_n 3, 1), (38, .ireturn, 1)]
theorem dt_X5_numberWithin : dOk cX5_numberWithin tb_X5_numberWithin = true := by decide +kernel
def fX5_numberWithin_32 (h : Hp) (x3 : Int32) : Option (Int32 × Hp) := (fX5_pass h (4 : Int32)).bind (fun h_5 => some (x3, h_5))
def fX5_numberWithin_23 (h : Hp) (x3 : Int32) : Option (Int32 × Hp) := (fX5_fail h (2 : Int32) (hI h 69 8)).bind (fun h_7 => fX5_numberWithin_32 h_7 x3)
def fX5_numberWithin (h : Hp) (x1 : Int32) (x2 : Int32) : Option (Int32 × Hp) := if (hI h 69 7) = (4 : Int32) then (if (hI h 69 12) < x1 then (fX5_numberWithin_23 h (hI h 69 12)) else (if (hI h 69 12) ≤ x2 then (fX5_numberWithin_32 h (hI h 69 12)) else (fX5_numberWithin_23 h (hI h 69 12)))) else (fX5_numberWithin_32 h (hI h 69 12))
set_option maxRecDepth 100000 in
set_option maxHeartbeats 4000000 in
theorem c_X5_numberWithin {l : Launch} {sb : State} {D : va_G} {ids : Nat → ClassId} {n : Nat} (hN : 152 ≤ n) (h : Hp) (x1 : Int32) (x2 : Int32) (r : Int32 × Hp) (hr : fX5_numberWithin h x1 x2 = some r) : jM l yX5_numberWithin cX5_numberWithin 4 (some .int) 3 sb D ids shp St n [.ref 69, .int x1, .int x2] h (jQi sb D ids shp St n r) := by
  refine jM_of hr rfl (Nat.le_of_ble_eq_true rfl) ?_
  intro p e s m args below meth c hC hret
  have b32 : ∀ (h : Hp) (x3 : Int32) , jJ p l e (rmD 3) s m args below meth c 4 sb D ids shp St (fun r => MQ below (jQi sb D ids shp St n r) args s 0 0 (jA sb)) n 0 0 h 32 [(0, .ref 69), (3, .int x3)] [] (fX5_numberWithin_32 h x3) := by
    intro h x3 
    unfold fX5_numberWithin_32
    refine j_aload_n hC 0 rfl rfl (dOk_at dt_X5_numberWithin 18 rfl) ?_
    refine j_iconst hC (v := (4 : Int32)) rfl (dOk_at dt_X5_numberWithin 19 rfl) ?_
    refine j_callVv hC clX5_142 (fun rz hrz => c_X5_pass hN _ _ rz hrz) (show shp 69 = (5, 16) from rfl) (Nat.lt_of_lt_of_le (Nat.le_of_ble_eq_true rfl : 69 < 152) hN) (by decide) rfl rfl ⟨Nat.le_of_ble_eq_true rfl, Nat.le_of_ble_eq_true rfl⟩ ⟨Nat.le_refl 0, Nat.le_refl 0⟩ (As := [.int (4 : Int32)]) (st := []) rfl (Nat.le_of_ble_eq_true rfl) (dOk_at dt_X5_numberWithin 20 rfl) (fun h_5 _ => ?_)
    refine j_iload_n hC 1 rfl rfl (dOk_at dt_X5_numberWithin 21 rfl) ?_
    exact j_iret hC hret (dOk_at dt_X5_numberWithin 22 rfl)
  have b23 : ∀ (h : Hp) (x3 : Int32) , jJ p l e (rmD 3) s m args below meth c 4 sb D ids shp St (fun r => MQ below (jQi sb D ids shp St n r) args s 0 0 (jA sb)) n 0 0 h 23 [(0, .ref 69), (3, .int x3)] [] (fX5_numberWithin_23 h x3) := by
    intro h x3 
    unfold fX5_numberWithin_23
    refine j_aload_n hC 0 rfl rfl (dOk_at dt_X5_numberWithin 13 rfl) ?_
    refine j_iconst hC (v := (2 : Int32)) rfl (dOk_at dt_X5_numberWithin 14 rfl) ?_
    refine j_aload_n hC 0 rfl rfl (dOk_at dt_X5_numberWithin 15 rfl) ?_
    refine j_getI hC flX5_70 (show shp 69 = (5, 16) from rfl) (Nat.lt_of_lt_of_le (Nat.le_of_ble_eq_true rfl : 69 < 152) hN) (by decide) (by decide) (fun _ _ _ => rfl) (dOk_at dt_X5_numberWithin 16 rfl) ?_
    refine j_callVv hC clX5_138 (fun rz hrz => c_X5_fail hN _ _ _ rz hrz) (show shp 69 = (5, 16) from rfl) (Nat.lt_of_lt_of_le (Nat.le_of_ble_eq_true rfl : 69 < 152) hN) (by decide) rfl rfl ⟨Nat.le_of_ble_eq_true rfl, Nat.le_of_ble_eq_true rfl⟩ ⟨Nat.le_refl 0, Nat.le_refl 0⟩ (As := [.int (2 : Int32), .int (hI h 69 8)]) (st := []) rfl (Nat.le_of_ble_eq_true rfl) (dOk_at dt_X5_numberWithin 17 rfl) (fun h_7 _ => ?_)
    exact b32 h_7 x3 
  unfold fX5_numberWithin
  refine j_aload_n hC 0 rfl rfl (dOk_at dt_X5_numberWithin 0 rfl) ?_
  refine j_getI hC flX5_104 (show shp 69 = (5, 16) from rfl) (Nat.lt_of_lt_of_le (Nat.le_of_ble_eq_true rfl : 69 < 152) hN) (by decide) (by decide) (fun _ _ _ => rfl) (dOk_at dt_X5_numberWithin 1 rfl) ?_
  refine j_istore_n hC rfl (lv' := [(3, .int (hI h 69 12)), (0, .ref 69), (1, .int x1), (2, .int x2)]) (by decide) rfl (dOk_at dt_X5_numberWithin 2 rfl) ?_
  refine j_aload_n hC 1 rfl rfl (dOk_at dt_X5_numberWithin 3 rfl) ?_
  refine j_getI hC flX5_79 (show shp 69 = (5, 16) from rfl) (Nat.lt_of_lt_of_le (Nat.le_of_ble_eq_true rfl : 69 < 152) hN) (by decide) (by decide) (fun _ _ _ => rfl) (dOk_at dt_X5_numberWithin 4 rfl) ?_
  refine j_iconst hC (v := (4 : Int32)) rfl (dOk_at dt_X5_numberWithin 5 rfl) ?_
  refine j_icmp_ne hC (tgt := 32) (by decide) (dOk_at dt_X5_numberWithin 6 rfl) (fun q_1 => ?_) (fun q_1 => ?_)
  · refine j_sub [1, 0] rfl ?_
    exact b32 h (hI h 69 12) 
  · refine j_iload_n hC 0 rfl rfl (dOk_at dt_X5_numberWithin 7 rfl) ?_
    refine j_iload_n hC 2 rfl rfl (dOk_at dt_X5_numberWithin 8 rfl) ?_
    refine j_icmp_lt hC (tgt := 23) (by decide) (dOk_at dt_X5_numberWithin 9 rfl) (fun q_2 => ?_) (fun q_2 => ?_)
    · refine j_sub [1, 0] rfl ?_
      exact b23 h (hI h 69 12) 
    · refine j_iload_n hC 0 rfl rfl (dOk_at dt_X5_numberWithin 10 rfl) ?_
      refine j_iload_n hC 3 rfl rfl (dOk_at dt_X5_numberWithin 11 rfl) ?_
      refine j_icmp_le hC (tgt := 32) (by decide) (dOk_at dt_X5_numberWithin 12 rfl) (fun q_3 => ?_) (fun q_3 => ?_)
      · refine j_sub [1, 0] rfl ?_
        exact b32 h (hI h 69 12) 
      · refine j_sub [1, 0] rfl ?_
        exact b23 h (hI h 69 12) 
def tb_X5_claimLine : List (Nat × Instr × Nat) := [(0, .aload_n 0, 1), (1, .aload_n 0, 1), (2, .getfield 19, 3), (5, .getfield 153, 3), (8, .getfield 157, 3), (11, .invokevirtual 163, 3), (14, .iconst 2, 1), (15, .invokevirtual 167, 3), (18, .aload_n 0, 1), (19, .aload_n 0, 1), (20, .getfield 19, 3), (23, .getfield 153, 3), (26, .getfield 157, 3), (29, .invokevirtual 171, 3), (32, .istore_n 1, 1), (33, .aload_n 0, 1), (34, .iconst 0, 1), (35, .bipush 99, 2), (37, .invokevirtual 175, 3), (40, .istore_n 2, 1), (41, .aload_n 0, 1), (42, .iconst 0, 1), (43, .bipush 9, 2), (45, .invokevirtual 175, 3), (48, .istore_n 3, 1), (49, .aload_n 0, 1), (50, .getfield 73, 3), (53, .ifCond .ne 16, 3), (56, .aload_n 0, 1), (57, .getfield 19, 3), (60, .getfield 153, 3), (63, .iload_n 1, 1), (64, .iload_n 2, 1), (65, .iload_n 3, 1), (66, .invokevirtual 178, 3), (69, .return_, 1)]
theorem dt_X5_claimLine : dOk cX5_claimLine tb_X5_claimLine = true := by decide +kernel
def fX5_claimLine (h : Hp) : Option (Hp) := (dref shp h 69 4 (7, 20)).bind (fun z_1 => bnd (fX6_hasRoom (rf (rf z_1 0) 0) h) (fun v_3 h_4 => (fX5_passWord h_4 v_3 (2 : Int32)).bind (fun h_6 => (dref shp h_6 69 4 (7, 20)).bind (fun z_7 => bnd (fX5_freshName (rf (rf z_7 0) 0) h_6) (fun v_9 h_10 => bnd (fX5_numberWithin h_10 (0 : Int32) (99 : Int32)) (fun v_11 h_12 => bnd (fX5_numberWithin h_12 (0 : Int32) (9 : Int32)) (fun v_13 h_14 => if (hI h_14 69 14) = 0 then ((dref shp h_14 69 4 (7, 20)).bind (fun z_16 => (fX0_add (rf z_16 0) h_14 v_9 v_11 v_13).bind (fun h_19 => some h_19))) else (some h_14))))))))
set_option maxRecDepth 100000 in
set_option maxHeartbeats 4000000 in
theorem c_X5_claimLine {l : Launch} {sb : State} {D : va_G} {ids : Nat → ClassId} {n : Nat} (hN : 152 ≤ n) (h : Hp) (r : Hp) (hr : fX5_claimLine h = some r) : jM l yX5_claimLine cX5_claimLine 4 none 4 sb D ids shp St n [.ref 69] h (jQv sb D ids shp St n r) := by
  refine jM_of hr rfl (Nat.le_of_ble_eq_true rfl) ?_
  intro p e s m args below meth c hC hret
  unfold fX5_claimLine
  refine j_aload_n hC 0 rfl rfl (dOk_at dt_X5_claimLine 0 rfl) ?_
  refine j_aload_n hC 0 rfl rfl (dOk_at dt_X5_claimLine 1 rfl) ?_
  refine j_getD (q := (7, 20)) hC flX5_19 (show shp 69 = (5, 16) from rfl) (Nat.lt_of_lt_of_le (Nat.le_of_ble_eq_true rfl : 69 < 152) hN) (by decide) (by decide) (fun _ _ _ => rfl) (dOk_at dt_X5_claimLine 2 rfl) (fun z_1 _ g_2 => ?_)
  refine j_getR hC flX5_153 g_2 (jlt hN g_2 (by decide)) (by decide) (by decide) (fun _ _ _ => rfl) (fun hs => hs _ _ _ (sf_7_0 g_2).1) (dOk_at dt_X5_claimLine 3 rfl) ?_
  refine j_getR hC flX5_157 (sf_7_0 g_2).2.1 (Nat.lt_of_lt_of_le (sf_7_0 g_2).2.2 hN) (by decide) (by decide) (fun _ _ _ => rfl) (fun hs => hs _ _ _ (sf_0_0 (sf_7_0 g_2).2.1).1) (dOk_at dt_X5_claimLine 4 rfl) ?_
  refine j_callVi hC clX5_163 (fun rz hrz => c_X6_hasRoom hN ((sf_0_0 (sf_7_0 g_2).2.1).2.1) _ rz hrz) (sf_0_0 (sf_7_0 g_2).2.1).2.1 (Nat.lt_of_lt_of_le (sf_0_0 (sf_7_0 g_2).2.1).2.2 hN) (by decide) rfl rfl ⟨Nat.le_of_ble_eq_true rfl, Nat.le_of_ble_eq_true rfl⟩ ⟨Nat.le_refl 0, Nat.le_refl 0⟩ (As := []) (st := [.ref 69]) rfl (Nat.le_of_ble_eq_true rfl) (dOk_at dt_X5_claimLine 5 rfl) (fun v_3 h_4 _ => ?_)
  refine j_iconst hC (v := (2 : Int32)) rfl (dOk_at dt_X5_claimLine 6 rfl) ?_
  refine j_callVv hC clX5_167 (fun rz hrz => c_X5_passWord hN _ _ _ rz hrz) (show shp 69 = (5, 16) from rfl) (Nat.lt_of_lt_of_le (Nat.le_of_ble_eq_true rfl : 69 < 152) hN) (by decide) rfl rfl ⟨Nat.le_of_ble_eq_true rfl, Nat.le_of_ble_eq_true rfl⟩ ⟨Nat.le_refl 0, Nat.le_refl 0⟩ (As := [.int v_3, .int (2 : Int32)]) (st := []) rfl (Nat.le_of_ble_eq_true rfl) (dOk_at dt_X5_claimLine 7 rfl) (fun h_6 _ => ?_)
  refine j_aload_n hC 0 rfl rfl (dOk_at dt_X5_claimLine 8 rfl) ?_
  refine j_aload_n hC 0 rfl rfl (dOk_at dt_X5_claimLine 9 rfl) ?_
  refine j_getD (q := (7, 20)) hC flX5_19 (show shp 69 = (5, 16) from rfl) (Nat.lt_of_lt_of_le (Nat.le_of_ble_eq_true rfl : 69 < 152) hN) (by decide) (by decide) (fun _ _ _ => rfl) (dOk_at dt_X5_claimLine 10 rfl) (fun z_7 _ g_8 => ?_)
  refine j_getR hC flX5_153 g_8 (jlt hN g_8 (by decide)) (by decide) (by decide) (fun _ _ _ => rfl) (fun hs => hs _ _ _ (sf_7_0 g_8).1) (dOk_at dt_X5_claimLine 11 rfl) ?_
  refine j_getR hC flX5_157 (sf_7_0 g_8).2.1 (Nat.lt_of_lt_of_le (sf_7_0 g_8).2.2 hN) (by decide) (by decide) (fun _ _ _ => rfl) (fun hs => hs _ _ _ (sf_0_0 (sf_7_0 g_8).2.1).1) (dOk_at dt_X5_claimLine 12 rfl) ?_
  refine j_callVi hC clX5_171 (fun rz hrz => c_X5_freshName hN ((sf_0_0 (sf_7_0 g_8).2.1).2.1) _ rz hrz) (show shp 69 = (5, 16) from rfl) (Nat.lt_of_lt_of_le (Nat.le_of_ble_eq_true rfl : 69 < 152) hN) (by decide) rfl rfl ⟨Nat.le_of_ble_eq_true rfl, Nat.le_of_ble_eq_true rfl⟩ ⟨Nat.le_refl 0, Nat.le_refl 0⟩ (As := [.ref (rf (rf z_7 0) 0)]) (st := []) rfl (Nat.le_of_ble_eq_true rfl) (dOk_at dt_X5_claimLine 13 rfl) (fun v_9 h_10 _ => ?_)
  refine j_istore_n hC rfl (lv' := [(1, .int v_9), (0, .ref 69)]) (by decide) rfl (dOk_at dt_X5_claimLine 14 rfl) ?_
  refine j_aload_n hC 1 rfl rfl (dOk_at dt_X5_claimLine 15 rfl) ?_
  refine j_iconst hC (v := (0 : Int32)) rfl (dOk_at dt_X5_claimLine 16 rfl) ?_
  refine j_bipush hC (v := (99 : Int32)) rfl (dOk_at dt_X5_claimLine 17 rfl) ?_
  refine j_callVi hC clX5_175 (fun rz hrz => c_X5_numberWithin hN _ _ _ rz hrz) (show shp 69 = (5, 16) from rfl) (Nat.lt_of_lt_of_le (Nat.le_of_ble_eq_true rfl : 69 < 152) hN) (by decide) rfl rfl ⟨Nat.le_of_ble_eq_true rfl, Nat.le_of_ble_eq_true rfl⟩ ⟨Nat.le_refl 0, Nat.le_refl 0⟩ (As := [.int (0 : Int32), .int (99 : Int32)]) (st := []) rfl (Nat.le_of_ble_eq_true rfl) (dOk_at dt_X5_claimLine 18 rfl) (fun v_11 h_12 _ => ?_)
  refine j_istore_n hC rfl (lv' := [(2, .int v_11), (1, .int v_9), (0, .ref 69)]) (by decide) rfl (dOk_at dt_X5_claimLine 19 rfl) ?_
  refine j_aload_n hC 2 rfl rfl (dOk_at dt_X5_claimLine 20 rfl) ?_
  refine j_iconst hC (v := (0 : Int32)) rfl (dOk_at dt_X5_claimLine 21 rfl) ?_
  refine j_bipush hC (v := (9 : Int32)) rfl (dOk_at dt_X5_claimLine 22 rfl) ?_
  refine j_callVi hC clX5_175 (fun rz hrz => c_X5_numberWithin hN _ _ _ rz hrz) (show shp 69 = (5, 16) from rfl) (Nat.lt_of_lt_of_le (Nat.le_of_ble_eq_true rfl : 69 < 152) hN) (by decide) rfl rfl ⟨Nat.le_of_ble_eq_true rfl, Nat.le_of_ble_eq_true rfl⟩ ⟨Nat.le_refl 0, Nat.le_refl 0⟩ (As := [.int (0 : Int32), .int (9 : Int32)]) (st := []) rfl (Nat.le_of_ble_eq_true rfl) (dOk_at dt_X5_claimLine 23 rfl) (fun v_13 h_14 _ => ?_)
  refine j_istore_n hC rfl (lv' := [(3, .int v_13), (2, .int v_11), (1, .int v_9), (0, .ref 69)]) (by decide) rfl (dOk_at dt_X5_claimLine 24 rfl) ?_
  refine j_aload_n hC 3 rfl rfl (dOk_at dt_X5_claimLine 25 rfl) ?_
  refine j_getI hC flX5_73 (show shp 69 = (5, 16) from rfl) (Nat.lt_of_lt_of_le (Nat.le_of_ble_eq_true rfl : 69 < 152) hN) (by decide) (by decide) (fun _ _ _ => rfl) (dOk_at dt_X5_claimLine 26 rfl) ?_
  refine j_if_ne hC (tgt := 69) (by decide) (dOk_at dt_X5_claimLine 27 rfl) (fun q_15 => ?_) (fun q_15 => ?_)
  · exact j_vret hC hret (dOk_at dt_X5_claimLine 35 rfl)
  · refine j_aload_n hC 3 rfl rfl (dOk_at dt_X5_claimLine 28 rfl) ?_
    refine j_getD (q := (7, 20)) hC flX5_19 (show shp 69 = (5, 16) from rfl) (Nat.lt_of_lt_of_le (Nat.le_of_ble_eq_true rfl : 69 < 152) hN) (by decide) (by decide) (fun _ _ _ => rfl) (dOk_at dt_X5_claimLine 29 rfl) (fun z_16 _ g_17 => ?_)
    refine j_getR hC flX5_153 g_17 (jlt hN g_17 (by decide)) (by decide) (by decide) (fun _ _ _ => rfl) (fun hs => hs _ _ _ (sf_7_0 g_17).1) (dOk_at dt_X5_claimLine 30 rfl) ?_
    refine j_iload_n hC 2 rfl rfl (dOk_at dt_X5_claimLine 31 rfl) ?_
    refine j_iload_n hC 1 rfl rfl (dOk_at dt_X5_claimLine 32 rfl) ?_
    refine j_iload_n hC 0 rfl rfl (dOk_at dt_X5_claimLine 33 rfl) ?_
    refine j_callVv hC clX5_178 (fun rz hrz => c_X0_add hN ((sf_7_0 g_17).2.1) _ _ _ _ rz hrz) (sf_7_0 g_17).2.1 (Nat.lt_of_lt_of_le (sf_7_0 g_17).2.2 hN) (by decide) rfl rfl ⟨Nat.le_of_ble_eq_true rfl, Nat.le_of_ble_eq_true rfl⟩ ⟨Nat.le_refl 0, Nat.le_refl 0⟩ (As := [.int v_9, .int v_11, .int v_13]) (st := []) rfl (Nat.le_of_ble_eq_true rfl) (dOk_at dt_X5_claimLine 34 rfl) (fun h_19 _ => ?_)
    exact j_vret hC hret (dOk_at dt_X5_claimLine 35 rfl)
def tb_X5_toldName : List (Nat × Instr × Nat) := [(0, .aload_n 1, 1), (1, .aload_n 0, 1), (2, .getfield 101, 3), (5, .invokevirtual 148, 3), (8, .istore_n 2, 1), (9, .aload_n 0, 1), (10, .getfield 79, 3), (13, .iconst 2, 1), (14, .if_icmp .ne 17, 3), (17, .iload_n 2, 1), (18, .iconst (-1), 1), (19, .if_icmp .ne 12, 3), (22, .aload_n 0, 1), (23, .iconst 4, 1), (24, .aload_n 0, 1), (25, .getfield 70, 3), (28, .invokevirtual 138, 3), (31, .aload_n 0, 1), (32, .iconst 2, 1), (33, .invokevirtual 142, 3), (36, .iload_n 2, 1), (37, .ireturn, 1)]
theorem dt_X5_toldName : dOk cX5_toldName tb_X5_toldName = true := by decide +kernel
def fX5_toldName_31 (r1 : Nat) (h : Hp) (x2 : Int32) : Option (Int32 × Hp) := (fX5_pass h (2 : Int32)).bind (fun h_8 => some (x2, h_8))
def fX5_toldName (r1 : Nat) (h : Hp) : Option (Int32 × Hp) := bnd (fX6_find r1 h (hI h 69 10)) (fun v_1 h_2 => if (hI h_2 69 7) = (2 : Int32) then (if v_1 = (-1 : Int32) then ((fX5_fail h_2 (4 : Int32) (hI h_2 69 8)).bind (fun h_6 => fX5_toldName_31 r1 h_6 v_1)) else (fX5_toldName_31 r1 h_2 v_1)) else (fX5_toldName_31 r1 h_2 v_1))
set_option maxRecDepth 100000 in
set_option maxHeartbeats 4000000 in
theorem c_X5_toldName {l : Launch} {sb : State} {D : va_G} {ids : Nat → ClassId} {n : Nat} (hN : 152 ≤ n) {r1 : Nat} (h1 : shp r1 = (6, 3)) (h : Hp) (r : Int32 × Hp) (hr : fX5_toldName r1 h = some r) : jM l yX5_toldName cX5_toldName 3 (some .int) 3 sb D ids shp St n [.ref 69, .ref r1] h (jQi sb D ids shp St n r) := by
  refine jM_of hr rfl (Nat.le_of_ble_eq_true rfl) ?_
  intro p e s m args below meth c hC hret
  have b31 : ∀ (h : Hp) (x2 : Int32) , jJ p l e (rmD 3) s m args below meth c 3 sb D ids shp St (fun r => MQ below (jQi sb D ids shp St n r) args s 0 0 (jA sb)) n 0 0 h 31 [(0, .ref 69), (2, .int x2)] [] (fX5_toldName_31 r1 h x2) := by
    intro h x2 
    unfold fX5_toldName_31
    refine j_aload_n hC 0 rfl rfl (dOk_at dt_X5_toldName 17 rfl) ?_
    refine j_iconst hC (v := (2 : Int32)) rfl (dOk_at dt_X5_toldName 18 rfl) ?_
    refine j_callVv hC clX5_142 (fun rz hrz => c_X5_pass hN _ _ rz hrz) (show shp 69 = (5, 16) from rfl) (Nat.lt_of_lt_of_le (Nat.le_of_ble_eq_true rfl : 69 < 152) hN) (by decide) rfl rfl ⟨Nat.le_of_ble_eq_true rfl, Nat.le_of_ble_eq_true rfl⟩ ⟨Nat.le_refl 0, Nat.le_refl 0⟩ (As := [.int (2 : Int32)]) (st := []) rfl (Nat.le_of_ble_eq_true rfl) (dOk_at dt_X5_toldName 19 rfl) (fun h_8 _ => ?_)
    refine j_iload_n hC 1 rfl rfl (dOk_at dt_X5_toldName 20 rfl) ?_
    exact j_iret hC hret (dOk_at dt_X5_toldName 21 rfl)
  unfold fX5_toldName
  refine j_aload_n hC 1 rfl rfl (dOk_at dt_X5_toldName 0 rfl) ?_
  refine j_aload_n hC 0 rfl rfl (dOk_at dt_X5_toldName 1 rfl) ?_
  refine j_getI hC flX5_101 (show shp 69 = (5, 16) from rfl) (Nat.lt_of_lt_of_le (Nat.le_of_ble_eq_true rfl : 69 < 152) hN) (by decide) (by decide) (fun _ _ _ => rfl) (dOk_at dt_X5_toldName 2 rfl) ?_
  refine j_callVi hC clX5_148 (fun rz hrz => c_X6_find hN (h1) _ _ rz hrz) h1 (jlt hN h1 (by decide)) (by decide) rfl rfl ⟨Nat.le_of_ble_eq_true rfl, Nat.le_of_ble_eq_true rfl⟩ ⟨Nat.le_refl 0, Nat.le_refl 0⟩ (As := [.int (hI h 69 10)]) (st := []) rfl (Nat.le_of_ble_eq_true rfl) (dOk_at dt_X5_toldName 3 rfl) (fun v_1 h_2 _ => ?_)
  refine j_istore_n hC rfl (lv' := [(2, .int v_1), (0, .ref 69), (1, .ref r1)]) (by decide) rfl (dOk_at dt_X5_toldName 4 rfl) ?_
  refine j_aload_n hC 1 rfl rfl (dOk_at dt_X5_toldName 5 rfl) ?_
  refine j_getI hC flX5_79 (show shp 69 = (5, 16) from rfl) (Nat.lt_of_lt_of_le (Nat.le_of_ble_eq_true rfl : 69 < 152) hN) (by decide) (by decide) (fun _ _ _ => rfl) (dOk_at dt_X5_toldName 6 rfl) ?_
  refine j_iconst hC (v := (2 : Int32)) rfl (dOk_at dt_X5_toldName 7 rfl) ?_
  refine j_icmp_ne hC (tgt := 31) (by decide) (dOk_at dt_X5_toldName 8 rfl) (fun q_3 => ?_) (fun q_3 => ?_)
  · refine j_sub [1, 0] rfl ?_
    exact b31 h_2 v_1 
  · refine j_iload_n hC 0 rfl rfl (dOk_at dt_X5_toldName 9 rfl) ?_
    refine j_iconst hC (v := (-1 : Int32)) rfl (dOk_at dt_X5_toldName 10 rfl) ?_
    refine j_icmp_ne hC (tgt := 31) (by decide) (dOk_at dt_X5_toldName 11 rfl) (fun q_4 => ?_) (fun q_4 => ?_)
    · refine j_sub [1, 0] rfl ?_
      exact b31 h_2 v_1 
    · refine j_aload_n hC 1 rfl rfl (dOk_at dt_X5_toldName 12 rfl) ?_
      refine j_iconst hC (v := (4 : Int32)) rfl (dOk_at dt_X5_toldName 13 rfl) ?_
      refine j_aload_n hC 1 rfl rfl (dOk_at dt_X5_toldName 14 rfl) ?_
      refine j_getI hC flX5_70 (show shp 69 = (5, 16) from rfl) (Nat.lt_of_lt_of_le (Nat.le_of_ble_eq_true rfl : 69 < 152) hN) (by decide) (by decide) (fun _ _ _ => rfl) (dOk_at dt_X5_toldName 15 rfl) ?_
      refine j_callVv hC clX5_138 (fun rz hrz => c_X5_fail hN _ _ _ rz hrz) (show shp 69 = (5, 16) from rfl) (Nat.lt_of_lt_of_le (Nat.le_of_ble_eq_true rfl : 69 < 152) hN) (by decide) rfl rfl ⟨Nat.le_of_ble_eq_true rfl, Nat.le_of_ble_eq_true rfl⟩ ⟨Nat.le_refl 0, Nat.le_refl 0⟩ (As := [.int (4 : Int32), .int (hI h_2 69 8)]) (st := []) rfl (Nat.le_of_ble_eq_true rfl) (dOk_at dt_X5_toldName 16 rfl) (fun h_6 _ => ?_)
      refine j_sub [1, 0] rfl ?_
      exact b31 h_6 v_1 
def tb_X5_contraLine : List (Nat × Instr × Nat) := [(0, .aload_n 0, 1), (1, .aload_n 0, 1), (2, .getfield 19, 3), (5, .getfield 153, 3), (8, .getfield 182, 3), (11, .bipush 16, 2), (13, .if_icmp .ge 7, 3), (16, .iconst 1, 1), (17, .goto 4, 3), (20, .iconst 0, 1), (21, .iconst 2, 1), (22, .invokevirtual 167, 3), (25, .aload_n 0, 1), (26, .aload_n 0, 1), (27, .getfield 19, 3), (30, .getfield 153, 3), (33, .getfield 157, 3), (36, .invokevirtual 185, 3), (39, .istore_n 1, 1), (40, .aload_n 0, 1), (41, .aload_n 0, 1), (42, .getfield 19, 3), (45, .getfield 153, 3), (48, .getfield 157, 3), (51, .invokevirtual 185, 3), (54, .istore_n 2, 1), (55, .aload_n 0, 1), (56, .getfield 19, 3), (59, .getfield 153, 3), (62, .iload_n 1, 1), (63, .invokevirtual 188, 3), (66, .iload_n 2, 1), (67, .ishr, 1), (68, .iconst 1, 1), (69, .iand, 1), (70, .iconst 1, 1), (71, .if_icmp .ne 12, 3), (74, .aload_n 0, 1), (75, .iconst 3, 1), (76, .aload_n 0, 1), (77, .getfield 82, 3), (80, .invokevirtual 138, 3), (83, .iload_n 1, 1), (84, .iload_n 2, 1), (85, .if_icmp .ne 12, 3), (88, .aload_n 0, 1), (89, .iconst 5, 1), (90, .aload_n 0, 1), (91, .getfield 82, 3), (94, .invokevirtual 138, 3), (97, .aload_n 0, 1), (98, .getfield 73, 3), (101, .ifCond .ne 15, 3), (104, .aload_n 0, 1), (105, .getfield 19, 3), (108, .getfield 153, 3), (111, .iload_n 1, 1), (112, .iload_n 2, 1), (113, .invokevirtual 191, 3), (116, .return_, 1)]
theorem dt_X5_contraLine : dOk cX5_contraLine tb_X5_contraLine = true := by decide +kernel
def fX5_contraLine_97 (h : Hp) (x1 : Int32) (x2 : Int32) : Option (Hp) := if (hI h 69 14) = 0 then ((dref shp h 69 4 (7, 20)).bind (fun z_25 => (fX0_addContra (rf z_25 0) h x1 x2).bind (fun h_28 => some h_28))) else (some h)
def fX5_contraLine_83 (h : Hp) (x1 : Int32) (x2 : Int32) : Option (Hp) := if x1 = x2 then ((fX5_fail h (5 : Int32) (hI h 69 9)).bind (fun h_23 => fX5_contraLine_97 h_23 x1 x2)) else (fX5_contraLine_97 h x1 x2)
def fX5_contraLine_21 (h : Hp) (s1 : Int32) : Option (Hp) := (fX5_passWord h s1 (2 : Int32)).bind (fun h_5 => (dref shp h_5 69 4 (7, 20)).bind (fun z_6 => bnd (fX5_toldName (rf (rf z_6 0) 0) h_5) (fun v_8 h_9 => (dref shp h_9 69 4 (7, 20)).bind (fun z_10 => bnd (fX5_toldName (rf (rf z_10 0) 0) h_9) (fun v_12 h_13 => (dref shp h_13 69 4 (7, 20)).bind (fun z_14 => bnd (fX0_hitBy (rf z_14 0) h_13 v_8) (fun v_16 h_17 => if ((v_16 >>> (v_12 &&& 31)) &&& (1 : Int32)) = (1 : Int32) then ((fX5_fail h_17 (3 : Int32) (hI h_17 69 9)).bind (fun h_20 => fX5_contraLine_83 h_20 v_8 v_12)) else (fX5_contraLine_83 h_17 v_8 v_12))))))))
def fX5_contraLine (h : Hp) : Option (Hp) := (dref shp h 69 4 (7, 20)).bind (fun z_1 => if (16 : Int32) ≤ (hI h (rf z_1 0) 5) then (fX5_contraLine_21 h (0 : Int32)) else (fX5_contraLine_21 h (1 : Int32)))
set_option maxRecDepth 100000 in
set_option maxHeartbeats 4000000 in
theorem c_X5_contraLine {l : Launch} {sb : State} {D : va_G} {ids : Nat → ClassId} {n : Nat} (hN : 152 ≤ n) (h : Hp) (r : Hp) (hr : fX5_contraLine h = some r) : jM l yX5_contraLine cX5_contraLine 3 none 4 sb D ids shp St n [.ref 69] h (jQv sb D ids shp St n r) := by
  refine jM_of hr rfl (Nat.le_of_ble_eq_true rfl) ?_
  intro p e s m args below meth c hC hret
  have b97 : ∀ (h : Hp) (x1 : Int32) (x2 : Int32) , jJ p l e (rmD 4) s m args below meth c 3 sb D ids shp St (fun r => MQ below (jQv sb D ids shp St n r) args s 0 0 (jA sb)) n 0 0 h 97 [(0, .ref 69), (1, .int x1), (2, .int x2)] [] (fX5_contraLine_97 h x1 x2) := by
    intro h x1 x2 
    unfold fX5_contraLine_97
    refine j_aload_n hC 0 rfl rfl (dOk_at dt_X5_contraLine 50 rfl) ?_
    refine j_getI hC flX5_73 (show shp 69 = (5, 16) from rfl) (Nat.lt_of_lt_of_le (Nat.le_of_ble_eq_true rfl : 69 < 152) hN) (by decide) (by decide) (fun _ _ _ => rfl) (dOk_at dt_X5_contraLine 51 rfl) ?_
    refine j_if_ne hC (tgt := 116) (by decide) (dOk_at dt_X5_contraLine 52 rfl) (fun q_24 => ?_) (fun q_24 => ?_)
    · exact j_vret hC hret (dOk_at dt_X5_contraLine 59 rfl)
    · refine j_aload_n hC 0 rfl rfl (dOk_at dt_X5_contraLine 53 rfl) ?_
      refine j_getD (q := (7, 20)) hC flX5_19 (show shp 69 = (5, 16) from rfl) (Nat.lt_of_lt_of_le (Nat.le_of_ble_eq_true rfl : 69 < 152) hN) (by decide) (by decide) (fun _ _ _ => rfl) (dOk_at dt_X5_contraLine 54 rfl) (fun z_25 _ g_26 => ?_)
      refine j_getR hC flX5_153 g_26 (jlt hN g_26 (by decide)) (by decide) (by decide) (fun _ _ _ => rfl) (fun hs => hs _ _ _ (sf_7_0 g_26).1) (dOk_at dt_X5_contraLine 55 rfl) ?_
      refine j_iload_n hC 1 rfl rfl (dOk_at dt_X5_contraLine 56 rfl) ?_
      refine j_iload_n hC 2 rfl rfl (dOk_at dt_X5_contraLine 57 rfl) ?_
      refine j_callVv hC clX5_191 (fun rz hrz => c_X0_addContra hN ((sf_7_0 g_26).2.1) _ _ _ rz hrz) (sf_7_0 g_26).2.1 (Nat.lt_of_lt_of_le (sf_7_0 g_26).2.2 hN) (by decide) rfl rfl ⟨Nat.le_of_ble_eq_true rfl, Nat.le_of_ble_eq_true rfl⟩ ⟨Nat.le_refl 0, Nat.le_refl 0⟩ (As := [.int x1, .int x2]) (st := []) rfl (Nat.le_of_ble_eq_true rfl) (dOk_at dt_X5_contraLine 58 rfl) (fun h_28 _ => ?_)
      exact j_vret hC hret (dOk_at dt_X5_contraLine 59 rfl)
  have b83 : ∀ (h : Hp) (x1 : Int32) (x2 : Int32) , jJ p l e (rmD 4) s m args below meth c 3 sb D ids shp St (fun r => MQ below (jQv sb D ids shp St n r) args s 0 0 (jA sb)) n 0 0 h 83 [(0, .ref 69), (1, .int x1), (2, .int x2)] [] (fX5_contraLine_83 h x1 x2) := by
    intro h x1 x2 
    unfold fX5_contraLine_83
    refine j_iload_n hC 1 rfl rfl (dOk_at dt_X5_contraLine 42 rfl) ?_
    refine j_iload_n hC 2 rfl rfl (dOk_at dt_X5_contraLine 43 rfl) ?_
    refine j_icmp_ne hC (tgt := 97) (by decide) (dOk_at dt_X5_contraLine 44 rfl) (fun q_21 => ?_) (fun q_21 => ?_)
    · exact b97 h x1 x2 
    · refine j_aload_n hC 0 rfl rfl (dOk_at dt_X5_contraLine 45 rfl) ?_
      refine j_iconst hC (v := (5 : Int32)) rfl (dOk_at dt_X5_contraLine 46 rfl) ?_
      refine j_aload_n hC 0 rfl rfl (dOk_at dt_X5_contraLine 47 rfl) ?_
      refine j_getI hC flX5_82 (show shp 69 = (5, 16) from rfl) (Nat.lt_of_lt_of_le (Nat.le_of_ble_eq_true rfl : 69 < 152) hN) (by decide) (by decide) (fun _ _ _ => rfl) (dOk_at dt_X5_contraLine 48 rfl) ?_
      refine j_callVv hC clX5_138 (fun rz hrz => c_X5_fail hN _ _ _ rz hrz) (show shp 69 = (5, 16) from rfl) (Nat.lt_of_lt_of_le (Nat.le_of_ble_eq_true rfl : 69 < 152) hN) (by decide) rfl rfl ⟨Nat.le_of_ble_eq_true rfl, Nat.le_of_ble_eq_true rfl⟩ ⟨Nat.le_refl 0, Nat.le_refl 0⟩ (As := [.int (5 : Int32), .int (hI h 69 9)]) (st := []) rfl (Nat.le_of_ble_eq_true rfl) (dOk_at dt_X5_contraLine 49 rfl) (fun h_23 _ => ?_)
      exact b97 h_23 x1 x2 
  have b21 : ∀ (h : Hp) (s1 : Int32) , jJ p l e (rmD 4) s m args below meth c 3 sb D ids shp St (fun r => MQ below (jQv sb D ids shp St n r) args s 0 0 (jA sb)) n 0 0 h 21 [(0, .ref 69)] [.int s1, .ref 69] (fX5_contraLine_21 h s1) := by
    intro h s1 
    unfold fX5_contraLine_21
    refine j_iconst hC (v := (2 : Int32)) rfl (dOk_at dt_X5_contraLine 10 rfl) ?_
    refine j_callVv hC clX5_167 (fun rz hrz => c_X5_passWord hN _ _ _ rz hrz) (show shp 69 = (5, 16) from rfl) (Nat.lt_of_lt_of_le (Nat.le_of_ble_eq_true rfl : 69 < 152) hN) (by decide) rfl rfl ⟨Nat.le_of_ble_eq_true rfl, Nat.le_of_ble_eq_true rfl⟩ ⟨Nat.le_refl 0, Nat.le_refl 0⟩ (As := [.int s1, .int (2 : Int32)]) (st := []) rfl (Nat.le_of_ble_eq_true rfl) (dOk_at dt_X5_contraLine 11 rfl) (fun h_5 _ => ?_)
    refine j_aload_n hC 0 rfl rfl (dOk_at dt_X5_contraLine 12 rfl) ?_
    refine j_aload_n hC 0 rfl rfl (dOk_at dt_X5_contraLine 13 rfl) ?_
    refine j_getD (q := (7, 20)) hC flX5_19 (show shp 69 = (5, 16) from rfl) (Nat.lt_of_lt_of_le (Nat.le_of_ble_eq_true rfl : 69 < 152) hN) (by decide) (by decide) (fun _ _ _ => rfl) (dOk_at dt_X5_contraLine 14 rfl) (fun z_6 _ g_7 => ?_)
    refine j_getR hC flX5_153 g_7 (jlt hN g_7 (by decide)) (by decide) (by decide) (fun _ _ _ => rfl) (fun hs => hs _ _ _ (sf_7_0 g_7).1) (dOk_at dt_X5_contraLine 15 rfl) ?_
    refine j_getR hC flX5_157 (sf_7_0 g_7).2.1 (Nat.lt_of_lt_of_le (sf_7_0 g_7).2.2 hN) (by decide) (by decide) (fun _ _ _ => rfl) (fun hs => hs _ _ _ (sf_0_0 (sf_7_0 g_7).2.1).1) (dOk_at dt_X5_contraLine 16 rfl) ?_
    refine j_callVi hC clX5_185 (fun rz hrz => c_X5_toldName hN ((sf_0_0 (sf_7_0 g_7).2.1).2.1) _ rz hrz) (show shp 69 = (5, 16) from rfl) (Nat.lt_of_lt_of_le (Nat.le_of_ble_eq_true rfl : 69 < 152) hN) (by decide) rfl rfl ⟨Nat.le_of_ble_eq_true rfl, Nat.le_of_ble_eq_true rfl⟩ ⟨Nat.le_refl 0, Nat.le_refl 0⟩ (As := [.ref (rf (rf z_6 0) 0)]) (st := []) rfl (Nat.le_of_ble_eq_true rfl) (dOk_at dt_X5_contraLine 17 rfl) (fun v_8 h_9 _ => ?_)
    refine j_istore_n hC rfl (lv' := [(1, .int v_8), (0, .ref 69)]) (by decide) rfl (dOk_at dt_X5_contraLine 18 rfl) ?_
    refine j_aload_n hC 1 rfl rfl (dOk_at dt_X5_contraLine 19 rfl) ?_
    refine j_aload_n hC 1 rfl rfl (dOk_at dt_X5_contraLine 20 rfl) ?_
    refine j_getD (q := (7, 20)) hC flX5_19 (show shp 69 = (5, 16) from rfl) (Nat.lt_of_lt_of_le (Nat.le_of_ble_eq_true rfl : 69 < 152) hN) (by decide) (by decide) (fun _ _ _ => rfl) (dOk_at dt_X5_contraLine 21 rfl) (fun z_10 _ g_11 => ?_)
    refine j_getR hC flX5_153 g_11 (jlt hN g_11 (by decide)) (by decide) (by decide) (fun _ _ _ => rfl) (fun hs => hs _ _ _ (sf_7_0 g_11).1) (dOk_at dt_X5_contraLine 22 rfl) ?_
    refine j_getR hC flX5_157 (sf_7_0 g_11).2.1 (Nat.lt_of_lt_of_le (sf_7_0 g_11).2.2 hN) (by decide) (by decide) (fun _ _ _ => rfl) (fun hs => hs _ _ _ (sf_0_0 (sf_7_0 g_11).2.1).1) (dOk_at dt_X5_contraLine 23 rfl) ?_
    refine j_callVi hC clX5_185 (fun rz hrz => c_X5_toldName hN ((sf_0_0 (sf_7_0 g_11).2.1).2.1) _ rz hrz) (show shp 69 = (5, 16) from rfl) (Nat.lt_of_lt_of_le (Nat.le_of_ble_eq_true rfl : 69 < 152) hN) (by decide) rfl rfl ⟨Nat.le_of_ble_eq_true rfl, Nat.le_of_ble_eq_true rfl⟩ ⟨Nat.le_refl 0, Nat.le_refl 0⟩ (As := [.ref (rf (rf z_10 0) 0)]) (st := []) rfl (Nat.le_of_ble_eq_true rfl) (dOk_at dt_X5_contraLine 24 rfl) (fun v_12 h_13 _ => ?_)
    refine j_istore_n hC rfl (lv' := [(2, .int v_12), (1, .int v_8), (0, .ref 69)]) (by decide) rfl (dOk_at dt_X5_contraLine 25 rfl) ?_
    refine j_aload_n hC 2 rfl rfl (dOk_at dt_X5_contraLine 26 rfl) ?_
    refine j_getD (q := (7, 20)) hC flX5_19 (show shp 69 = (5, 16) from rfl) (Nat.lt_of_lt_of_le (Nat.le_of_ble_eq_true rfl : 69 < 152) hN) (by decide) (by decide) (fun _ _ _ => rfl) (dOk_at dt_X5_contraLine 27 rfl) (fun z_14 _ g_15 => ?_)
    refine j_getR hC flX5_153 g_15 (jlt hN g_15 (by decide)) (by decide) (by decide) (fun _ _ _ => rfl) (fun hs => hs _ _ _ (sf_7_0 g_15).1) (dOk_at dt_X5_contraLine 28 rfl) ?_
    refine j_iload_n hC 1 rfl rfl (dOk_at dt_X5_contraLine 29 rfl) ?_
    refine j_callVi hC clX5_188 (fun rz hrz => c_X0_hitBy hN ((sf_7_0 g_15).2.1) _ _ rz hrz) (sf_7_0 g_15).2.1 (Nat.lt_of_lt_of_le (sf_7_0 g_15).2.2 hN) (by decide) rfl rfl ⟨Nat.le_of_ble_eq_true rfl, Nat.le_of_ble_eq_true rfl⟩ ⟨Nat.le_refl 0, Nat.le_refl 0⟩ (As := [.int v_8]) (st := []) rfl (Nat.le_of_ble_eq_true rfl) (dOk_at dt_X5_contraLine 30 rfl) (fun v_16 h_17 _ => ?_)
    refine j_iload_n hC 0 rfl rfl (dOk_at dt_X5_contraLine 31 rfl) ?_
    refine j_ishr hC (dOk_at dt_X5_contraLine 32 rfl) ?_
    refine j_iconst hC (v := (1 : Int32)) rfl (dOk_at dt_X5_contraLine 33 rfl) ?_
    refine j_iand hC (dOk_at dt_X5_contraLine 34 rfl) ?_
    refine j_iconst hC (v := (1 : Int32)) rfl (dOk_at dt_X5_contraLine 35 rfl) ?_
    refine j_icmp_ne hC (tgt := 83) (by decide) (dOk_at dt_X5_contraLine 36 rfl) (fun q_18 => ?_) (fun q_18 => ?_)
    · refine j_sub [2, 1, 0] rfl ?_
      exact b83 h_17 v_8 v_12 
    · refine j_aload_n hC 2 rfl rfl (dOk_at dt_X5_contraLine 37 rfl) ?_
      refine j_iconst hC (v := (3 : Int32)) rfl (dOk_at dt_X5_contraLine 38 rfl) ?_
      refine j_aload_n hC 2 rfl rfl (dOk_at dt_X5_contraLine 39 rfl) ?_
      refine j_getI hC flX5_82 (show shp 69 = (5, 16) from rfl) (Nat.lt_of_lt_of_le (Nat.le_of_ble_eq_true rfl : 69 < 152) hN) (by decide) (by decide) (fun _ _ _ => rfl) (dOk_at dt_X5_contraLine 40 rfl) ?_
      refine j_callVv hC clX5_138 (fun rz hrz => c_X5_fail hN _ _ _ rz hrz) (show shp 69 = (5, 16) from rfl) (Nat.lt_of_lt_of_le (Nat.le_of_ble_eq_true rfl : 69 < 152) hN) (by decide) rfl rfl ⟨Nat.le_of_ble_eq_true rfl, Nat.le_of_ble_eq_true rfl⟩ ⟨Nat.le_refl 0, Nat.le_refl 0⟩ (As := [.int (3 : Int32), .int (hI h_17 69 9)]) (st := []) rfl (Nat.le_of_ble_eq_true rfl) (dOk_at dt_X5_contraLine 41 rfl) (fun h_20 _ => ?_)
      refine j_sub [2, 1, 0] rfl ?_
      exact b83 h_20 v_8 v_12 
  unfold fX5_contraLine
  refine j_aload_n hC 0 rfl rfl (dOk_at dt_X5_contraLine 0 rfl) ?_
  refine j_aload_n hC 0 rfl rfl (dOk_at dt_X5_contraLine 1 rfl) ?_
  refine j_getD (q := (7, 20)) hC flX5_19 (show shp 69 = (5, 16) from rfl) (Nat.lt_of_lt_of_le (Nat.le_of_ble_eq_true rfl : 69 < 152) hN) (by decide) (by decide) (fun _ _ _ => rfl) (dOk_at dt_X5_contraLine 2 rfl) (fun z_1 _ g_2 => ?_)
  refine j_getR hC flX5_153 g_2 (jlt hN g_2 (by decide)) (by decide) (by decide) (fun _ _ _ => rfl) (fun hs => hs _ _ _ (sf_7_0 g_2).1) (dOk_at dt_X5_contraLine 3 rfl) ?_
  refine j_getI hC flX5_182 (sf_7_0 g_2).2.1 (Nat.lt_of_lt_of_le (sf_7_0 g_2).2.2 hN) (by decide) (by decide) (fun _ _ _ => rfl) (dOk_at dt_X5_contraLine 4 rfl) ?_
  refine j_bipush hC (v := (16 : Int32)) rfl (dOk_at dt_X5_contraLine 5 rfl) ?_
  refine j_icmp_ge hC (tgt := 20) (by decide) (dOk_at dt_X5_contraLine 6 rfl) (fun q_3 => ?_) (fun q_3 => ?_)
  · refine j_iconst hC (v := (0 : Int32)) rfl (dOk_at dt_X5_contraLine 9 rfl) ?_
    exact b21 h (0 : Int32) 
  · refine j_iconst hC (v := (1 : Int32)) rfl (dOk_at dt_X5_contraLine 7 rfl) ?_
    refine j_goto hC (tgt := 21) (by decide) (dOk_at dt_X5_contraLine 8 rfl) ?_
    exact b21 h (1 : Int32) 
def tb_X7_addStraw : List (Nat × Instr × Nat) := [(0, .aload_n 0, 1), (1, .getfield 23, 3), (4, .invokevirtual 95, 3), (7, .ifCond .eq 48, 3), (10, .aload_n 0, 1), (11, .getfield 23, 3), (14, .getfield 91, 3), (17, .iconst 5, 1), (18, .if_icmp .ge 37, 3), (21, .aload_n 0, 1), (22, .getfield 27, 3), (25, .aload_n 0, 1), (26, .getfield 23, 3), (29, .getfield 91, 3), (32, .iload_n 2, 1), (33, .iastore, 1), (34, .aload_n 0, 1), (35, .getfield 31, 3), (38, .aload_n 0, 1), (39, .getfield 23, 3), (42, .getfield 91, 3), (45, .iload_n 3, 1), (46, .iastore, 1), (47, .aload_n 0, 1), (48, .getfield 23, 3), (51, .iload_n 1, 1), (52, .invokevirtual 99, 3), (55, .return_, 1)]
theorem dt_X7_addStraw : dOk cX7_addStraw tb_X7_addStraw = true := by decide +kernel
def fX7_addStraw (tt : Nat) (h : Hp) (x1 : Int32) (x2 : Int32) (x3 : Int32) : Option (Hp) := bnd (fX6_hasRoom (rf tt 1) h) (fun v_1 h_2 => if v_1 = 0 then (some h_2) else (if (5 : Int32) ≤ (hI h_2 (rf tt 1) 2) then (some h_2) else (if inb (hI h_2 (rf tt 1) 2) 5 then (if inb (hI (uI h_2 (rf tt 2) (Int32.toNatClampNeg (hI h_2 (rf tt 1) 2)) x2) (rf tt 1) 2) 5 then ((fX6_add (rf tt 1) (uI (uI h_2 (rf tt 2) (Int32.toNatClampNeg (hI h_2 (rf tt 1) 2)) x2) (rf tt 3) (Int32.toNatClampNeg (hI (uI h_2 (rf tt 2) (Int32.toNatClampNeg (hI h_2 (rf tt 1) 2)) x2) (rf tt 1) 2)) x3) x1).bind (fun h_6 => some h_6)) else none) else none)))
set_option maxRecDepth 100000 in
set_option maxHeartbeats 4000000 in
theorem c_X7_addStraw {l : Launch} {sb : State} {D : va_G} {ids : Nat → ClassId} {n : Nat} (hN : 152 ≤ n) {tt : Nat} (ht : shp tt = (7, 20)) (h : Hp) (x1 : Int32) (x2 : Int32) (x3 : Int32) (r : Hp) (hr : fX7_addStraw tt h x1 x2 x3 = some r) : jM l yX7_addStraw cX7_addStraw 4 none 2 sb D ids shp St n [.ref tt, .int x1, .int x2, .int x3] h (jQv sb D ids shp St n r) := by
  refine jM_of hr rfl (Nat.le_of_ble_eq_true rfl) ?_
  intro p e s m args below meth c hC hret
  unfold fX7_addStraw
  refine j_aload_n hC 0 rfl rfl (dOk_at dt_X7_addStraw 0 rfl) ?_
  refine j_getR hC flX7_23 ht (jlt hN ht (by decide)) (by decide) (by decide) (fun _ _ _ => rfl) (fun hs => hs _ _ _ (sf_7_1 ht).1) (dOk_at dt_X7_addStraw 1 rfl) ?_
  refine j_callVi hC clX7_95 (fun rz hrz => c_X6_hasRoom hN ((sf_7_1 ht).2.1) _ rz hrz) (sf_7_1 ht).2.1 (Nat.lt_of_lt_of_le (sf_7_1 ht).2.2 hN) (by decide) rfl rfl ⟨Nat.le_of_ble_eq_true rfl, Nat.le_of_ble_eq_true rfl⟩ ⟨Nat.le_refl 0, Nat.le_refl 0⟩ (As := []) (st := []) rfl (Nat.le_of_ble_eq_true rfl) (dOk_at dt_X7_addStraw 2 rfl) (fun v_1 h_2 _ => ?_)
  refine j_if_eq hC (tgt := 55) (by decide) (dOk_at dt_X7_addStraw 3 rfl) (fun q_3 => ?_) (fun q_3 => ?_)
  · exact j_vret hC hret (dOk_at dt_X7_addStraw 27 rfl)
  · refine j_aload_n hC 0 rfl rfl (dOk_at dt_X7_addStraw 4 rfl) ?_
    refine j_getR hC flX7_23 ht (jlt hN ht (by decide)) (by decide) (by decide) (fun _ _ _ => rfl) (fun hs => hs _ _ _ (sf_7_1 ht).1) (dOk_at dt_X7_addStraw 5 rfl) ?_
    refine j_getI hC flX7_91 (sf_7_1 ht).2.1 (Nat.lt_of_lt_of_le (sf_7_1 ht).2.2 hN) (by decide) (by decide) (fun _ _ _ => rfl) (dOk_at dt_X7_addStraw 6 rfl) ?_
    refine j_iconst hC (v := (5 : Int32)) rfl (dOk_at dt_X7_addStraw 7 rfl) ?_
    refine j_icmp_ge hC (tgt := 55) (by decide) (dOk_at dt_X7_addStraw 8 rfl) (fun q_4 => ?_) (fun q_4 => ?_)
    · exact j_vret hC hret (dOk_at dt_X7_addStraw 27 rfl)
    · refine j_aload_n hC 0 rfl rfl (dOk_at dt_X7_addStraw 9 rfl) ?_
      refine j_getR hC flX7_27 ht (jlt hN ht (by decide)) (by decide) (by decide) (fun _ _ _ => rfl) (fun hs => hs _ _ _ (sf_7_2 ht).1) (dOk_at dt_X7_addStraw 10 rfl) ?_
      refine j_aload_n hC 0 rfl rfl (dOk_at dt_X7_addStraw 11 rfl) ?_
      refine j_getR hC flX7_23 ht (jlt hN ht (by decide)) (by decide) (by decide) (fun _ _ _ => rfl) (fun hs => hs _ _ _ (sf_7_1 ht).1) (dOk_at dt_X7_addStraw 12 rfl) ?_
      refine j_getI hC flX7_91 (sf_7_1 ht).2.1 (Nat.lt_of_lt_of_le (sf_7_1 ht).2.2 hN) (by decide) (by decide) (fun _ _ _ => rfl) (dOk_at dt_X7_addStraw 13 rfl) ?_
      refine j_iload_n hC 2 rfl rfl (dOk_at dt_X7_addStraw 14 rfl) ?_
      refine j_iast hC St_SP (sf_7_2 ht).2.1 (Nat.lt_of_lt_of_le (sf_7_2 ht).2.2 hN) (dOk_at dt_X7_addStraw 15 rfl) ?_
      refine j_aload_n hC 0 rfl rfl (dOk_at dt_X7_addStraw 16 rfl) ?_
      refine j_getR hC flX7_31 ht (jlt hN ht (by decide)) (by decide) (by decide) (fun _ _ _ => rfl) (fun hs => hs _ _ _ (sf_7_3 ht).1) (dOk_at dt_X7_addStraw 17 rfl) ?_
      refine j_aload_n hC 0 rfl rfl (dOk_at dt_X7_addStraw 18 rfl) ?_
      refine j_getR hC flX7_23 ht (jlt hN ht (by decide)) (by decide) (by decide) (fun _ _ _ => rfl) (fun hs => hs _ _ _ (sf_7_1 ht).1) (dOk_at dt_X7_addStraw 19 rfl) ?_
      refine j_getI hC flX7_91 (sf_7_1 ht).2.1 (Nat.lt_of_lt_of_le (sf_7_1 ht).2.2 hN) (by decide) (by decide) (fun _ _ _ => rfl) (dOk_at dt_X7_addStraw 20 rfl) ?_
      refine j_iload_n hC 3 rfl rfl (dOk_at dt_X7_addStraw 21 rfl) ?_
      refine j_iast hC St_SP (sf_7_3 ht).2.1 (Nat.lt_of_lt_of_le (sf_7_3 ht).2.2 hN) (dOk_at dt_X7_addStraw 22 rfl) ?_
      refine j_aload_n hC 0 rfl rfl (dOk_at dt_X7_addStraw 23 rfl) ?_
      refine j_getR hC flX7_23 ht (jlt hN ht (by decide)) (by decide) (by decide) (fun _ _ _ => rfl) (fun hs => hs _ _ _ (sf_7_1 ht).1) (dOk_at dt_X7_addStraw 24 rfl) ?_
      refine j_iload_n hC 1 rfl rfl (dOk_at dt_X7_addStraw 25 rfl) ?_
      refine j_callVv hC clX7_99 (fun rz hrz => c_X6_add hN ((sf_7_1 ht).2.1) _ _ rz hrz) (sf_7_1 ht).2.1 (Nat.lt_of_lt_of_le (sf_7_1 ht).2.2 hN) (by decide) rfl rfl ⟨Nat.le_of_ble_eq_true rfl, Nat.le_of_ble_eq_true rfl⟩ ⟨Nat.le_refl 0, Nat.le_refl 0⟩ (As := [.int x1]) (st := []) rfl (Nat.le_of_ble_eq_true rfl) (dOk_at dt_X7_addStraw 26 rfl) (fun h_6 _ => ?_)
      exact j_vret hC hret (dOk_at dt_X7_addStraw 27 rfl)
def tb_X5_strawLine : List (Nat × Instr × Nat) := [(0, .aload_n 0, 1), (1, .aload_n 0, 1), (2, .getfield 19, 3), (5, .getfield 194, 3), (8, .invokevirtual 163, 3), (11, .iconst 2, 1), (12, .invokevirtual 167, 3), (15, .aload_n 0, 1), (16, .aload_n 0, 1), (17, .getfield 19, 3), (20, .getfield 194, 3), (23, .invokevirtual 171, 3), (26, .istore_n 1, 1), (27, .aload_n 0, 1), (28, .aload_n 0, 1), (29, .getfield 19, 3), (32, .getfield 153, 3), (35, .getfield 157, 3), (38, .invokevirtual 185, 3), (41, .istore_n 2, 1), (42, .aload_n 0, 1), (43, .iconst 1, 1), (44, .bipush 99, 2), (46, .invokevirtual 175, 3), (49, .istore_n 3, 1), (50, .aload_n 0, 1), (51, .getfield 73, 3), (54, .ifCond .ne 13, 3), (57, .aload_n 0, 1), (58, .getfield 19, 3), (61, .iload_n 1, 1), (62, .iload_n 2, 1), (63, .iload_n 3, 1), (64, .invokevirtual 197, 3), (67, .return_, 1)]
theorem dt_X5_strawLine : dOk cX5_strawLine tb_X5_strawLine = true := by decide +kernel
def fX5_strawLine (h : Hp) : Option (Hp) := (dref shp h 69 4 (7, 20)).bind (fun z_1 => bnd (fX6_hasRoom (rf z_1 1) h) (fun v_3 h_4 => (fX5_passWord h_4 v_3 (2 : Int32)).bind (fun h_6 => (dref shp h_6 69 4 (7, 20)).bind (fun z_7 => bnd (fX5_freshName (rf z_7 1) h_6) (fun v_9 h_10 => (dref shp h_10 69 4 (7, 20)).bind (fun z_11 => bnd (fX5_toldName (rf (rf z_11 0) 0) h_10) (fun v_13 h_14 => bnd (fX5_numberWithin h_14 (1 : Int32) (99 : Int32)) (fun v_15 h_16 => if (hI h_16 69 14) = 0 then ((dref shp h_16 69 4 (7, 20)).bind (fun z_18 => (fX7_addStraw z_18 h_16 v_9 v_13 v_15).bind (fun h_21 => some h_21))) else (some h_16)))))))))
set_option maxRecDepth 100000 in
set_option maxHeartbeats 4000000 in
theorem c_X5_strawLine {l : Launch} {sb : State} {D : va_G} {ids : Nat → ClassId} {n : Nat} (hN : 152 ≤ n) (h : Hp) (r : Hp) (hr : fX5_strawLine h = some r) : jM l yX5_strawLine cX5_strawLine 4 none 4 sb D ids shp St n [.ref 69] h (jQv sb D ids shp St n r) := by
  refine jM_of hr rfl (Nat.le_of_ble_eq_true rfl) ?_
  intro p e s m args below meth c hC hret
  unfold fX5_strawLine
  refine j_aload_n hC 0 rfl rfl (dOk_at dt_X5_strawLine 0 rfl) ?_
  refine j_aload_n hC 0 rfl rfl (dOk_at dt_X5_strawLine 1 rfl) ?_
  refine j_getD (q := (7, 20)) hC flX5_19 (show shp 69 = (5, 16) from rfl) (Nat.lt_of_lt_of_le (Nat.le_of_ble_eq_true rfl : 69 < 152) hN) (by decide) (by decide) (fun _ _ _ => rfl) (dOk_at dt_X5_strawLine 2 rfl) (fun z_1 _ g_2 => ?_)
  refine j_getR hC flX5_194 g_2 (jlt hN g_2 (by decide)) (by decide) (by decide) (fun _ _ _ => rfl) (fun hs => hs _ _ _ (sf_7_1 g_2).1) (dOk_at dt_X5_strawLine 3 rfl) ?_
  refine j_callVi hC clX5_163 (fun rz hrz => c_X6_hasRoom hN ((sf_7_1 g_2).2.1) _ rz hrz) (sf_7_1 g_2).2.1 (Nat.lt_of_lt_of_le (sf_7_1 g_2).2.2 hN) (by decide) rfl rfl ⟨Nat.le_of_ble_eq_true rfl, Nat.le_of_ble_eq_true rfl⟩ ⟨Nat.le_refl 0, Nat.le_refl 0⟩ (As := []) (st := [.ref 69]) rfl (Nat.le_of_ble_eq_true rfl) (dOk_at dt_X5_strawLine 4 rfl) (fun v_3 h_4 _ => ?_)
  refine j_iconst hC (v := (2 : Int32)) rfl (dOk_at dt_X5_strawLine 5 rfl) ?_
  refine j_callVv hC clX5_167 (fun rz hrz => c_X5_passWord hN _ _ _ rz hrz) (show shp 69 = (5, 16) from rfl) (Nat.lt_of_lt_of_le (Nat.le_of_ble_eq_true rfl : 69 < 152) hN) (by decide) rfl rfl ⟨Nat.le_of_ble_eq_true rfl, Nat.le_of_ble_eq_true rfl⟩ ⟨Nat.le_refl 0, Nat.le_refl 0⟩ (As := [.int v_3, .int (2 : Int32)]) (st := []) rfl (Nat.le_of_ble_eq_true rfl) (dOk_at dt_X5_strawLine 6 rfl) (fun h_6 _ => ?_)
  refine j_aload_n hC 0 rfl rfl (dOk_at dt_X5_strawLine 7 rfl) ?_
  refine j_aload_n hC 0 rfl rfl (dOk_at dt_X5_strawLine 8 rfl) ?_
  refine j_getD (q := (7, 20)) hC flX5_19 (show shp 69 = (5, 16) from rfl) (Nat.lt_of_lt_of_le (Nat.le_of_ble_eq_true rfl : 69 < 152) hN) (by decide) (by decide) (fun _ _ _ => rfl) (dOk_at dt_X5_strawLine 9 rfl) (fun z_7 _ g_8 => ?_)
  refine j_getR hC flX5_194 g_8 (jlt hN g_8 (by decide)) (by decide) (by decide) (fun _ _ _ => rfl) (fun hs => hs _ _ _ (sf_7_1 g_8).1) (dOk_at dt_X5_strawLine 10 rfl) ?_
  refine j_callVi hC clX5_171 (fun rz hrz => c_X5_freshName hN ((sf_7_1 g_8).2.1) _ rz hrz) (show shp 69 = (5, 16) from rfl) (Nat.lt_of_lt_of_le (Nat.le_of_ble_eq_true rfl : 69 < 152) hN) (by decide) rfl rfl ⟨Nat.le_of_ble_eq_true rfl, Nat.le_of_ble_eq_true rfl⟩ ⟨Nat.le_refl 0, Nat.le_refl 0⟩ (As := [.ref (rf z_7 1)]) (st := []) rfl (Nat.le_of_ble_eq_true rfl) (dOk_at dt_X5_strawLine 11 rfl) (fun v_9 h_10 _ => ?_)
  refine j_istore_n hC rfl (lv' := [(1, .int v_9), (0, .ref 69)]) (by decide) rfl (dOk_at dt_X5_strawLine 12 rfl) ?_
  refine j_aload_n hC 1 rfl rfl (dOk_at dt_X5_strawLine 13 rfl) ?_
  refine j_aload_n hC 1 rfl rfl (dOk_at dt_X5_strawLine 14 rfl) ?_
  refine j_getD (q := (7, 20)) hC flX5_19 (show shp 69 = (5, 16) from rfl) (Nat.lt_of_lt_of_le (Nat.le_of_ble_eq_true rfl : 69 < 152) hN) (by decide) (by decide) (fun _ _ _ => rfl) (dOk_at dt_X5_strawLine 15 rfl) (fun z_11 _ g_12 => ?_)
  refine j_getR hC flX5_153 g_12 (jlt hN g_12 (by decide)) (by decide) (by decide) (fun _ _ _ => rfl) (fun hs => hs _ _ _ (sf_7_0 g_12).1) (dOk_at dt_X5_strawLine 16 rfl) ?_
  refine j_getR hC flX5_157 (sf_7_0 g_12).2.1 (Nat.lt_of_lt_of_le (sf_7_0 g_12).2.2 hN) (by decide) (by decide) (fun _ _ _ => rfl) (fun hs => hs _ _ _ (sf_0_0 (sf_7_0 g_12).2.1).1) (dOk_at dt_X5_strawLine 17 rfl) ?_
  refine j_callVi hC clX5_185 (fun rz hrz => c_X5_toldName hN ((sf_0_0 (sf_7_0 g_12).2.1).2.1) _ rz hrz) (show shp 69 = (5, 16) from rfl) (Nat.lt_of_lt_of_le (Nat.le_of_ble_eq_true rfl : 69 < 152) hN) (by decide) rfl rfl ⟨Nat.le_of_ble_eq_true rfl, Nat.le_of_ble_eq_true rfl⟩ ⟨Nat.le_refl 0, Nat.le_refl 0⟩ (As := [.ref (rf (rf z_11 0) 0)]) (st := []) rfl (Nat.le_of_ble_eq_true rfl) (dOk_at dt_X5_strawLine 18 rfl) (fun v_13 h_14 _ => ?_)
  refine j_istore_n hC rfl (lv' := [(2, .int v_13), (1, .int v_9), (0, .ref 69)]) (by decide) rfl (dOk_at dt_X5_strawLine 19 rfl) ?_
  refine j_aload_n hC 2 rfl rfl (dOk_at dt_X5_strawLine 20 rfl) ?_
  refine j_iconst hC (v := (1 : Int32)) rfl (dOk_at dt_X5_strawLine 21 rfl) ?_
  refine j_bipush hC (v := (99 : Int32)) rfl (dOk_at dt_X5_strawLine 22 rfl) ?_
  refine j_callVi hC clX5_175 (fun rz hrz => c_X5_numberWithin hN _ _ _ rz hrz) (show shp 69 = (5, 16) from rfl) (Nat.lt_of_lt_of_le (Nat.le_of_ble_eq_true rfl : 69 < 152) hN) (by decide) rfl rfl ⟨Nat.le_of_ble_eq_true rfl, Nat.le_of_ble_eq_true rfl⟩ ⟨Nat.le_refl 0, Nat.le_refl 0⟩ (As := [.int (1 : Int32), .int (99 : Int32)]) (st := []) rfl (Nat.le_of_ble_eq_true rfl) (dOk_at dt_X5_strawLine 23 rfl) (fun v_15 h_16 _ => ?_)
  refine j_istore_n hC rfl (lv' := [(3, .int v_15), (2, .int v_13), (1, .int v_9), (0, .ref 69)]) (by decide) rfl (dOk_at dt_X5_strawLine 24 rfl) ?_
  refine j_aload_n hC 3 rfl rfl (dOk_at dt_X5_strawLine 25 rfl) ?_
  refine j_getI hC flX5_73 (show shp 69 = (5, 16) from rfl) (Nat.lt_of_lt_of_le (Nat.le_of_ble_eq_true rfl : 69 < 152) hN) (by decide) (by decide) (fun _ _ _ => rfl) (dOk_at dt_X5_strawLine 26 rfl) ?_
  refine j_if_ne hC (tgt := 67) (by decide) (dOk_at dt_X5_strawLine 27 rfl) (fun q_17 => ?_) (fun q_17 => ?_)
  · exact j_vret hC hret (dOk_at dt_X5_strawLine 34 rfl)
  · refine j_aload_n hC 3 rfl rfl (dOk_at dt_X5_strawLine 28 rfl) ?_
    refine j_getD (q := (7, 20)) hC flX5_19 (show shp 69 = (5, 16) from rfl) (Nat.lt_of_lt_of_le (Nat.le_of_ble_eq_true rfl : 69 < 152) hN) (by decide) (by decide) (fun _ _ _ => rfl) (dOk_at dt_X5_strawLine 29 rfl) (fun z_18 _ g_19 => ?_)
    refine j_iload_n hC 2 rfl rfl (dOk_at dt_X5_strawLine 30 rfl) ?_
    refine j_iload_n hC 1 rfl rfl (dOk_at dt_X5_strawLine 31 rfl) ?_
    refine j_iload_n hC 0 rfl rfl (dOk_at dt_X5_strawLine 32 rfl) ?_
    refine j_callVv hC clX5_197 (fun rz hrz => c_X7_addStraw hN (g_19) _ _ _ _ rz hrz) g_19 (jlt hN g_19 (by decide)) (by decide) rfl rfl ⟨Nat.le_of_ble_eq_true rfl, Nat.le_of_ble_eq_true rfl⟩ ⟨Nat.le_refl 0, Nat.le_refl 0⟩ (As := [.int v_9, .int v_13, .int v_15]) (st := []) rfl (Nat.le_of_ble_eq_true rfl) (dOk_at dt_X5_strawLine 33 rfl) (fun h_21 _ => ?_)
    exact j_vret hC hret (dOk_at dt_X5_strawLine 34 rfl)
def tb_X7_addMember : List (Nat × Instr × Nat) := [(0, .aload_n 0, 1), (1, .getfield 34, 3), (4, .invokevirtual 95, 3), (7, .ifCond .eq 35, 3), (10, .aload_n 0, 1), (11, .getfield 34, 3), (14, .getfield 91, 3), (17, .iconst 5, 1), (18, .if_icmp .ge 24, 3), (21, .aload_n 0, 1), (22, .getfield 37, 3), (25, .aload_n 0, 1), (26, .getfield 34, 3), (29, .getfield 91, 3), (32, .iconst 0, 1), (33, .iastore, 1), (34, .aload_n 0, 1), (35, .getfield 34, 3), (38, .iload_n 1, 1), (39, .invokevirtual 99, 3), (42, .return_, 1)]
theorem dt_X7_addMember : dOk cX7_addMember tb_X7_addMember = true := by decide +kernel
def fX7_addMember (tt : Nat) (h : Hp) (x1 : Int32) : Option (Hp) := bnd (fX6_hasRoom (rf tt 4) h) (fun v_1 h_2 => if v_1 = 0 then (some h_2) else (if (5 : Int32) ≤ (hI h_2 (rf tt 4) 2) then (some h_2) else (if inb (hI h_2 (rf tt 4) 2) 5 then ((fX6_add (rf tt 4) (uI h_2 (rf tt 5) (Int32.toNatClampNeg (hI h_2 (rf tt 4) 2)) (0 : Int32)) x1).bind (fun h_6 => some h_6)) else none)))
set_option maxRecDepth 100000 in
set_option maxHeartbeats 4000000 in
theorem c_X7_addMember {l : Launch} {sb : State} {D : va_G} {ids : Nat → ClassId} {n : Nat} (hN : 152 ≤ n) {tt : Nat} (ht : shp tt = (7, 20)) (h : Hp) (x1 : Int32) (r : Hp) (hr : fX7_addMember tt h x1 = some r) : jM l yX7_addMember cX7_addMember 2 none 2 sb D ids shp St n [.ref tt, .int x1] h (jQv sb D ids shp St n r) := by
  refine jM_of hr rfl (Nat.le_of_ble_eq_true rfl) ?_
  intro p e s m args below meth c hC hret
  unfold fX7_addMember
  refine j_aload_n hC 0 rfl rfl (dOk_at dt_X7_addMember 0 rfl) ?_
  refine j_getR hC flX7_34 ht (jlt hN ht (by decide)) (by decide) (by decide) (fun _ _ _ => rfl) (fun hs => hs _ _ _ (sf_7_4 ht).1) (dOk_at dt_X7_addMember 1 rfl) ?_
  refine j_callVi hC clX7_95 (fun rz hrz => c_X6_hasRoom hN ((sf_7_4 ht).2.1) _ rz hrz) (sf_7_4 ht).2.1 (Nat.lt_of_lt_of_le (sf_7_4 ht).2.2 hN) (by decide) rfl rfl ⟨Nat.le_of_ble_eq_true rfl, Nat.le_of_ble_eq_true rfl⟩ ⟨Nat.le_refl 0, Nat.le_refl 0⟩ (As := []) (st := []) rfl (Nat.le_of_ble_eq_true rfl) (dOk_at dt_X7_addMember 2 rfl) (fun v_1 h_2 _ => ?_)
  refine j_if_eq hC (tgt := 42) (by decide) (dOk_at dt_X7_addMember 3 rfl) (fun q_3 => ?_) (fun q_3 => ?_)
  · exact j_vret hC hret (dOk_at dt_X7_addMember 20 rfl)
  · refine j_aload_n hC 0 rfl rfl (dOk_at dt_X7_addMember 4 rfl) ?_
    refine j_getR hC flX7_34 ht (jlt hN ht (by decide)) (by decide) (by decide) (fun _ _ _ => rfl) (fun hs => hs _ _ _ (sf_7_4 ht).1) (dOk_at dt_X7_addMember 5 rfl) ?_
    refine j_getI hC flX7_91 (sf_7_4 ht).2.1 (Nat.lt_of_lt_of_le (sf_7_4 ht).2.2 hN) (by decide) (by decide) (fun _ _ _ => rfl) (dOk_at dt_X7_addMember 6 rfl) ?_
    refine j_iconst hC (v := (5 : Int32)) rfl (dOk_at dt_X7_addMember 7 rfl) ?_
    refine j_icmp_ge hC (tgt := 42) (by decide) (dOk_at dt_X7_addMember 8 rfl) (fun q_4 => ?_) (fun q_4 => ?_)
    · exact j_vret hC hret (dOk_at dt_X7_addMember 20 rfl)
    · refine j_aload_n hC 0 rfl rfl (dOk_at dt_X7_addMember 9 rfl) ?_
      refine j_getR hC flX7_37 ht (jlt hN ht (by decide)) (by decide) (by decide) (fun _ _ _ => rfl) (fun hs => hs _ _ _ (sf_7_5 ht).1) (dOk_at dt_X7_addMember 10 rfl) ?_
      refine j_aload_n hC 0 rfl rfl (dOk_at dt_X7_addMember 11 rfl) ?_
      refine j_getR hC flX7_34 ht (jlt hN ht (by decide)) (by decide) (by decide) (fun _ _ _ => rfl) (fun hs => hs _ _ _ (sf_7_4 ht).1) (dOk_at dt_X7_addMember 12 rfl) ?_
      refine j_getI hC flX7_91 (sf_7_4 ht).2.1 (Nat.lt_of_lt_of_le (sf_7_4 ht).2.2 hN) (by decide) (by decide) (fun _ _ _ => rfl) (dOk_at dt_X7_addMember 13 rfl) ?_
      refine j_iconst hC (v := (0 : Int32)) rfl (dOk_at dt_X7_addMember 14 rfl) ?_
      refine j_iast hC St_SP (sf_7_5 ht).2.1 (Nat.lt_of_lt_of_le (sf_7_5 ht).2.2 hN) (dOk_at dt_X7_addMember 15 rfl) ?_
      refine j_aload_n hC 0 rfl rfl (dOk_at dt_X7_addMember 16 rfl) ?_
      refine j_getR hC flX7_34 ht (jlt hN ht (by decide)) (by decide) (by decide) (fun _ _ _ => rfl) (fun hs => hs _ _ _ (sf_7_4 ht).1) (dOk_at dt_X7_addMember 17 rfl) ?_
      refine j_iload_n hC 1 rfl rfl (dOk_at dt_X7_addMember 18 rfl) ?_
      refine j_callVv hC clX7_99 (fun rz hrz => c_X6_add hN ((sf_7_4 ht).2.1) _ _ rz hrz) (sf_7_4 ht).2.1 (Nat.lt_of_lt_of_le (sf_7_4 ht).2.2 hN) (by decide) rfl rfl ⟨Nat.le_of_ble_eq_true rfl, Nat.le_of_ble_eq_true rfl⟩ ⟨Nat.le_refl 0, Nat.le_refl 0⟩ (As := [.int x1]) (st := []) rfl (Nat.le_of_ble_eq_true rfl) (dOk_at dt_X7_addMember 19 rfl) (fun h_6 _ => ?_)
      exact j_vret hC hret (dOk_at dt_X7_addMember 20 rfl)
def tb_X5_memberLine : List (Nat × Instr × Nat) := [(0, .aload_n 0, 1), (1, .aload_n 0, 1), (2, .getfield 19, 3), (5, .getfield 200, 3), (8, .invokevirtual 163, 3), (11, .iconst 2, 1), (12, .invokevirtual 167, 3), (15, .aload_n 0, 1), (16, .aload_n 0, 1), (17, .getfield 19, 3), (20, .getfield 200, 3), (23, .invokevirtual 171, 3), (26, .istore_n 1, 1), (27, .aload_n 0, 1), (28, .getfield 73, 3), (31, .ifCond .ne 11, 3), (34, .aload_n 0, 1), (35, .getfield 19, 3), (38, .iload_n 1, 1), (39, .invokevirtual 203, 3), (42, .return_, 1)]
theorem dt_X5_memberLine : dOk cX5_memberLine tb_X5_memberLine = true := by decide +kernel
def fX5_memberLine (h : Hp) : Option (Hp) := (dref shp h 69 4 (7, 20)).bind (fun z_1 => bnd (fX6_hasRoom (rf z_1 4) h) (fun v_3 h_4 => (fX5_passWord h_4 v_3 (2 : Int32)).bind (fun h_6 => (dref shp h_6 69 4 (7, 20)).bind (fun z_7 => bnd (fX5_freshName (rf z_7 4) h_6) (fun v_9 h_10 => if (hI h_10 69 14) = 0 then ((dref shp h_10 69 4 (7, 20)).bind (fun z_12 => (fX7_addMember z_12 h_10 v_9).bind (fun h_15 => some h_15))) else (some h_10))))))
set_option maxRecDepth 100000 in
set_option maxHeartbeats 4000000 in
theorem c_X5_memberLine {l : Launch} {sb : State} {D : va_G} {ids : Nat → ClassId} {n : Nat} (hN : 152 ≤ n) (h : Hp) (r : Hp) (hr : fX5_memberLine h = some r) : jM l yX5_memberLine cX5_memberLine 2 none 4 sb D ids shp St n [.ref 69] h (jQv sb D ids shp St n r) := by
  refine jM_of hr rfl (Nat.le_of_ble_eq_true rfl) ?_
  intro p e s m args below meth c hC hret
  unfold fX5_memberLine
  refine j_aload_n hC 0 rfl rfl (dOk_at dt_X5_memberLine 0 rfl) ?_
  refine j_aload_n hC 0 rfl rfl (dOk_at dt_X5_memberLine 1 rfl) ?_
  refine j_getD (q := (7, 20)) hC flX5_19 (show shp 69 = (5, 16) from rfl) (Nat.lt_of_lt_of_le (Nat.le_of_ble_eq_true rfl : 69 < 152) hN) (by decide) (by decide) (fun _ _ _ => rfl) (dOk_at dt_X5_memberLine 2 rfl) (fun z_1 _ g_2 => ?_)
  refine j_getR hC flX5_200 g_2 (jlt hN g_2 (by decide)) (by decide) (by decide) (fun _ _ _ => rfl) (fun hs => hs _ _ _ (sf_7_4 g_2).1) (dOk_at dt_X5_memberLine 3 rfl) ?_
  refine j_callVi hC clX5_163 (fun rz hrz => c_X6_hasRoom hN ((sf_7_4 g_2).2.1) _ rz hrz) (sf_7_4 g_2).2.1 (Nat.lt_of_lt_of_le (sf_7_4 g_2).2.2 hN) (by decide) rfl rfl ⟨Nat.le_of_ble_eq_true rfl, Nat.le_of_ble_eq_true rfl⟩ ⟨Nat.le_refl 0, Nat.le_refl 0⟩ (As := []) (st := [.ref 69]) rfl (Nat.le_of_ble_eq_true rfl) (dOk_at dt_X5_memberLine 4 rfl) (fun v_3 h_4 _ => ?_)
  refine j_iconst hC (v := (2 : Int32)) rfl (dOk_at dt_X5_memberLine 5 rfl) ?_
  refine j_callVv hC clX5_167 (fun rz hrz => c_X5_passWord hN _ _ _ rz hrz) (show shp 69 = (5, 16) from rfl) (Nat.lt_of_lt_of_le (Nat.le_of_ble_eq_true rfl : 69 < 152) hN) (by decide) rfl rfl ⟨Nat.le_of_ble_eq_true rfl, Nat.le_of_ble_eq_true rfl⟩ ⟨Nat.le_refl 0, Nat.le_refl 0⟩ (As := [.int v_3, .int (2 : Int32)]) (st := []) rfl (Nat.le_of_ble_eq_true rfl) (dOk_at dt_X5_memberLine 6 rfl) (fun h_6 _ => ?_)
  refine j_aload_n hC 0 rfl rfl (dOk_at dt_X5_memberLine 7 rfl) ?_
  refine j_aload_n hC 0 rfl rfl (dOk_at dt_X5_memberLine 8 rfl) ?_
  refine j_getD (q := (7, 20)) hC flX5_19 (show shp 69 = (5, 16) from rfl) (Nat.lt_of_lt_of_le (Nat.le_of_ble_eq_true rfl : 69 < 152) hN) (by decide) (by decide) (fun _ _ _ => rfl) (dOk_at dt_X5_memberLine 9 rfl) (fun z_7 _ g_8 => ?_)
  refine j_getR hC flX5_200 g_8 (jlt hN g_8 (by decide)) (by decide) (by decide) (fun _ _ _ => rfl) (fun hs => hs _ _ _ (sf_7_4 g_8).1) (dOk_at dt_X5_memberLine 10 rfl) ?_
  refine j_callVi hC clX5_171 (fun rz hrz => c_X5_freshName hN ((sf_7_4 g_8).2.1) _ rz hrz) (show shp 69 = (5, 16) from rfl) (Nat.lt_of_lt_of_le (Nat.le_of_ble_eq_true rfl : 69 < 152) hN) (by decide) rfl rfl ⟨Nat.le_of_ble_eq_true rfl, Nat.le_of_ble_eq_true rfl⟩ ⟨Nat.le_refl 0, Nat.le_refl 0⟩ (As := [.ref (rf z_7 4)]) (st := []) rfl (Nat.le_of_ble_eq_true rfl) (dOk_at dt_X5_memberLine 11 rfl) (fun v_9 h_10 _ => ?_)
  refine j_istore_n hC rfl (lv' := [(1, .int v_9), (0, .ref 69)]) (by decide) rfl (dOk_at dt_X5_memberLine 12 rfl) ?_
  refine j_aload_n hC 1 rfl rfl (dOk_at dt_X5_memberLine 13 rfl) ?_
  refine j_getI hC flX5_73 (show shp 69 = (5, 16) from rfl) (Nat.lt_of_lt_of_le (Nat.le_of_ble_eq_true rfl : 69 < 152) hN) (by decide) (by decide) (fun _ _ _ => rfl) (dOk_at dt_X5_memberLine 14 rfl) ?_
  refine j_if_ne hC (tgt := 42) (by decide) (dOk_at dt_X5_memberLine 15 rfl) (fun q_11 => ?_) (fun q_11 => ?_)
  · exact j_vret hC hret (dOk_at dt_X5_memberLine 20 rfl)
  · refine j_aload_n hC 1 rfl rfl (dOk_at dt_X5_memberLine 16 rfl) ?_
    refine j_getD (q := (7, 20)) hC flX5_19 (show shp 69 = (5, 16) from rfl) (Nat.lt_of_lt_of_le (Nat.le_of_ble_eq_true rfl : 69 < 152) hN) (by decide) (by decide) (fun _ _ _ => rfl) (dOk_at dt_X5_memberLine 17 rfl) (fun z_12 _ g_13 => ?_)
    refine j_iload_n hC 0 rfl rfl (dOk_at dt_X5_memberLine 18 rfl) ?_
    refine j_callVv hC clX5_203 (fun rz hrz => c_X7_addMember hN (g_13) _ _ rz hrz) g_13 (jlt hN g_13 (by decide)) (by decide) rfl rfl ⟨Nat.le_of_ble_eq_true rfl, Nat.le_of_ble_eq_true rfl⟩ ⟨Nat.le_refl 0, Nat.le_refl 0⟩ (As := [.int v_9]) (st := []) rfl (Nat.le_of_ble_eq_true rfl) (dOk_at dt_X5_memberLine 19 rfl) (fun h_15 _ => ?_)
    exact j_vret hC hret (dOk_at dt_X5_memberLine 20 rfl)
def tb_X7_isHeld : List (Nat × Instr × Nat) := [(0, .iload_n 1, 1), (1, .ifCond .lt 26, 3), (4, .iload_n 1, 1), (5, .iconst 5, 1), (6, .if_icmp .ge 21, 3), (9, .aload_n 0, 1), (10, .getfield 37, 3), (13, .iload_n 1, 1), (14, .iaload, 1), (15, .iload_n 2, 1), (16, .ishr, 1), (17, .iconst 1, 1), (18, .iand, 1), (19, .iconst 1, 1), (20, .if_icmp .ne 7, 3), (23, .iconst 1, 1), (24, .goto 4, 3), (27, .iconst 0, 1), (28, .ireturn, 1)]
theorem dt_X7_isHeld : dOk cX7_isHeld tb_X7_isHeld = true := by decide +kernel
def fX7_isHeld (tt : Nat) (h : Hp) (x1 : Int32) (x2 : Int32) : Option (Int32 × Hp) := if x1 < 0 then (some ((0 : Int32), h)) else (if (5 : Int32) ≤ x1 then (some ((0 : Int32), h)) else (if inb x1 5 then (if (((hI h (rf tt 5) (Int32.toNatClampNeg x1)) >>> (x2 &&& 31)) &&& (1 : Int32)) = (1 : Int32) then (some ((1 : Int32), h)) else (some ((0 : Int32), h))) else none))
set_option maxRecDepth 100000 in
set_option maxHeartbeats 4000000 in
theorem c_X7_isHeld {l : Launch} {sb : State} {D : va_G} {ids : Nat → ClassId} {n : Nat} (hN : 152 ≤ n) {tt : Nat} (ht : shp tt = (7, 20)) (h : Hp) (x1 : Int32) (x2 : Int32) (r : Int32 × Hp) (hr : fX7_isHeld tt h x1 x2 = some r) : jM l yX7_isHeld cX7_isHeld 3 (some .boolean) 0 sb D ids shp St n [.ref tt, .int x1, .int x2] h (jQi sb D ids shp St n r) := by
  refine jM_of hr rfl (Nat.le_of_ble_eq_true rfl) ?_
  intro p e s m args below meth c hC hret
  unfold fX7_isHeld
  refine j_iload_n hC 1 rfl rfl (dOk_at dt_X7_isHeld 0 rfl) ?_
  refine j_if_lt hC (tgt := 27) (by decide) (dOk_at dt_X7_isHeld 1 rfl) (fun q_1 => ?_) (fun q_1 => ?_)
  · refine j_iconst hC (v := (0 : Int32)) rfl (dOk_at dt_X7_isHeld 17 rfl) ?_
    exact j_zretK hC hret rfl (dOk_at dt_X7_isHeld 18 rfl)
  · refine j_iload_n hC 1 rfl rfl (dOk_at dt_X7_isHeld 2 rfl) ?_
    refine j_iconst hC (v := (5 : Int32)) rfl (dOk_at dt_X7_isHeld 3 rfl) ?_
    refine j_icmp_ge hC (tgt := 27) (by decide) (dOk_at dt_X7_isHeld 4 rfl) (fun q_2 => ?_) (fun q_2 => ?_)
    · refine j_iconst hC (v := (0 : Int32)) rfl (dOk_at dt_X7_isHeld 17 rfl) ?_
      exact j_zretK hC hret rfl (dOk_at dt_X7_isHeld 18 rfl)
    · refine j_aload_n hC 0 rfl rfl (dOk_at dt_X7_isHeld 5 rfl) ?_
      refine j_getR hC flX7_37 ht (jlt hN ht (by decide)) (by decide) (by decide) (fun _ _ _ => rfl) (fun hs => hs _ _ _ (sf_7_5 ht).1) (dOk_at dt_X7_isHeld 6 rfl) ?_
      refine j_iload_n hC 1 rfl rfl (dOk_at dt_X7_isHeld 7 rfl) ?_
      refine j_iald hC (sf_7_5 ht).2.1 (Nat.lt_of_lt_of_le (sf_7_5 ht).2.2 hN) (dOk_at dt_X7_isHeld 8 rfl) ?_
      refine j_iload_n hC 2 rfl rfl (dOk_at dt_X7_isHeld 9 rfl) ?_
      refine j_ishr hC (dOk_at dt_X7_isHeld 10 rfl) ?_
      refine j_iconst hC (v := (1 : Int32)) rfl (dOk_at dt_X7_isHeld 11 rfl) ?_
      refine j_iand hC (dOk_at dt_X7_isHeld 12 rfl) ?_
      refine j_iconst hC (v := (1 : Int32)) rfl (dOk_at dt_X7_isHeld 13 rfl) ?_
      refine j_icmp_ne hC (tgt := 27) (by decide) (dOk_at dt_X7_isHeld 14 rfl) (fun q_3 => ?_) (fun q_3 => ?_)
      · refine j_iconst hC (v := (0 : Int32)) rfl (dOk_at dt_X7_isHeld 17 rfl) ?_
        exact j_zretK hC hret rfl (dOk_at dt_X7_isHeld 18 rfl)
      · refine j_iconst hC (v := (1 : Int32)) rfl (dOk_at dt_X7_isHeld 15 rfl) ?_
        refine j_goto hC (tgt := 28) (by decide) (dOk_at dt_X7_isHeld 16 rfl) ?_
        exact j_zretK hC hret rfl (dOk_at dt_X7_isHeld 18 rfl)
def tb_X7_addHeld : List (Nat × Instr × Nat) := [(0, .iload_n 1, 1), (1, .ifCond .lt 20, 3), (4, .iload_n 1, 1), (5, .iconst 5, 1), (6, .if_icmp .ge 15, 3), (9, .aload_n 0, 1), (10, .getfield 37, 3), (13, .iload_n 1, 1), (14, .dup2, 1), (15, .iaload, 1), (16, .iconst 1, 1), (17, .iload_n 2, 1), (18, .ishl, 1), (19, .ior, 1), (20, .iastore, 1), (21, .return_, 1)]
theorem dt_X7_addHeld : dOk cX7_addHeld tb_X7_addHeld = true := by decide +kernel
def fX7_addHeld (tt : Nat) (h : Hp) (x1 : Int32) (x2 : Int32) : Option (Hp) := if x1 < 0 then (some h) else (if (5 : Int32) ≤ x1 then (some h) else (if inb x1 5 then (if inb x1 5 then (some (uI h (rf tt 5) (Int32.toNatClampNeg x1) ((hI h (rf tt 5) (Int32.toNatClampNeg x1)) ||| ((1 : Int32) <<< (x2 &&& 31))))) else none) else none))
set_option maxRecDepth 100000 in
set_option maxHeartbeats 4000000 in
theorem c_X7_addHeld {l : Launch} {sb : State} {D : va_G} {ids : Nat → ClassId} {n : Nat} (hN : 152 ≤ n) {tt : Nat} (ht : shp tt = (7, 20)) (h : Hp) (x1 : Int32) (x2 : Int32) (r : Hp) (hr : fX7_addHeld tt h x1 x2 = some r) : jM l yX7_addHeld cX7_addHeld 3 none 0 sb D ids shp St n [.ref tt, .int x1, .int x2] h (jQv sb D ids shp St n r) := by
  refine jM_of hr rfl (Nat.le_of_ble_eq_true rfl) ?_
  intro p e s m args below meth c hC hret
  unfold fX7_addHeld
  refine j_iload_n hC 1 rfl rfl (dOk_at dt_X7_addHeld 0 rfl) ?_
  refine j_if_lt hC (tgt := 21) (by decide) (dOk_at dt_X7_addHeld 1 rfl) (fun q_1 => ?_) (fun q_1 => ?_)
  · exact j_vret hC hret (dOk_at dt_X7_addHeld 15 rfl)
  · refine j_iload_n hC 1 rfl rfl (dOk_at dt_X7_addHeld 2 rfl) ?_
    refine j_iconst hC (v := (5 : Int32)) rfl (dOk_at dt_X7_addHeld 3 rfl) ?_
    refine j_icmp_ge hC (tgt := 21) (by decide) (dOk_at dt_X7_addHeld 4 rfl) (fun q_2 => ?_) (fun q_2 => ?_)
    · exact j_vret hC hret (dOk_at dt_X7_addHeld 15 rfl)
    · refine j_aload_n hC 0 rfl rfl (dOk_at dt_X7_addHeld 5 rfl) ?_
      refine j_getR hC flX7_37 ht (jlt hN ht (by decide)) (by decide) (by decide) (fun _ _ _ => rfl) (fun hs => hs _ _ _ (sf_7_5 ht).1) (dOk_at dt_X7_addHeld 6 rfl) ?_
      refine j_iload_n hC 1 rfl rfl (dOk_at dt_X7_addHeld 7 rfl) ?_
      refine j_dup2 hC (dOk_at dt_X7_addHeld 8 rfl) ?_
      refine j_iald hC (sf_7_5 ht).2.1 (Nat.lt_of_lt_of_le (sf_7_5 ht).2.2 hN) (dOk_at dt_X7_addHeld 9 rfl) ?_
      refine j_iconst hC (v := (1 : Int32)) rfl (dOk_at dt_X7_addHeld 10 rfl) ?_
      refine j_iload_n hC 2 rfl rfl (dOk_at dt_X7_addHeld 11 rfl) ?_
      refine j_ishl hC (dOk_at dt_X7_addHeld 12 rfl) ?_
      refine j_ior hC (dOk_at dt_X7_addHeld 13 rfl) ?_
      refine j_iast hC St_SP (sf_7_5 ht).2.1 (Nat.lt_of_lt_of_le (sf_7_5 ht).2.2 hN) (dOk_at dt_X7_addHeld 14 rfl) ?_
      exact j_vret hC hret (dOk_at dt_X7_addHeld 15 rfl)
def tb_X5_holdsLine : List (Nat × Instr × Nat) := [(0, .aload_n 0, 1), (1, .iconst 1, 1), (2, .iconst 0, 1), (3, .invokevirtual 167, 3), (6, .aload_n 0, 1), (7, .aload_n 0, 1), (8, .getfield 19, 3), (11, .getfield 200, 3), (14, .invokevirtual 185, 3), (17, .istore_n 1, 1), (18, .aload_n 0, 1), (19, .aload_n 0, 1), (20, .getfield 19, 3), (23, .getfield 153, 3), (26, .getfield 157, 3), (29, .invokevirtual 185, 3), (32, .istore_n 2, 1), (33, .aload_n 0, 1), (34, .getfield 19, 3), (37, .iload_n 1, 1), (38, .iload_n 2, 1), (39, .invokevirtual 206, 3), (42, .ifCond .eq 12, 3), (45, .aload_n 0, 1), (46, .iconst 3, 1), (47, .aload_n 0, 1), (48, .getfield 82, 3), (51, .invokevirtual 138, 3), (54, .aload_n 0, 1), (55, .getfield 73, 3), (58, .ifCond .ne 12, 3), (61, .aload_n 0, 1), (62, .getfield 19, 3), (65, .iload_n 1, 1), (66, .iload_n 2, 1), (67, .invokevirtual 210, 3), (70, .return_, 1)]
theorem dt_X5_holdsLine : dOk cX5_holdsLine tb_X5_holdsLine = true := by decide +kernel
def fX5_holdsLine_54 (h : Hp) (x1 : Int32) (x2 : Int32) : Option (Hp) := if (hI h 69 14) = 0 then ((dref shp h 69 4 (7, 20)).bind (fun z_19 => (fX7_addHeld z_19 h x1 x2).bind (fun h_22 => some h_22))) else (some h)
def fX5_holdsLine (h : Hp) : Option (Hp) := (fX5_passWord h (1 : Int32) (0 : Int32)).bind (fun h_2 => (dref shp h_2 69 4 (7, 20)).bind (fun z_3 => bnd (fX5_toldName (rf z_3 4) h_2) (fun v_5 h_6 => (dref shp h_6 69 4 (7, 20)).bind (fun z_7 => bnd (fX5_toldName (rf (rf z_7 0) 0) h_6) (fun v_9 h_10 => (dref shp h_10 69 4 (7, 20)).bind (fun z_11 => bnd (fX7_isHeld z_11 h_10 v_5 v_9) (fun v_13 h_14 => if v_13 = 0 then (fX5_holdsLine_54 h_14 v_5 v_9) else ((fX5_fail h_14 (3 : Int32) (hI h_14 69 9)).bind (fun h_17 => fX5_holdsLine_54 h_17 v_5 v_9)))))))))
set_option maxRecDepth 100000 in
set_option maxHeartbeats 4000000 in
theorem c_X5_holdsLine {l : Launch} {sb : State} {D : va_G} {ids : Nat → ClassId} {n : Nat} (hN : 152 ≤ n) (h : Hp) (r : Hp) (hr : fX5_holdsLine h = some r) : jM l yX5_holdsLine cX5_holdsLine 3 none 4 sb D ids shp St n [.ref 69] h (jQv sb D ids shp St n r) := by
  refine jM_of hr rfl (Nat.le_of_ble_eq_true rfl) ?_
  intro p e s m args below meth c hC hret
  have b54 : ∀ (h : Hp) (x1 : Int32) (x2 : Int32) , jJ p l e (rmD 4) s m args below meth c 3 sb D ids shp St (fun r => MQ below (jQv sb D ids shp St n r) args s 0 0 (jA sb)) n 0 0 h 54 [(0, .ref 69), (1, .int x1), (2, .int x2)] [] (fX5_holdsLine_54 h x1 x2) := by
    intro h x1 x2 
    unfold fX5_holdsLine_54
    refine j_aload_n hC 0 rfl rfl (dOk_at dt_X5_holdsLine 28 rfl) ?_
    refine j_getI hC flX5_73 (show shp 69 = (5, 16) from rfl) (Nat.lt_of_lt_of_le (Nat.le_of_ble_eq_true rfl : 69 < 152) hN) (by decide) (by decide) (fun _ _ _ => rfl) (dOk_at dt_X5_holdsLine 29 rfl) ?_
    refine j_if_ne hC (tgt := 70) (by decide) (dOk_at dt_X5_holdsLine 30 rfl) (fun q_18 => ?_) (fun q_18 => ?_)
    · exact j_vret hC hret (dOk_at dt_X5_holdsLine 36 rfl)
    · refine j_aload_n hC 0 rfl rfl (dOk_at dt_X5_holdsLine 31 rfl) ?_
      refine j_getD (q := (7, 20)) hC flX5_19 (show shp 69 = (5, 16) from rfl) (Nat.lt_of_lt_of_le (Nat.le_of_ble_eq_true rfl : 69 < 152) hN) (by decide) (by decide) (fun _ _ _ => rfl) (dOk_at dt_X5_holdsLine 32 rfl) (fun z_19 _ g_20 => ?_)
      refine j_iload_n hC 1 rfl rfl (dOk_at dt_X5_holdsLine 33 rfl) ?_
      refine j_iload_n hC 2 rfl rfl (dOk_at dt_X5_holdsLine 34 rfl) ?_
      refine j_callVv hC clX5_210 (fun rz hrz => c_X7_addHeld hN (g_20) _ _ _ rz hrz) g_20 (jlt hN g_20 (by decide)) (by decide) rfl rfl ⟨Nat.le_of_ble_eq_true rfl, Nat.le_of_ble_eq_true rfl⟩ ⟨Nat.le_refl 0, Nat.le_refl 0⟩ (As := [.int x1, .int x2]) (st := []) rfl (Nat.le_of_ble_eq_true rfl) (dOk_at dt_X5_holdsLine 35 rfl) (fun h_22 _ => ?_)
      exact j_vret hC hret (dOk_at dt_X5_holdsLine 36 rfl)
  unfold fX5_holdsLine
  refine j_aload_n hC 0 rfl rfl (dOk_at dt_X5_holdsLine 0 rfl) ?_
  refine j_iconst hC (v := (1 : Int32)) rfl (dOk_at dt_X5_holdsLine 1 rfl) ?_
  refine j_iconst hC (v := (0 : Int32)) rfl (dOk_at dt_X5_holdsLine 2 rfl) ?_
  refine j_callVv hC clX5_167 (fun rz hrz => c_X5_passWord hN _ _ _ rz hrz) (show shp 69 = (5, 16) from rfl) (Nat.lt_of_lt_of_le (Nat.le_of_ble_eq_true rfl : 69 < 152) hN) (by decide) rfl rfl ⟨Nat.le_of_ble_eq_true rfl, Nat.le_of_ble_eq_true rfl⟩ ⟨Nat.le_refl 0, Nat.le_refl 0⟩ (As := [.int (1 : Int32), .int (0 : Int32)]) (st := []) rfl (Nat.le_of_ble_eq_true rfl) (dOk_at dt_X5_holdsLine 3 rfl) (fun h_2 _ => ?_)
  refine j_aload_n hC 0 rfl rfl (dOk_at dt_X5_holdsLine 4 rfl) ?_
  refine j_aload_n hC 0 rfl rfl (dOk_at dt_X5_holdsLine 5 rfl) ?_
  refine j_getD (q := (7, 20)) hC flX5_19 (show shp 69 = (5, 16) from rfl) (Nat.lt_of_lt_of_le (Nat.le_of_ble_eq_true rfl : 69 < 152) hN) (by decide) (by decide) (fun _ _ _ => rfl) (dOk_at dt_X5_holdsLine 6 rfl) (fun z_3 _ g_4 => ?_)
  refine j_getR hC flX5_200 g_4 (jlt hN g_4 (by decide)) (by decide) (by decide) (fun _ _ _ => rfl) (fun hs => hs _ _ _ (sf_7_4 g_4).1) (dOk_at dt_X5_holdsLine 7 rfl) ?_
  refine j_callVi hC clX5_185 (fun rz hrz => c_X5_toldName hN ((sf_7_4 g_4).2.1) _ rz hrz) (show shp 69 = (5, 16) from rfl) (Nat.lt_of_lt_of_le (Nat.le_of_ble_eq_true rfl : 69 < 152) hN) (by decide) rfl rfl ⟨Nat.le_of_ble_eq_true rfl, Nat.le_of_ble_eq_true rfl⟩ ⟨Nat.le_refl 0, Nat.le_refl 0⟩ (As := [.ref (rf z_3 4)]) (st := []) rfl (Nat.le_of_ble_eq_true rfl) (dOk_at dt_X5_holdsLine 8 rfl) (fun v_5 h_6 _ => ?_)
  refine j_istore_n hC rfl (lv' := [(1, .int v_5), (0, .ref 69)]) (by decide) rfl (dOk_at dt_X5_holdsLine 9 rfl) ?_
  refine j_aload_n hC 1 rfl rfl (dOk_at dt_X5_holdsLine 10 rfl) ?_
  refine j_aload_n hC 1 rfl rfl (dOk_at dt_X5_holdsLine 11 rfl) ?_
  refine j_getD (q := (7, 20)) hC flX5_19 (show shp 69 = (5, 16) from rfl) (Nat.lt_of_lt_of_le (Nat.le_of_ble_eq_true rfl : 69 < 152) hN) (by decide) (by decide) (fun _ _ _ => rfl) (dOk_at dt_X5_holdsLine 12 rfl) (fun z_7 _ g_8 => ?_)
  refine j_getR hC flX5_153 g_8 (jlt hN g_8 (by decide)) (by decide) (by decide) (fun _ _ _ => rfl) (fun hs => hs _ _ _ (sf_7_0 g_8).1) (dOk_at dt_X5_holdsLine 13 rfl) ?_
  refine j_getR hC flX5_157 (sf_7_0 g_8).2.1 (Nat.lt_of_lt_of_le (sf_7_0 g_8).2.2 hN) (by decide) (by decide) (fun _ _ _ => rfl) (fun hs => hs _ _ _ (sf_0_0 (sf_7_0 g_8).2.1).1) (dOk_at dt_X5_holdsLine 14 rfl) ?_
  refine j_callVi hC clX5_185 (fun rz hrz => c_X5_toldName hN ((sf_0_0 (sf_7_0 g_8).2.1).2.1) _ rz hrz) (show shp 69 = (5, 16) from rfl) (Nat.lt_of_lt_of_le (Nat.le_of_ble_eq_true rfl : 69 < 152) hN) (by decide) rfl rfl ⟨Nat.le_of_ble_eq_true rfl, Nat.le_of_ble_eq_true rfl⟩ ⟨Nat.le_refl 0, Nat.le_refl 0⟩ (As := [.ref (rf (rf z_7 0) 0)]) (st := []) rfl (Nat.le_of_ble_eq_true rfl) (dOk_at dt_X5_holdsLine 15 rfl) (fun v_9 h_10 _ => ?_)
  refine j_istore_n hC rfl (lv' := [(2, .int v_9), (1, .int v_5), (0, .ref 69)]) (by decide) rfl (dOk_at dt_X5_holdsLine 16 rfl) ?_
  refine j_aload_n hC 2 rfl rfl (dOk_at dt_X5_holdsLine 17 rfl) ?_
  refine j_getD (q := (7, 20)) hC flX5_19 (show shp 69 = (5, 16) from rfl) (Nat.lt_of_lt_of_le (Nat.le_of_ble_eq_true rfl : 69 < 152) hN) (by decide) (by decide) (fun _ _ _ => rfl) (dOk_at dt_X5_holdsLine 18 rfl) (fun z_11 _ g_12 => ?_)
  refine j_iload_n hC 1 rfl rfl (dOk_at dt_X5_holdsLine 19 rfl) ?_
  refine j_iload_n hC 0 rfl rfl (dOk_at dt_X5_holdsLine 20 rfl) ?_
  refine j_callVi hC clX5_206 (fun rz hrz => c_X7_isHeld hN (g_12) _ _ _ rz hrz) g_12 (jlt hN g_12 (by decide)) (by decide) rfl rfl ⟨Nat.le_of_ble_eq_true rfl, Nat.le_of_ble_eq_true rfl⟩ ⟨Nat.le_refl 0, Nat.le_refl 0⟩ (As := [.int v_5, .int v_9]) (st := []) rfl (Nat.le_of_ble_eq_true rfl) (dOk_at dt_X5_holdsLine 21 rfl) (fun v_13 h_14 _ => ?_)
  refine j_if_eq hC (tgt := 54) (by decide) (dOk_at dt_X5_holdsLine 22 rfl) (fun q_15 => ?_) (fun q_15 => ?_)
  · refine j_sub [2, 1, 0] rfl ?_
    exact b54 h_14 v_5 v_9 
  · refine j_aload_n hC 2 rfl rfl (dOk_at dt_X5_holdsLine 23 rfl) ?_
    refine j_iconst hC (v := (3 : Int32)) rfl (dOk_at dt_X5_holdsLine 24 rfl) ?_
    refine j_aload_n hC 2 rfl rfl (dOk_at dt_X5_holdsLine 25 rfl) ?_
    refine j_getI hC flX5_82 (show shp 69 = (5, 16) from rfl) (Nat.lt_of_lt_of_le (Nat.le_of_ble_eq_true rfl : 69 < 152) hN) (by decide) (by decide) (fun _ _ _ => rfl) (dOk_at dt_X5_holdsLine 26 rfl) ?_
    refine j_callVv hC clX5_138 (fun rz hrz => c_X5_fail hN _ _ _ rz hrz) (show shp 69 = (5, 16) from rfl) (Nat.lt_of_lt_of_le (Nat.le_of_ble_eq_true rfl : 69 < 152) hN) (by decide) rfl rfl ⟨Nat.le_of_ble_eq_true rfl, Nat.le_of_ble_eq_true rfl⟩ ⟨Nat.le_refl 0, Nat.le_refl 0⟩ (As := [.int (3 : Int32), .int (hI h_14 69 9)]) (st := []) rfl (Nat.le_of_ble_eq_true rfl) (dOk_at dt_X5_holdsLine 27 rfl) (fun h_17 _ => ?_)
    refine j_sub [2, 1, 0] rfl ?_
    exact b54 h_17 v_5 v_9 
def tb_X7_addDebate : List (Nat × Instr × Nat) := [(0, .aload_n 0, 1), (1, .getfield 40, 3), (4, .bipush 12, 2), (6, .if_icmp .ge 43, 3), (9, .aload_n 0, 1), (10, .getfield 44, 3), (13, .aload_n 0, 1), (14, .getfield 40, 3), (17, .iload_n 1, 1), (18, .iastore, 1), (19, .aload_n 0, 1), (20, .getfield 47, 3), (23, .aload_n 0, 1), (24, .getfield 40, 3), (27, .iload_n 2, 1), (28, .iastore, 1), (29, .aload_n 0, 1), (30, .getfield 50, 3), (33, .aload_n 0, 1), (34, .getfield 40, 3), (37, .iload_n 3, 1), (38, .iastore, 1), (39, .aload_n 0, 1), (40, .dup, 1), (41, .getfield 40, 3), (44, .iconst 1, 1), (45, .iadd, 1), (46, .putfield 40, 3), (49, .return_, 1)]
theorem dt_X7_addDebate : dOk cX7_addDebate tb_X7_addDebate = true := by decide +kernel
def fX7_addDebate (tt : Nat) (h : Hp) (x1 : Int32) (x2 : Int32) (x3 : Int32) : Option (Hp) := if (12 : Int32) ≤ (hI h tt 6) then (some h) else (if inb (hI h tt 6) 12 then (if inb (hI (uI h (rf tt 7) (Int32.toNatClampNeg (hI h tt 6)) x1) tt 6) 12 then (if inb (hI (uI (uI h (rf tt 7) (Int32.toNatClampNeg (hI h tt 6)) x1) (rf tt 8) (Int32.toNatClampNeg (hI (uI h (rf tt 7) (Int32.toNatClampNeg (hI h tt 6)) x1) tt 6)) x2) tt 6) 12 then (some (uI (uI (uI (uI h (rf tt 7) (Int32.toNatClampNeg (hI h tt 6)) x1) (rf tt 8) (Int32.toNatClampNeg (hI (uI h (rf tt 7) (Int32.toNatClampNeg (hI h tt 6)) x1) tt 6)) x2) (rf tt 9) (Int32.toNatClampNeg (hI (uI (uI h (rf tt 7) (Int32.toNatClampNeg (hI h tt 6)) x1) (rf tt 8) (Int32.toNatClampNeg (hI (uI h (rf tt 7) (Int32.toNatClampNeg (hI h tt 6)) x1) tt 6)) x2) tt 6)) x3) tt 6 ((hI (uI (uI (uI h (rf tt 7) (Int32.toNatClampNeg (hI h tt 6)) x1) (rf tt 8) (Int32.toNatClampNeg (hI (uI h (rf tt 7) (Int32.toNatClampNeg (hI h tt 6)) x1) tt 6)) x2) (rf tt 9) (Int32.toNatClampNeg (hI (uI (uI h (rf tt 7) (Int32.toNatClampNeg (hI h tt 6)) x1) (rf tt 8) (Int32.toNatClampNeg (hI (uI h (rf tt 7) (Int32.toNatClampNeg (hI h tt 6)) x1) tt 6)) x2) tt 6)) x3) tt 6) + (1 : Int32)))) else none) else none) else none)
set_option maxRecDepth 100000 in
set_option maxHeartbeats 4000000 in
theorem c_X7_addDebate {l : Launch} {sb : State} {D : va_G} {ids : Nat → ClassId} {n : Nat} (hN : 152 ≤ n) {tt : Nat} (ht : shp tt = (7, 20)) (h : Hp) (x1 : Int32) (x2 : Int32) (x3 : Int32) (r : Hp) (hr : fX7_addDebate tt h x1 x2 x3 = some r) : jM l yX7_addDebate cX7_addDebate 4 none 0 sb D ids shp St n [.ref tt, .int x1, .int x2, .int x3] h (jQv sb D ids shp St n r) := by
  refine jM_of hr rfl (Nat.le_of_ble_eq_true rfl) ?_
  intro p e s m args below meth c hC hret
  unfold fX7_addDebate
  refine j_aload_n hC 0 rfl rfl (dOk_at dt_X7_addDebate 0 rfl) ?_
  refine j_getI hC flX7_40 ht (jlt hN ht (by decide)) (by decide) (by decide) (fun _ _ _ => rfl) (dOk_at dt_X7_addDebate 1 rfl) ?_
  refine j_bipush hC (v := (12 : Int32)) rfl (dOk_at dt_X7_addDebate 2 rfl) ?_
  refine j_icmp_ge hC (tgt := 49) (by decide) (dOk_at dt_X7_addDebate 3 rfl) (fun q_1 => ?_) (fun q_1 => ?_)
  · exact j_vret hC hret (dOk_at dt_X7_addDebate 28 rfl)
  · refine j_aload_n hC 0 rfl rfl (dOk_at dt_X7_addDebate 4 rfl) ?_
    refine j_getR hC flX7_44 ht (jlt hN ht (by decide)) (by decide) (by decide) (fun _ _ _ => rfl) (fun hs => hs _ _ _ (sf_7_7 ht).1) (dOk_at dt_X7_addDebate 5 rfl) ?_
    refine j_aload_n hC 0 rfl rfl (dOk_at dt_X7_addDebate 6 rfl) ?_
    refine j_getI hC flX7_40 ht (jlt hN ht (by decide)) (by decide) (by decide) (fun _ _ _ => rfl) (dOk_at dt_X7_addDebate 7 rfl) ?_
    refine j_iload_n hC 1 rfl rfl (dOk_at dt_X7_addDebate 8 rfl) ?_
    refine j_iast hC St_SP (sf_7_7 ht).2.1 (Nat.lt_of_lt_of_le (sf_7_7 ht).2.2 hN) (dOk_at dt_X7_addDebate 9 rfl) ?_
    refine j_aload_n hC 0 rfl rfl (dOk_at dt_X7_addDebate 10 rfl) ?_
    refine j_getR hC flX7_47 ht (jlt hN ht (by decide)) (by decide) (by decide) (fun _ _ _ => rfl) (fun hs => hs _ _ _ (sf_7_8 ht).1) (dOk_at dt_X7_addDebate 11 rfl) ?_
    refine j_aload_n hC 0 rfl rfl (dOk_at dt_X7_addDebate 12 rfl) ?_
    refine j_getI hC flX7_40 ht (jlt hN ht (by decide)) (by decide) (by decide) (fun _ _ _ => rfl) (dOk_at dt_X7_addDebate 13 rfl) ?_
    refine j_iload_n hC 2 rfl rfl (dOk_at dt_X7_addDebate 14 rfl) ?_
    refine j_iast hC St_SP (sf_7_8 ht).2.1 (Nat.lt_of_lt_of_le (sf_7_8 ht).2.2 hN) (dOk_at dt_X7_addDebate 15 rfl) ?_
    refine j_aload_n hC 0 rfl rfl (dOk_at dt_X7_addDebate 16 rfl) ?_
    refine j_getR hC flX7_50 ht (jlt hN ht (by decide)) (by decide) (by decide) (fun _ _ _ => rfl) (fun hs => hs _ _ _ (sf_7_9 ht).1) (dOk_at dt_X7_addDebate 17 rfl) ?_
    refine j_aload_n hC 0 rfl rfl (dOk_at dt_X7_addDebate 18 rfl) ?_
    refine j_getI hC flX7_40 ht (jlt hN ht (by decide)) (by decide) (by decide) (fun _ _ _ => rfl) (dOk_at dt_X7_addDebate 19 rfl) ?_
    refine j_iload_n hC 3 rfl rfl (dOk_at dt_X7_addDebate 20 rfl) ?_
    refine j_iast hC St_SP (sf_7_9 ht).2.1 (Nat.lt_of_lt_of_le (sf_7_9 ht).2.2 hN) (dOk_at dt_X7_addDebate 21 rfl) ?_
    refine j_aload_n hC 0 rfl rfl (dOk_at dt_X7_addDebate 22 rfl) ?_
    refine j_dupr hC (dOk_at dt_X7_addDebate 23 rfl) ?_
    refine j_getI hC flX7_40 ht (jlt hN ht (by decide)) (by decide) (by decide) (fun _ _ _ => rfl) (dOk_at dt_X7_addDebate 24 rfl) ?_
    refine j_iconst hC (v := (1 : Int32)) rfl (dOk_at dt_X7_addDebate 25 rfl) ?_
    refine j_iadd hC (dOk_at dt_X7_addDebate 26 rfl) ?_
    refine j_putI hC St_SP flX7_40 ht (jlt hN ht (by decide)) (by decide) (by decide) rfl rfl (dOk_at dt_X7_addDebate 27 rfl) ?_
    exact j_vret hC hret (dOk_at dt_X7_addDebate 28 rfl)
def tb_X5_debateLine : List (Nat × Instr × Nat) := [(0, .aload_n 0, 1), (1, .aload_n 0, 1), (2, .getfield 19, 3), (5, .getfield 213, 3), (8, .bipush 12, 2), (10, .if_icmp .ge 7, 3), (13, .iconst 1, 1), (14, .goto 4, 3), (17, .iconst 0, 1), (18, .iconst 2, 1), (19, .invokevirtual 167, 3), (22, .aload_n 0, 1), (23, .aload_n 0, 1), (24, .getfield 19, 3), (27, .getfield 200, 3), (30, .invokevirtual 185, 3), (33, .istore_n 1, 1), (34, .aload_n 0, 1), (35, .aload_n 0, 1), (36, .getfield 19, 3), (39, .getfield 194, 3), (42, .invokevirtual 185, 3), (45, .istore_n 2, 1), (46, .aload_n 0, 1), (47, .iconst 0, 1), (48, .bipush 99, 2), (50, .invokevirtual 175, 3), (53, .istore_n 3, 1), (54, .aload_n 0, 1), (55, .getfield 73, 3), (58, .ifCond .ne 13, 3), (61, .aload_n 0, 1), (62, .getfield 19, 3), (65, .iload_n 1, 1), (66, .iload_n 2, 1), (67, .iload_n 3, 1), (68, .invokevirtual 216, 3), (71, .return_, 1)]
theorem dt_X5_debateLine : dOk cX5_debateLine tb_X5_debateLine = true := by decide +kernel
def fX5_debateLine_18 (h : Hp) (s1 : Int32) : Option (Hp) := (fX5_passWord h s1 (2 : Int32)).bind (fun h_5 => (dref shp h_5 69 4 (7, 20)).bind (fun z_6 => bnd (fX5_toldName (rf z_6 4) h_5) (fun v_8 h_9 => (dref shp h_9 69 4 (7, 20)).bind (fun z_10 => bnd (fX5_toldName (rf z_10 1) h_9) (fun v_12 h_13 => bnd (fX5_numberWithin h_13 (0 : Int32) (99 : Int32)) (fun v_14 h_15 => if (hI h_15 69 14) = 0 then ((dref shp h_15 69 4 (7, 20)).bind (fun z_17 => (fX7_addDebate z_17 h_15 v_8 v_12 v_14).bind (fun h_20 => some h_20))) else (some h_15)))))))
def fX5_debateLine (h : Hp) : Option (Hp) := (dref shp h 69 4 (7, 20)).bind (fun z_1 => if (12 : Int32) ≤ (hI h z_1 6) then (fX5_debateLine_18 h (0 : Int32)) else (fX5_debateLine_18 h (1 : Int32)))
set_option maxRecDepth 100000 in
set_option maxHeartbeats 4000000 in
theorem c_X5_debateLine {l : Launch} {sb : State} {D : va_G} {ids : Nat → ClassId} {n : Nat} (hN : 152 ≤ n) (h : Hp) (r : Hp) (hr : fX5_debateLine h = some r) : jM l yX5_debateLine cX5_debateLine 4 none 4 sb D ids shp St n [.ref 69] h (jQv sb D ids shp St n r) := by
  refine jM_of hr rfl (Nat.le_of_ble_eq_true rfl) ?_
  intro p e s m args below meth c hC hret
  have b18 : ∀ (h : Hp) (s1 : Int32) , jJ p l e (rmD 4) s m args below meth c 4 sb D ids shp St (fun r => MQ below (jQv sb D ids shp St n r) args s 0 0 (jA sb)) n 0 0 h 18 [(0, .ref 69)] [.int s1, .ref 69] (fX5_debateLine_18 h s1) := by
    intro h s1 
    unfold fX5_debateLine_18
    refine j_iconst hC (v := (2 : Int32)) rfl (dOk_at dt_X5_debateLine 9 rfl) ?_
    refine j_callVv hC clX5_167 (fun rz hrz => c_X5_passWord hN _ _ _ rz hrz) (show shp 69 = (5, 16) from rfl) (Nat.lt_of_lt_of_le (Nat.le_of_ble_eq_true rfl : 69 < 152) hN) (by decide) rfl rfl ⟨Nat.le_of_ble_eq_true rfl, Nat.le_of_ble_eq_true rfl⟩ ⟨Nat.le_refl 0, Nat.le_refl 0⟩ (As := [.int s1, .int (2 : Int32)]) (st := []) rfl (Nat.le_of_ble_eq_true rfl) (dOk_at dt_X5_debateLine 10 rfl) (fun h_5 _ => ?_)
    refine j_aload_n hC 0 rfl rfl (dOk_at dt_X5_debateLine 11 rfl) ?_
    refine j_aload_n hC 0 rfl rfl (dOk_at dt_X5_debateLine 12 rfl) ?_
    refine j_getD (q := (7, 20)) hC flX5_19 (show shp 69 = (5, 16) from rfl) (Nat.lt_of_lt_of_le (Nat.le_of_ble_eq_true rfl : 69 < 152) hN) (by decide) (by decide) (fun _ _ _ => rfl) (dOk_at dt_X5_debateLine 13 rfl) (fun z_6 _ g_7 => ?_)
    refine j_getR hC flX5_200 g_7 (jlt hN g_7 (by decide)) (by decide) (by decide) (fun _ _ _ => rfl) (fun hs => hs _ _ _ (sf_7_4 g_7).1) (dOk_at dt_X5_debateLine 14 rfl) ?_
    refine j_callVi hC clX5_185 (fun rz hrz => c_X5_toldName hN ((sf_7_4 g_7).2.1) _ rz hrz) (show shp 69 = (5, 16) from rfl) (Nat.lt_of_lt_of_le (Nat.le_of_ble_eq_true rfl : 69 < 152) hN) (by decide) rfl rfl ⟨Nat.le_of_ble_eq_true rfl, Nat.le_of_ble_eq_true rfl⟩ ⟨Nat.le_refl 0, Nat.le_refl 0⟩ (As := [.ref (rf z_6 4)]) (st := []) rfl (Nat.le_of_ble_eq_true rfl) (dOk_at dt_X5_debateLine 15 rfl) (fun v_8 h_9 _ => ?_)
    refine j_istore_n hC rfl (lv' := [(1, .int v_8), (0, .ref 69)]) (by decide) rfl (dOk_at dt_X5_debateLine 16 rfl) ?_
    refine j_aload_n hC 1 rfl rfl (dOk_at dt_X5_debateLine 17 rfl) ?_
    refine j_aload_n hC 1 rfl rfl (dOk_at dt_X5_debateLine 18 rfl) ?_
    refine j_getD (q := (7, 20)) hC flX5_19 (show shp 69 = (5, 16) from rfl) (Nat.lt_of_lt_of_le (Nat.le_of_ble_eq_true rfl : 69 < 152) hN) (by decide) (by decide) (fun _ _ _ => rfl) (dOk_at dt_X5_debateLine 19 rfl) (fun z_10 _ g_11 => ?_)
    refine j_getR hC flX5_194 g_11 (jlt hN g_11 (by decide)) (by decide) (by decide) (fun _ _ _ => rfl) (fun hs => hs _ _ _ (sf_7_1 g_11).1) (dOk_at dt_X5_debateLine 20 rfl) ?_
    refine j_callVi hC clX5_185 (fun rz hrz => c_X5_toldName hN ((sf_7_1 g_11).2.1) _ rz hrz) (show shp 69 = (5, 16) from rfl) (Nat.lt_of_lt_of_le (Nat.le_of_ble_eq_true rfl : 69 < 152) hN) (by decide) rfl rfl ⟨Nat.le_of_ble_eq_true rfl, Nat.le_of_ble_eq_true rfl⟩ ⟨Nat.le_refl 0, Nat.le_refl 0⟩ (As := [.ref (rf z_10 1)]) (st := []) rfl (Nat.le_of_ble_eq_true rfl) (dOk_at dt_X5_debateLine 21 rfl) (fun v_12 h_13 _ => ?_)
    refine j_istore_n hC rfl (lv' := [(2, .int v_12), (1, .int v_8), (0, .ref 69)]) (by decide) rfl (dOk_at dt_X5_debateLine 22 rfl) ?_
    refine j_aload_n hC 2 rfl rfl (dOk_at dt_X5_debateLine 23 rfl) ?_
    refine j_iconst hC (v := (0 : Int32)) rfl (dOk_at dt_X5_debateLine 24 rfl) ?_
    refine j_bipush hC (v := (99 : Int32)) rfl (dOk_at dt_X5_debateLine 25 rfl) ?_
    refine j_callVi hC clX5_175 (fun rz hrz => c_X5_numberWithin hN _ _ _ rz hrz) (show shp 69 = (5, 16) from rfl) (Nat.lt_of_lt_of_le (Nat.le_of_ble_eq_true rfl : 69 < 152) hN) (by decide) rfl rfl ⟨Nat.le_of_ble_eq_true rfl, Nat.le_of_ble_eq_true rfl⟩ ⟨Nat.le_refl 0, Nat.le_refl 0⟩ (As := [.int (0 : Int32), .int (99 : Int32)]) (st := []) rfl (Nat.le_of_ble_eq_true rfl) (dOk_at dt_X5_debateLine 26 rfl) (fun v_14 h_15 _ => ?_)
    refine j_istore_n hC rfl (lv' := [(3, .int v_14), (2, .int v_12), (1, .int v_8), (0, .ref 69)]) (by decide) rfl (dOk_at dt_X5_debateLine 27 rfl) ?_
    refine j_aload_n hC 3 rfl rfl (dOk_at dt_X5_debateLine 28 rfl) ?_
    refine j_getI hC flX5_73 (show shp 69 = (5, 16) from rfl) (Nat.lt_of_lt_of_le (Nat.le_of_ble_eq_true rfl : 69 < 152) hN) (by decide) (by decide) (fun _ _ _ => rfl) (dOk_at dt_X5_debateLine 29 rfl) ?_
    refine j_if_ne hC (tgt := 71) (by decide) (dOk_at dt_X5_debateLine 30 rfl) (fun q_16 => ?_) (fun q_16 => ?_)
    · exact j_vret hC hret (dOk_at dt_X5_debateLine 37 rfl)
    · refine j_aload_n hC 3 rfl rfl (dOk_at dt_X5_debateLine 31 rfl) ?_
      refine j_getD (q := (7, 20)) hC flX5_19 (show shp 69 = (5, 16) from rfl) (Nat.lt_of_lt_of_le (Nat.le_of_ble_eq_true rfl : 69 < 152) hN) (by decide) (by decide) (fun _ _ _ => rfl) (dOk_at dt_X5_debateLine 32 rfl) (fun z_17 _ g_18 => ?_)
      refine j_iload_n hC 2 rfl rfl (dOk_at dt_X5_debateLine 33 rfl) ?_
      refine j_iload_n hC 1 rfl rfl (dOk_at dt_X5_debateLine 34 rfl) ?_
      refine j_iload_n hC 0 rfl rfl (dOk_at dt_X5_debateLine 35 rfl) ?_
      refine j_callVv hC clX5_216 (fun rz hrz => c_X7_addDebate hN (g_18) _ _ _ _ rz hrz) g_18 (jlt hN g_18 (by decide)) (by decide) rfl rfl ⟨Nat.le_of_ble_eq_true rfl, Nat.le_of_ble_eq_true rfl⟩ ⟨Nat.le_refl 0, Nat.le_refl 0⟩ (As := [.int v_8, .int v_12, .int v_14]) (st := []) rfl (Nat.le_of_ble_eq_true rfl) (dOk_at dt_X5_debateLine 36 rfl) (fun h_20 _ => ?_)
      exact j_vret hC hret (dOk_at dt_X5_debateLine 37 rfl)
  unfold fX5_debateLine
  refine j_aload_n hC 0 rfl rfl (dOk_at dt_X5_debateLine 0 rfl) ?_
  refine j_aload_n hC 0 rfl rfl (dOk_at dt_X5_debateLine 1 rfl) ?_
  refine j_getD (q := (7, 20)) hC flX5_19 (show shp 69 = (5, 16) from rfl) (Nat.lt_of_lt_of_le (Nat.le_of_ble_eq_true rfl : 69 < 152) hN) (by decide) (by decide) (fun _ _ _ => rfl) (dOk_at dt_X5_debateLine 2 rfl) (fun z_1 _ g_2 => ?_)
  refine j_getI hC flX5_213 g_2 (jlt hN g_2 (by decide)) (by decide) (by decide) (fun _ _ _ => rfl) (dOk_at dt_X5_debateLine 3 rfl) ?_
  refine j_bipush hC (v := (12 : Int32)) rfl (dOk_at dt_X5_debateLine 4 rfl) ?_
  refine j_icmp_ge hC (tgt := 17) (by decide) (dOk_at dt_X5_debateLine 5 rfl) (fun q_3 => ?_) (fun q_3 => ?_)
  · refine j_iconst hC (v := (0 : Int32)) rfl (dOk_at dt_X5_debateLine 8 rfl) ?_
    exact b18 h (0 : Int32) 
  · refine j_iconst hC (v := (1 : Int32)) rfl (dOk_at dt_X5_debateLine 6 rfl) ?_
    refine j_goto hC (tgt := 18) (by decide) (dOk_at dt_X5_debateLine 7 rfl) ?_
    exact b18 h (1 : Int32) 
def tb_X7_addStuff : List (Nat × Instr × Nat) := [(0, .aload_n 0, 1), (1, .getfield 53, 3), (4, .bipush 6, 2), (6, .if_icmp .ge 33, 3), (9, .aload_n 0, 1), (10, .getfield 56, 3), (13, .aload_n 0, 1), (14, .getfield 53, 3), (17, .iload_n 1, 1), (18, .iastore, 1), (19, .aload_n 0, 1), (20, .getfield 59, 3), (23, .aload_n 0, 1), (24, .getfield 53, 3), (27, .iload_n 2, 1), (28, .iastore, 1), (29, .aload_n 0, 1), (30, .dup, 1), (31, .getfield 53, 3), (34, .iconst 1, 1), (35, .iadd, 1), (36, .putfield 53, 3), (39, .return_, 1)]
theorem dt_X7_addStuff : dOk cX7_addStuff tb_X7_addStuff = true := by decide +kernel
def fX7_addStuff (tt : Nat) (h : Hp) (x1 : Int32) (x2 : Int32) : Option (Hp) := if (6 : Int32) ≤ (hI h tt 10) then (some h) else (if inb (hI h tt 10) 6 then (if inb (hI (uI h (rf tt 11) (Int32.toNatClampNeg (hI h tt 10)) x1) tt 10) 6 then (some (uI (uI (uI h (rf tt 11) (Int32.toNatClampNeg (hI h tt 10)) x1) (rf tt 12) (Int32.toNatClampNeg (hI (uI h (rf tt 11) (Int32.toNatClampNeg (hI h tt 10)) x1) tt 10)) x2) tt 10 ((hI (uI (uI h (rf tt 11) (Int32.toNatClampNeg (hI h tt 10)) x1) (rf tt 12) (Int32.toNatClampNeg (hI (uI h (rf tt 11) (Int32.toNatClampNeg (hI h tt 10)) x1) tt 10)) x2) tt 10) + (1 : Int32)))) else none) else none)
set_option maxRecDepth 100000 in
set_option maxHeartbeats 4000000 in
theorem c_X7_addStuff {l : Launch} {sb : State} {D : va_G} {ids : Nat → ClassId} {n : Nat} (hN : 152 ≤ n) {tt : Nat} (ht : shp tt = (7, 20)) (h : Hp) (x1 : Int32) (x2 : Int32) (r : Hp) (hr : fX7_addStuff tt h x1 x2 = some r) : jM l yX7_addStuff cX7_addStuff 3 none 0 sb D ids shp St n [.ref tt, .int x1, .int x2] h (jQv sb D ids shp St n r) := by
  refine jM_of hr rfl (Nat.le_of_ble_eq_true rfl) ?_
  intro p e s m args below meth c hC hret
  unfold fX7_addStuff
  refine j_aload_n hC 0 rfl rfl (dOk_at dt_X7_addStuff 0 rfl) ?_
  refine j_getI hC flX7_53 ht (jlt hN ht (by decide)) (by decide) (by decide) (fun _ _ _ => rfl) (dOk_at dt_X7_addStuff 1 rfl) ?_
  refine j_bipush hC (v := (6 : Int32)) rfl (dOk_at dt_X7_addStuff 2 rfl) ?_
  refine j_icmp_ge hC (tgt := 39) (by decide) (dOk_at dt_X7_addStuff 3 rfl) (fun q_1 => ?_) (fun q_1 => ?_)
  · exact j_vret hC hret (dOk_at dt_X7_addStuff 22 rfl)
  · refine j_aload_n hC 0 rfl rfl (dOk_at dt_X7_addStuff 4 rfl) ?_
    refine j_getR hC flX7_56 ht (jlt hN ht (by decide)) (by decide) (by decide) (fun _ _ _ => rfl) (fun hs => hs _ _ _ (sf_7_11 ht).1) (dOk_at dt_X7_addStuff 5 rfl) ?_
    refine j_aload_n hC 0 rfl rfl (dOk_at dt_X7_addStuff 6 rfl) ?_
    refine j_getI hC flX7_53 ht (jlt hN ht (by decide)) (by decide) (by decide) (fun _ _ _ => rfl) (dOk_at dt_X7_addStuff 7 rfl) ?_
    refine j_iload_n hC 1 rfl rfl (dOk_at dt_X7_addStuff 8 rfl) ?_
    refine j_iast hC St_SP (sf_7_11 ht).2.1 (Nat.lt_of_lt_of_le (sf_7_11 ht).2.2 hN) (dOk_at dt_X7_addStuff 9 rfl) ?_
    refine j_aload_n hC 0 rfl rfl (dOk_at dt_X7_addStuff 10 rfl) ?_
    refine j_getR hC flX7_59 ht (jlt hN ht (by decide)) (by decide) (by decide) (fun _ _ _ => rfl) (fun hs => hs _ _ _ (sf_7_12 ht).1) (dOk_at dt_X7_addStuff 11 rfl) ?_
    refine j_aload_n hC 0 rfl rfl (dOk_at dt_X7_addStuff 12 rfl) ?_
    refine j_getI hC flX7_53 ht (jlt hN ht (by decide)) (by decide) (by decide) (fun _ _ _ => rfl) (dOk_at dt_X7_addStuff 13 rfl) ?_
    refine j_iload_n hC 2 rfl rfl (dOk_at dt_X7_addStuff 14 rfl) ?_
    refine j_iast hC St_SP (sf_7_12 ht).2.1 (Nat.lt_of_lt_of_le (sf_7_12 ht).2.2 hN) (dOk_at dt_X7_addStuff 15 rfl) ?_
    refine j_aload_n hC 0 rfl rfl (dOk_at dt_X7_addStuff 16 rfl) ?_
    refine j_dupr hC (dOk_at dt_X7_addStuff 17 rfl) ?_
    refine j_getI hC flX7_53 ht (jlt hN ht (by decide)) (by decide) (by decide) (fun _ _ _ => rfl) (dOk_at dt_X7_addStuff 18 rfl) ?_
    refine j_iconst hC (v := (1 : Int32)) rfl (dOk_at dt_X7_addStuff 19 rfl) ?_
    refine j_iadd hC (dOk_at dt_X7_addStuff 20 rfl) ?_
    refine j_putI hC St_SP flX7_53 ht (jlt hN ht (by decide)) (by decide) (by decide) rfl rfl (dOk_at dt_X7_addStuff 21 rfl) ?_
    exact j_vret hC hret (dOk_at dt_X7_addStuff 22 rfl)
def tb_X5_stuffLine : List (Nat × Instr × Nat) := [(0, .aload_n 0, 1), (1, .aload_n 0, 1), (2, .getfield 19, 3), (5, .getfield 219, 3), (8, .bipush 6, 2), (10, .if_icmp .ge 7, 3), (13, .iconst 1, 1), (14, .goto 4, 3), (17, .iconst 0, 1), (18, .iconst 2, 1), (19, .invokevirtual 167, 3), (22, .aload_n 0, 1), (23, .aload_n 0, 1), (24, .getfield 19, 3), (27, .getfield 194, 3), (30, .invokevirtual 185, 3), (33, .istore_n 1, 1), (34, .aload_n 0, 1), (35, .iconst 0, 1), (36, .bipush 99, 2), (38, .invokevirtual 175, 3), (41, .istore_n 2, 1), (42, .aload_n 0, 1), (43, .getfield 73, 3), (46, .ifCond .ne 12, 3), (49, .aload_n 0, 1), (50, .getfield 19, 3), (53, .iload_n 1, 1), (54, .iload_n 2, 1), (55, .invokevirtual 222, 3), (58, .return_, 1)]
theorem dt_X5_stuffLine : dOk cX5_stuffLine tb_X5_stuffLine = true := by decide +kernel
def fX5_stuffLine_18 (h : Hp) (s1 : Int32) : Option (Hp) := (fX5_passWord h s1 (2 : Int32)).bind (fun h_5 => (dref shp h_5 69 4 (7, 20)).bind (fun z_6 => bnd (fX5_toldName (rf z_6 1) h_5) (fun v_8 h_9 => bnd (fX5_numberWithin h_9 (0 : Int32) (99 : Int32)) (fun v_10 h_11 => if (hI h_11 69 14) = 0 then ((dref shp h_11 69 4 (7, 20)).bind (fun z_13 => (fX7_addStuff z_13 h_11 v_8 v_10).bind (fun h_16 => some h_16))) else (some h_11)))))
def fX5_stuffLine (h : Hp) : Option (Hp) := (dref shp h 69 4 (7, 20)).bind (fun z_1 => if (6 : Int32) ≤ (hI h z_1 10) then (fX5_stuffLine_18 h (0 : Int32)) else (fX5_stuffLine_18 h (1 : Int32)))
set_option maxRecDepth 100000 in
set_option maxHeartbeats 4000000 in
theorem c_X5_stuffLine {l : Launch} {sb : State} {D : va_G} {ids : Nat → ClassId} {n : Nat} (hN : 152 ≤ n) (h : Hp) (r : Hp) (hr : fX5_stuffLine h = some r) : jM l yX5_stuffLine cX5_stuffLine 3 none 4 sb D ids shp St n [.ref 69] h (jQv sb D ids shp St n r) := by
  refine jM_of hr rfl (Nat.le_of_ble_eq_true rfl) ?_
  intro p e s m args below meth c hC hret
  have b18 : ∀ (h : Hp) (s1 : Int32) , jJ p l e (rmD 4) s m args below meth c 3 sb D ids shp St (fun r => MQ below (jQv sb D ids shp St n r) args s 0 0 (jA sb)) n 0 0 h 18 [(0, .ref 69)] [.int s1, .ref 69] (fX5_stuffLine_18 h s1) := by
    intro h s1 
    unfold fX5_stuffLine_18
    refine j_iconst hC (v := (2 : Int32)) rfl (dOk_at dt_X5_stuffLine 9 rfl) ?_
    refine j_callVv hC clX5_167 (fun rz hrz => c_X5_passWord hN _ _ _ rz hrz) (show shp 69 = (5, 16) from rfl) (Nat.lt_of_lt_of_le (Nat.le_of_ble_eq_true rfl : 69 < 152) hN) (by decide) rfl rfl ⟨Nat.le_of_ble_eq_true rfl, Nat.le_of_ble_eq_true rfl⟩ ⟨Nat.le_refl 0, Nat.le_refl 0⟩ (As := [.int s1, .int (2 : Int32)]) (st := []) rfl (Nat.le_of_ble_eq_true rfl) (dOk_at dt_X5_stuffLine 10 rfl) (fun h_5 _ => ?_)
    refine j_aload_n hC 0 rfl rfl (dOk_at dt_X5_stuffLine 11 rfl) ?_
    refine j_aload_n hC 0 rfl rfl (dOk_at dt_X5_stuffLine 12 rfl) ?_
    refine j_getD (q := (7, 20)) hC flX5_19 (show shp 69 = (5, 16) from rfl) (Nat.lt_of_lt_of_le (Nat.le_of_ble_eq_true rfl : 69 < 152) hN) (by decide) (by decide) (fun _ _ _ => rfl) (dOk_at dt_X5_stuffLine 13 rfl) (fun z_6 _ g_7 => ?_)
    refine j_getR hC flX5_194 g_7 (jlt hN g_7 (by decide)) (by decide) (by decide) (fun _ _ _ => rfl) (fun hs => hs _ _ _ (sf_7_1 g_7).1) (dOk_at dt_X5_stuffLine 14 rfl) ?_
    refine j_callVi hC clX5_185 (fun rz hrz => c_X5_toldName hN ((sf_7_1 g_7).2.1) _ rz hrz) (show shp 69 = (5, 16) from rfl) (Nat.lt_of_lt_of_le (Nat.le_of_ble_eq_true rfl : 69 < 152) hN) (by decide) rfl rfl ⟨Nat.le_of_ble_eq_true rfl, Nat.le_of_ble_eq_true rfl⟩ ⟨Nat.le_refl 0, Nat.le_refl 0⟩ (As := [.ref (rf z_6 1)]) (st := []) rfl (Nat.le_of_ble_eq_true rfl) (dOk_at dt_X5_stuffLine 15 rfl) (fun v_8 h_9 _ => ?_)
    refine j_istore_n hC rfl (lv' := [(1, .int v_8), (0, .ref 69)]) (by decide) rfl (dOk_at dt_X5_stuffLine 16 rfl) ?_
    refine j_aload_n hC 1 rfl rfl (dOk_at dt_X5_stuffLine 17 rfl) ?_
    refine j_iconst hC (v := (0 : Int32)) rfl (dOk_at dt_X5_stuffLine 18 rfl) ?_
    refine j_bipush hC (v := (99 : Int32)) rfl (dOk_at dt_X5_stuffLine 19 rfl) ?_
    refine j_callVi hC clX5_175 (fun rz hrz => c_X5_numberWithin hN _ _ _ rz hrz) (show shp 69 = (5, 16) from rfl) (Nat.lt_of_lt_of_le (Nat.le_of_ble_eq_true rfl : 69 < 152) hN) (by decide) rfl rfl ⟨Nat.le_of_ble_eq_true rfl, Nat.le_of_ble_eq_true rfl⟩ ⟨Nat.le_refl 0, Nat.le_refl 0⟩ (As := [.int (0 : Int32), .int (99 : Int32)]) (st := []) rfl (Nat.le_of_ble_eq_true rfl) (dOk_at dt_X5_stuffLine 20 rfl) (fun v_10 h_11 _ => ?_)
    refine j_istore_n hC rfl (lv' := [(2, .int v_10), (1, .int v_8), (0, .ref 69)]) (by decide) rfl (dOk_at dt_X5_stuffLine 21 rfl) ?_
    refine j_aload_n hC 2 rfl rfl (dOk_at dt_X5_stuffLine 22 rfl) ?_
    refine j_getI hC flX5_73 (show shp 69 = (5, 16) from rfl) (Nat.lt_of_lt_of_le (Nat.le_of_ble_eq_true rfl : 69 < 152) hN) (by decide) (by decide) (fun _ _ _ => rfl) (dOk_at dt_X5_stuffLine 23 rfl) ?_
    refine j_if_ne hC (tgt := 58) (by decide) (dOk_at dt_X5_stuffLine 24 rfl) (fun q_12 => ?_) (fun q_12 => ?_)
    · exact j_vret hC hret (dOk_at dt_X5_stuffLine 30 rfl)
    · refine j_aload_n hC 2 rfl rfl (dOk_at dt_X5_stuffLine 25 rfl) ?_
      refine j_getD (q := (7, 20)) hC flX5_19 (show shp 69 = (5, 16) from rfl) (Nat.lt_of_lt_of_le (Nat.le_of_ble_eq_true rfl : 69 < 152) hN) (by decide) (by decide) (fun _ _ _ => rfl) (dOk_at dt_X5_stuffLine 26 rfl) (fun z_13 _ g_14 => ?_)
      refine j_iload_n hC 1 rfl rfl (dOk_at dt_X5_stuffLine 27 rfl) ?_
      refine j_iload_n hC 0 rfl rfl (dOk_at dt_X5_stuffLine 28 rfl) ?_
      refine j_callVv hC clX5_222 (fun rz hrz => c_X7_addStuff hN (g_14) _ _ _ rz hrz) g_14 (jlt hN g_14 (by decide)) (by decide) rfl rfl ⟨Nat.le_of_ble_eq_true rfl, Nat.le_of_ble_eq_true rfl⟩ ⟨Nat.le_refl 0, Nat.le_refl 0⟩ (As := [.int v_8, .int v_10]) (st := []) rfl (Nat.le_of_ble_eq_true rfl) (dOk_at dt_X5_stuffLine 29 rfl) (fun h_16 _ => ?_)
      exact j_vret hC hret (dOk_at dt_X5_stuffLine 30 rfl)
  unfold fX5_stuffLine
  refine j_aload_n hC 0 rfl rfl (dOk_at dt_X5_stuffLine 0 rfl) ?_
  refine j_aload_n hC 0 rfl rfl (dOk_at dt_X5_stuffLine 1 rfl) ?_
  refine j_getD (q := (7, 20)) hC flX5_19 (show shp 69 = (5, 16) from rfl) (Nat.lt_of_lt_of_le (Nat.le_of_ble_eq_true rfl : 69 < 152) hN) (by decide) (by decide) (fun _ _ _ => rfl) (dOk_at dt_X5_stuffLine 2 rfl) (fun z_1 _ g_2 => ?_)
  refine j_getI hC flX5_219 g_2 (jlt hN g_2 (by decide)) (by decide) (by decide) (fun _ _ _ => rfl) (dOk_at dt_X5_stuffLine 3 rfl) ?_
  refine j_bipush hC (v := (6 : Int32)) rfl (dOk_at dt_X5_stuffLine 4 rfl) ?_
  refine j_icmp_ge hC (tgt := 17) (by decide) (dOk_at dt_X5_stuffLine 5 rfl) (fun q_3 => ?_) (fun q_3 => ?_)
  · refine j_iconst hC (v := (0 : Int32)) rfl (dOk_at dt_X5_stuffLine 8 rfl) ?_
    exact b18 h (0 : Int32) 
  · refine j_iconst hC (v := (1 : Int32)) rfl (dOk_at dt_X5_stuffLine 6 rfl) ?_
    refine j_goto hC (tgt := 18) (by decide) (dOk_at dt_X5_stuffLine 7 rfl) ?_
    exact b18 h (1 : Int32) 
def tb_X5_dampLine : List (Nat × Instr × Nat) := [(0, .aload_n 0, 1), (1, .aload_n 0, 1), (2, .getfield 19, 3), (5, .getfield 225, 3), (8, .ifCond .ne 7, 3), (11, .iconst 1, 1), (12, .goto 4, 3), (15, .iconst 0, 1), (16, .iconst 3, 1), (17, .invokevirtual 167, 3), (20, .aload_n 0, 1), (21, .iconst 0, 1), (22, .bipush 100, 2), (24, .invokevirtual 175, 3), (27, .istore_n 1, 1), (28, .aload_n 0, 1), (29, .getfield 73, 3), (32, .ifCond .ne 19, 3), (35, .aload_n 0, 1), (36, .getfield 19, 3), (39, .iload_n 1, 1), (40, .putfield 229, 3), (43, .aload_n 0, 1), (44, .getfield 19, 3), (47, .iconst 1, 1), (48, .putfield 225, 3), (51, .return_, 1)]
theorem dt_X5_dampLine : dOk cX5_dampLine tb_X5_dampLine = true := by decide +kernel
def fX5_dampLine_16 (h : Hp) (s1 : Int32) : Option (Hp) := (fX5_passWord h s1 (3 : Int32)).bind (fun h_5 => bnd (fX5_numberWithin h_5 (0 : Int32) (100 : Int32)) (fun v_6 h_7 => if (hI h_7 69 14) = 0 then ((dref shp h_7 69 4 (7, 20)).bind (fun z_9 => (dref shp (uI h_7 z_9 13 v_6) 69 4 (7, 20)).bind (fun z_11 => some (uI (uI h_7 z_9 13 v_6) z_11 14 (1 : Int32))))) else (some h_7)))
def fX5_dampLine (h : Hp) : Option (Hp) := (dref shp h 69 4 (7, 20)).bind (fun z_1 => if (hI h z_1 14) = 0 then (fX5_dampLine_16 h (1 : Int32)) else (fX5_dampLine_16 h (0 : Int32)))
set_option maxRecDepth 100000 in
set_option maxHeartbeats 4000000 in
theorem c_X5_dampLine {l : Launch} {sb : State} {D : va_G} {ids : Nat → ClassId} {n : Nat} (hN : 152 ≤ n) (h : Hp) (r : Hp) (hr : fX5_dampLine h = some r) : jM l yX5_dampLine cX5_dampLine 2 none 4 sb D ids shp St n [.ref 69] h (jQv sb D ids shp St n r) := by
  refine jM_of hr rfl (Nat.le_of_ble_eq_true rfl) ?_
  intro p e s m args below meth c hC hret
  have b16 : ∀ (h : Hp) (s1 : Int32) , jJ p l e (rmD 4) s m args below meth c 2 sb D ids shp St (fun r => MQ below (jQv sb D ids shp St n r) args s 0 0 (jA sb)) n 0 0 h 16 [(0, .ref 69)] [.int s1, .ref 69] (fX5_dampLine_16 h s1) := by
    intro h s1 
    unfold fX5_dampLine_16
    refine j_iconst hC (v := (3 : Int32)) rfl (dOk_at dt_X5_dampLine 8 rfl) ?_
    refine j_callVv hC clX5_167 (fun rz hrz => c_X5_passWord hN _ _ _ rz hrz) (show shp 69 = (5, 16) from rfl) (Nat.lt_of_lt_of_le (Nat.le_of_ble_eq_true rfl : 69 < 152) hN) (by decide) rfl rfl ⟨Nat.le_of_ble_eq_true rfl, Nat.le_of_ble_eq_true rfl⟩ ⟨Nat.le_refl 0, Nat.le_refl 0⟩ (As := [.int s1, .int (3 : Int32)]) (st := []) rfl (Nat.le_of_ble_eq_true rfl) (dOk_at dt_X5_dampLine 9 rfl) (fun h_5 _ => ?_)
    refine j_aload_n hC 0 rfl rfl (dOk_at dt_X5_dampLine 10 rfl) ?_
    refine j_iconst hC (v := (0 : Int32)) rfl (dOk_at dt_X5_dampLine 11 rfl) ?_
    refine j_bipush hC (v := (100 : Int32)) rfl (dOk_at dt_X5_dampLine 12 rfl) ?_
    refine j_callVi hC clX5_175 (fun rz hrz => c_X5_numberWithin hN _ _ _ rz hrz) (show shp 69 = (5, 16) from rfl) (Nat.lt_of_lt_of_le (Nat.le_of_ble_eq_true rfl : 69 < 152) hN) (by decide) rfl rfl ⟨Nat.le_of_ble_eq_true rfl, Nat.le_of_ble_eq_true rfl⟩ ⟨Nat.le_refl 0, Nat.le_refl 0⟩ (As := [.int (0 : Int32), .int (100 : Int32)]) (st := []) rfl (Nat.le_of_ble_eq_true rfl) (dOk_at dt_X5_dampLine 13 rfl) (fun v_6 h_7 _ => ?_)
    refine j_istore_n hC rfl (lv' := [(1, .int v_6), (0, .ref 69)]) (by decide) rfl (dOk_at dt_X5_dampLine 14 rfl) ?_
    refine j_aload_n hC 1 rfl rfl (dOk_at dt_X5_dampLine 15 rfl) ?_
    refine j_getI hC flX5_73 (show shp 69 = (5, 16) from rfl) (Nat.lt_of_lt_of_le (Nat.le_of_ble_eq_true rfl : 69 < 152) hN) (by decide) (by decide) (fun _ _ _ => rfl) (dOk_at dt_X5_dampLine 16 rfl) ?_
    refine j_if_ne hC (tgt := 51) (by decide) (dOk_at dt_X5_dampLine 17 rfl) (fun q_8 => ?_) (fun q_8 => ?_)
    · exact j_vret hC hret (dOk_at dt_X5_dampLine 26 rfl)
    · refine j_aload_n hC 1 rfl rfl (dOk_at dt_X5_dampLine 18 rfl) ?_
      refine j_getD (q := (7, 20)) hC flX5_19 (show shp 69 = (5, 16) from rfl) (Nat.lt_of_lt_of_le (Nat.le_of_ble_eq_true rfl : 69 < 152) hN) (by decide) (by decide) (fun _ _ _ => rfl) (dOk_at dt_X5_dampLine 19 rfl) (fun z_9 _ g_10 => ?_)
      refine j_iload_n hC 0 rfl rfl (dOk_at dt_X5_dampLine 20 rfl) ?_
      refine j_putI hC St_SP flX5_229 g_10 (jlt hN g_10 (by decide)) (by decide) (by decide) rfl rfl (dOk_at dt_X5_dampLine 21 rfl) ?_
      refine j_aload_n hC 1 rfl rfl (dOk_at dt_X5_dampLine 22 rfl) ?_
      refine j_getD (q := (7, 20)) hC flX5_19 (show shp 69 = (5, 16) from rfl) (Nat.lt_of_lt_of_le (Nat.le_of_ble_eq_true rfl : 69 < 152) hN) (by decide) (by decide) (fun _ _ _ => rfl) (dOk_at dt_X5_dampLine 23 rfl) (fun z_11 _ g_12 => ?_)
      refine j_iconst hC (v := (1 : Int32)) rfl (dOk_at dt_X5_dampLine 24 rfl) ?_
      refine j_putZ hC St_SP flX5_225 g_12 (jlt hN g_12 (by decide)) (by decide) (by decide) rfl rfl rfl (dOk_at dt_X5_dampLine 25 rfl) ?_
      exact j_vret hC hret (dOk_at dt_X5_dampLine 26 rfl)
  unfold fX5_dampLine
  refine j_aload_n hC 0 rfl rfl (dOk_at dt_X5_dampLine 0 rfl) ?_
  refine j_aload_n hC 0 rfl rfl (dOk_at dt_X5_dampLine 1 rfl) ?_
  refine j_getD (q := (7, 20)) hC flX5_19 (show shp 69 = (5, 16) from rfl) (Nat.lt_of_lt_of_le (Nat.le_of_ble_eq_true rfl : 69 < 152) hN) (by decide) (by decide) (fun _ _ _ => rfl) (dOk_at dt_X5_dampLine 2 rfl) (fun z_1 _ g_2 => ?_)
  refine j_getI hC flX5_225 g_2 (jlt hN g_2 (by decide)) (by decide) (by decide) (fun _ _ _ => rfl) (dOk_at dt_X5_dampLine 3 rfl) ?_
  refine j_if_ne hC (tgt := 15) (by decide) (dOk_at dt_X5_dampLine 4 rfl) (fun q_3 => ?_) (fun q_3 => ?_)
  · refine j_iconst hC (v := (0 : Int32)) rfl (dOk_at dt_X5_dampLine 7 rfl) ?_
    exact b16 h (0 : Int32) 
  · refine j_iconst hC (v := (1 : Int32)) rfl (dOk_at dt_X5_dampLine 5 rfl) ?_
    refine j_goto hC (tgt := 16) (by decide) (dOk_at dt_X5_dampLine 6 rfl) ?_
    exact b16 h (1 : Int32) 
def tb_X5_seedLine : List (Nat × Instr × Nat) := [(0, .aload_n 0, 1), (1, .aload_n 0, 1), (2, .getfield 19, 3), (5, .getfield 232, 3), (8, .ifCond .ne 7, 3), (11, .iconst 1, 1), (12, .goto 4, 3), (15, .iconst 0, 1), (16, .iconst 3, 1), (17, .invokevirtual 167, 3), (20, .aload_n 0, 1), (21, .iconst 0, 1), (22, .ldc 235, 2), (24, .invokevirtual 175, 3), (27, .istore_n 1, 1), (28, .aload_n 0, 1), (29, .getfield 73, 3), (32, .ifCond .ne 19, 3), (35, .aload_n 0, 1), (36, .getfield 19, 3), (39, .iload_n 1, 1), (40, .putfield 236, 3), (43, .aload_n 0, 1), (44, .getfield 19, 3), (47, .iconst 1, 1), (48, .putfield 232, 3), (51, .return_, 1)]
theorem dt_X5_seedLine : dOk cX5_seedLine tb_X5_seedLine = true := by decide +kernel
def fX5_seedLine_16 (h : Hp) (s1 : Int32) : Option (Hp) := (fX5_passWord h s1 (3 : Int32)).bind (fun h_5 => bnd (fX5_numberWithin h_5 (0 : Int32) (99999 : Int32)) (fun v_6 h_7 => if (hI h_7 69 14) = 0 then ((dref shp h_7 69 4 (7, 20)).bind (fun z_9 => (dref shp (uI h_7 z_9 15 v_6) 69 4 (7, 20)).bind (fun z_11 => some (uI (uI h_7 z_9 15 v_6) z_11 16 (1 : Int32))))) else (some h_7)))
def fX5_seedLine (h : Hp) : Option (Hp) := (dref shp h 69 4 (7, 20)).bind (fun z_1 => if (hI h z_1 16) = 0 then (fX5_seedLine_16 h (1 : Int32)) else (fX5_seedLine_16 h (0 : Int32)))
set_option maxRecDepth 100000 in
set_option maxHeartbeats 4000000 in
theorem c_X5_seedLine {l : Launch} {sb : State} {D : va_G} {ids : Nat → ClassId} {n : Nat} (hN : 152 ≤ n) (h : Hp) (r : Hp) (hr : fX5_seedLine h = some r) : jM l yX5_seedLine cX5_seedLine 2 none 4 sb D ids shp St n [.ref 69] h (jQv sb D ids shp St n r) := by
  refine jM_of hr rfl (Nat.le_of_ble_eq_true rfl) ?_
  intro p e s m args below meth c hC hret
  have b16 : ∀ (h : Hp) (s1 : Int32) , jJ p l e (rmD 4) s m args below meth c 2 sb D ids shp St (fun r => MQ below (jQv sb D ids shp St n r) args s 0 0 (jA sb)) n 0 0 h 16 [(0, .ref 69)] [.int s1, .ref 69] (fX5_seedLine_16 h s1) := by
    intro h s1 
    unfold fX5_seedLine_16
    refine j_iconst hC (v := (3 : Int32)) rfl (dOk_at dt_X5_seedLine 8 rfl) ?_
    refine j_callVv hC clX5_167 (fun rz hrz => c_X5_passWord hN _ _ _ rz hrz) (show shp 69 = (5, 16) from rfl) (Nat.lt_of_lt_of_le (Nat.le_of_ble_eq_true rfl : 69 < 152) hN) (by decide) rfl rfl ⟨Nat.le_of_ble_eq_true rfl, Nat.le_of_ble_eq_true rfl⟩ ⟨Nat.le_refl 0, Nat.le_refl 0⟩ (As := [.int s1, .int (3 : Int32)]) (st := []) rfl (Nat.le_of_ble_eq_true rfl) (dOk_at dt_X5_seedLine 9 rfl) (fun h_5 _ => ?_)
    refine j_aload_n hC 0 rfl rfl (dOk_at dt_X5_seedLine 10 rfl) ?_
    refine j_iconst hC (v := (0 : Int32)) rfl (dOk_at dt_X5_seedLine 11 rfl) ?_
    refine j_ldc hC kcX5_235 (dOk_at dt_X5_seedLine 12 rfl) ?_
    refine j_callVi hC clX5_175 (fun rz hrz => c_X5_numberWithin hN _ _ _ rz hrz) (show shp 69 = (5, 16) from rfl) (Nat.lt_of_lt_of_le (Nat.le_of_ble_eq_true rfl : 69 < 152) hN) (by decide) rfl rfl ⟨Nat.le_of_ble_eq_true rfl, Nat.le_of_ble_eq_true rfl⟩ ⟨Nat.le_refl 0, Nat.le_refl 0⟩ (As := [.int (0 : Int32), .int (99999 : Int32)]) (st := []) rfl (Nat.le_of_ble_eq_true rfl) (dOk_at dt_X5_seedLine 13 rfl) (fun v_6 h_7 _ => ?_)
    refine j_istore_n hC rfl (lv' := [(1, .int v_6), (0, .ref 69)]) (by decide) rfl (dOk_at dt_X5_seedLine 14 rfl) ?_
    refine j_aload_n hC 1 rfl rfl (dOk_at dt_X5_seedLine 15 rfl) ?_
    refine j_getI hC flX5_73 (show shp 69 = (5, 16) from rfl) (Nat.lt_of_lt_of_le (Nat.le_of_ble_eq_true rfl : 69 < 152) hN) (by decide) (by decide) (fun _ _ _ => rfl) (dOk_at dt_X5_seedLine 16 rfl) ?_
    refine j_if_ne hC (tgt := 51) (by decide) (dOk_at dt_X5_seedLine 17 rfl) (fun q_8 => ?_) (fun q_8 => ?_)
    · exact j_vret hC hret (dOk_at dt_X5_seedLine 26 rfl)
    · refine j_aload_n hC 1 rfl rfl (dOk_at dt_X5_seedLine 18 rfl) ?_
      refine j_getD (q := (7, 20)) hC flX5_19 (show shp 69 = (5, 16) from rfl) (Nat.lt_of_lt_of_le (Nat.le_of_ble_eq_true rfl : 69 < 152) hN) (by decide) (by decide) (fun _ _ _ => rfl) (dOk_at dt_X5_seedLine 19 rfl) (fun z_9 _ g_10 => ?_)
      refine j_iload_n hC 0 rfl rfl (dOk_at dt_X5_seedLine 20 rfl) ?_
      refine j_putI hC St_SP flX5_236 g_10 (jlt hN g_10 (by decide)) (by decide) (by decide) rfl rfl (dOk_at dt_X5_seedLine 21 rfl) ?_
      refine j_aload_n hC 1 rfl rfl (dOk_at dt_X5_seedLine 22 rfl) ?_
      refine j_getD (q := (7, 20)) hC flX5_19 (show shp 69 = (5, 16) from rfl) (Nat.lt_of_lt_of_le (Nat.le_of_ble_eq_true rfl : 69 < 152) hN) (by decide) (by decide) (fun _ _ _ => rfl) (dOk_at dt_X5_seedLine 23 rfl) (fun z_11 _ g_12 => ?_)
      refine j_iconst hC (v := (1 : Int32)) rfl (dOk_at dt_X5_seedLine 24 rfl) ?_
      refine j_putZ hC St_SP flX5_232 g_12 (jlt hN g_12 (by decide)) (by decide) (by decide) rfl rfl rfl (dOk_at dt_X5_seedLine 25 rfl) ?_
      exact j_vret hC hret (dOk_at dt_X5_seedLine 26 rfl)
  unfold fX5_seedLine
  refine j_aload_n hC 0 rfl rfl (dOk_at dt_X5_seedLine 0 rfl) ?_
  refine j_aload_n hC 0 rfl rfl (dOk_at dt_X5_seedLine 1 rfl) ?_
  refine j_getD (q := (7, 20)) hC flX5_19 (show shp 69 = (5, 16) from rfl) (Nat.lt_of_lt_of_le (Nat.le_of_ble_eq_true rfl : 69 < 152) hN) (by decide) (by decide) (fun _ _ _ => rfl) (dOk_at dt_X5_seedLine 2 rfl) (fun z_1 _ g_2 => ?_)
  refine j_getI hC flX5_232 g_2 (jlt hN g_2 (by decide)) (by decide) (by decide) (fun _ _ _ => rfl) (dOk_at dt_X5_seedLine 3 rfl) ?_
  refine j_if_ne hC (tgt := 15) (by decide) (dOk_at dt_X5_seedLine 4 rfl) (fun q_3 => ?_) (fun q_3 => ?_)
  · refine j_iconst hC (v := (0 : Int32)) rfl (dOk_at dt_X5_seedLine 7 rfl) ?_
    exact b16 h (0 : Int32) 
  · refine j_iconst hC (v := (1 : Int32)) rfl (dOk_at dt_X5_seedLine 5 rfl) ?_
    refine j_goto hC (tgt := 16) (by decide) (dOk_at dt_X5_seedLine 6 rfl) ?_
    exact b16 h (1 : Int32) 
def tb_X5_knot : List (Nat × Instr × Nat) := [(0, .aload_n 0, 1), (1, .getfield 19, 3), (4, .getfield 247, 3), (7, .bipush 64, 2), (9, .if_icmp .lt 12, 3), (12, .aload_n 0, 1), (13, .iconst 2, 1), (14, .aload_n 0, 1), (15, .getfield 70, 3), (18, .invokevirtual 138, 3), (21, .aload_n 0, 1), (22, .getfield 73, 3), (25, .ifCond .ne 20, 3), (28, .aload_n 0, 1), (29, .getfield 19, 3), (32, .dup, 1), (33, .getfield 247, 3), (36, .iconst 1, 1), (37, .iadd, 1), (38, .putfield 247, 3), (41, .aload_n 0, 1), (42, .invokevirtual 76, 3), (45, .return_, 1)]
theorem dt_X5_knot : dOk cX5_knot tb_X5_knot = true := by decide +kernel
def fX5_knot_21 (h : Hp) : Option (Hp) := if (hI h 69 14) = 0 then ((dref shp h 69 4 (7, 20)).bind (fun z_7 => (fX5_next (uI h z_7 18 ((hI h z_7 18) + (1 : Int32)))).bind (fun h_10 => some h_10))) else (some h)
def fX5_knot (h : Hp) : Option (Hp) := (dref shp h 69 4 (7, 20)).bind (fun z_1 => if (hI h z_1 18) < (64 : Int32) then (fX5_knot_21 h) else ((fX5_fail h (2 : Int32) (hI h 69 8)).bind (fun h_5 => fX5_knot_21 h_5)))
set_option maxRecDepth 100000 in
set_option maxHeartbeats 4000000 in
theorem c_X5_knot {l : Launch} {sb : State} {D : va_G} {ids : Nat → ClassId} {n : Nat} (hN : 152 ≤ n) (h : Hp) (r : Hp) (hr : fX5_knot h = some r) : jM l yX5_knot cX5_knot 1 none 2 sb D ids shp St n [.ref 69] h (jQv sb D ids shp St n r) := by
  refine jM_of hr rfl (Nat.le_of_ble_eq_true rfl) ?_
  intro p e s m args below meth c hC hret
  have b21 : ∀ (h : Hp) , jJ p l e (rmD 2) s m args below meth c 1 sb D ids shp St (fun r => MQ below (jQv sb D ids shp St n r) args s 0 0 (jA sb)) n 0 0 h 21 [(0, .ref 69)] [] (fX5_knot_21 h ) := by
    intro h 
    unfold fX5_knot_21
    refine j_aload_n hC 0 rfl rfl (dOk_at dt_X5_knot 10 rfl) ?_
    refine j_getI hC flX5_73 (show shp 69 = (5, 16) from rfl) (Nat.lt_of_lt_of_le (Nat.le_of_ble_eq_true rfl : 69 < 152) hN) (by decide) (by decide) (fun _ _ _ => rfl) (dOk_at dt_X5_knot 11 rfl) ?_
    refine j_if_ne hC (tgt := 45) (by decide) (dOk_at dt_X5_knot 12 rfl) (fun q_6 => ?_) (fun q_6 => ?_)
    · exact j_vret hC hret (dOk_at dt_X5_knot 22 rfl)
    · refine j_aload_n hC 0 rfl rfl (dOk_at dt_X5_knot 13 rfl) ?_
      refine j_getD (q := (7, 20)) hC flX5_19 (show shp 69 = (5, 16) from rfl) (Nat.lt_of_lt_of_le (Nat.le_of_ble_eq_true rfl : 69 < 152) hN) (by decide) (by decide) (fun _ _ _ => rfl) (dOk_at dt_X5_knot 14 rfl) (fun z_7 _ g_8 => ?_)
      refine j_dupr hC (dOk_at dt_X5_knot 15 rfl) ?_
      refine j_getI hC flX5_247 g_8 (jlt hN g_8 (by decide)) (by decide) (by decide) (fun _ _ _ => rfl) (dOk_at dt_X5_knot 16 rfl) ?_
      refine j_iconst hC (v := (1 : Int32)) rfl (dOk_at dt_X5_knot 17 rfl) ?_
      refine j_iadd hC (dOk_at dt_X5_knot 18 rfl) ?_
      refine j_putI hC St_SP flX5_247 g_8 (jlt hN g_8 (by decide)) (by decide) (by decide) rfl rfl (dOk_at dt_X5_knot 19 rfl) ?_
      refine j_aload_n hC 0 rfl rfl (dOk_at dt_X5_knot 20 rfl) ?_
      refine j_callVv hC clX5_76 (fun rz hrz => c_X5_next hN _ rz hrz) (show shp 69 = (5, 16) from rfl) (Nat.lt_of_lt_of_le (Nat.le_of_ble_eq_true rfl : 69 < 152) hN) (by decide) rfl rfl ⟨Nat.le_of_ble_eq_true rfl, Nat.le_of_ble_eq_true rfl⟩ ⟨Nat.le_refl 0, Nat.le_refl 0⟩ (As := []) (st := []) rfl (Nat.le_of_ble_eq_true rfl) (dOk_at dt_X5_knot 21 rfl) (fun h_10 _ => ?_)
      exact j_vret hC hret (dOk_at dt_X5_knot 22 rfl)
  unfold fX5_knot
  refine j_aload_n hC 0 rfl rfl (dOk_at dt_X5_knot 0 rfl) ?_
  refine j_getD (q := (7, 20)) hC flX5_19 (show shp 69 = (5, 16) from rfl) (Nat.lt_of_lt_of_le (Nat.le_of_ble_eq_true rfl : 69 < 152) hN) (by decide) (by decide) (fun _ _ _ => rfl) (dOk_at dt_X5_knot 1 rfl) (fun z_1 _ g_2 => ?_)
  refine j_getI hC flX5_247 g_2 (jlt hN g_2 (by decide)) (by decide) (by decide) (fun _ _ _ => rfl) (dOk_at dt_X5_knot 2 rfl) ?_
  refine j_bipush hC (v := (64 : Int32)) rfl (dOk_at dt_X5_knot 3 rfl) ?_
  refine j_icmp_lt hC (tgt := 21) (by decide) (dOk_at dt_X5_knot 4 rfl) (fun q_3 => ?_) (fun q_3 => ?_)
  · exact b21 h 
  · refine j_aload_n hC 0 rfl rfl (dOk_at dt_X5_knot 5 rfl) ?_
    refine j_iconst hC (v := (2 : Int32)) rfl (dOk_at dt_X5_knot 6 rfl) ?_
    refine j_aload_n hC 0 rfl rfl (dOk_at dt_X5_knot 7 rfl) ?_
    refine j_getI hC flX5_70 (show shp 69 = (5, 16) from rfl) (Nat.lt_of_lt_of_le (Nat.le_of_ble_eq_true rfl : 69 < 152) hN) (by decide) (by decide) (fun _ _ _ => rfl) (dOk_at dt_X5_knot 8 rfl) ?_
    refine j_callVv hC clX5_138 (fun rz hrz => c_X5_fail hN _ _ _ rz hrz) (show shp 69 = (5, 16) from rfl) (Nat.lt_of_lt_of_le (Nat.le_of_ble_eq_true rfl : 69 < 152) hN) (by decide) rfl rfl ⟨Nat.le_of_ble_eq_true rfl, Nat.le_of_ble_eq_true rfl⟩ ⟨Nat.le_refl 0, Nat.le_refl 0⟩ (As := [.int (2 : Int32), .int (hI h 69 8)]) (st := []) rfl (Nat.le_of_ble_eq_true rfl) (dOk_at dt_X5_knot 9 rfl) (fun h_5 _ => ?_)
    exact b21 h_5 
def tb_X5_part : List (Nat × Instr × Nat) := [(0, .aload_n 0, 1), (1, .getfield 79, 3), (4, .bipush 6, 2), (6, .if_icmp .ne 41, 3), (9, .iload_n 1, 1), (10, .bipush 8, 2), (12, .if_icmp .lt 12, 3), (15, .aload_n 0, 1), (16, .iconst 2, 1), (17, .aload_n 0, 1), (18, .getfield 70, 3), (21, .invokevirtual 138, 3), (24, .aload_n 0, 1), (25, .bipush 6, 2), (27, .invokevirtual 142, 3), (30, .aload_n 0, 1), (31, .iconst 0, 1), (32, .iload_n 1, 1), (33, .iconst 1, 1), (34, .iadd, 1), (35, .invokevirtual 244, 3), (38, .aload_n 0, 1), (39, .bipush 7, 2), (41, .invokevirtual 142, 3), (44, .goto 99, 3), (47, .aload_n 0, 1), (48, .getfield 79, 3), (51, .iconst 4, 1), (52, .if_icmp .ne 40, 3), (55, .aload_n 0, 1), (56, .getfield 104, 3), (59, .sipush 9999, 3), (62, .if_icmp .le 12, 3), (65, .aload_n 0, 1), (66, .iconst 2, 1), (67, .aload_n 0, 1), (68, .getfield 70, 3), (71, .invokevirtual 138, 3), (74, .aload_n 0, 1), (75, .getfield 29, 3), (78, .aload_n 0, 1), (79, .getfield 104, 3), (82, .invokevirtual 263, 3), (85, .aload_n 0, 1), (86, .invokevirtual 260, 3), (89, .goto 54, 3), (92, .aload_n 0, 1), (93, .getfield 79, 3), (96, .iconst 3, 1), (97, .if_icmp .ne 37, 3), (100, .aload_n 0, 1), (101, .getfield 88, 3), (104, .bipush 16, 2), (106, .if_icmp .lt 28, 3), (109, .aload_n 0, 1), (110, .getfield 29, 3), (113, .sipush 10000, 3), (116, .aload_n 0, 1), (117, .getfield 88, 3), (120, .iadd, 1), (121, .bipush 16, 2), (123, .isub, 1), (124, .invokevirtual 263, 3), (127, .aload_n 0, 1), (128, .invokevirtual 260, 3), (131, .goto 12, 3), (134, .aload_n 0, 1), (135, .iconst 1, 1), (136, .aload_n 0, 1), (137, .getfield 70, 3), (140, .invokevirtual 138, 3), (143, .return_, 1)]
theorem dt_X5_part : dOk cX5_part tb_X5_part = true := by decide +kernel
def fX5_part_134 (slf : Hp → Int32 → Int32 → Option (Hp)) (h : Hp) : Option (Hp) := (fX5_fail h (1 : Int32) (hI h 69 8)).bind (fun h_18 => some h_18)
def fX5_part_74 (slf : Hp → Int32 → Int32 → Option (Hp)) (h : Hp) : Option (Hp) := (dref shp h 69 5 (1, 4)).bind (fun z_19 => (fX1_add z_19 h (hI h 69 12)).bind (fun h_22 => (fX5_knot h_22).bind (fun h_24 => some h_24)))
def fX5_part_24 (slf : Hp → Int32 → Int32 → Option (Hp)) (h : Hp) (x1 : Int32) : Option (Hp) := (fX5_pass h (6 : Int32)).bind (fun h_26 => (slf h_26 (0 : Int32) (x1 + (1 : Int32))).bind (fun h_28 => (fX5_pass h_28 (7 : Int32)).bind (fun h_30 => some h_30)))
def fX5_part (slf : Hp → Int32 → Int32 → Option (Hp)) (h : Hp) (x1 : Int32) : Option (Hp) := if (hI h 69 7) = (6 : Int32) then (if x1 < (8 : Int32) then (fX5_part_24 slf h x1) else ((fX5_fail h (2 : Int32) (hI h 69 8)).bind (fun h_16 => fX5_part_24 slf h_16 x1))) else (if (hI h 69 7) = (4 : Int32) then (if (hI h 69 12) ≤ (9999 : Int32) then (fX5_part_74 slf h) else ((fX5_fail h (2 : Int32) (hI h 69 8)).bind (fun h_13 => fX5_part_74 slf h_13))) else (if (hI h 69 7) = (3 : Int32) then (if (hI h 69 11) < (16 : Int32) then (fX5_part_134 slf h) else ((dref shp h 69 5 (1, 4)).bind (fun z_5 => (fX1_add z_5 h (((10000 : Int32) + (hI h 69 11)) - (16 : Int32))).bind (fun h_8 => (fX5_knot h_8).bind (fun h_10 => some h_10))))) else (fX5_part_134 slf h)))
set_option maxRecDepth 100000 in
set_option maxHeartbeats 4000000 in
theorem c_X5_part {l : Launch} {sb : State} {D : va_G} {ids : Nat → ClassId} {n : Nat} (hN : 152 ≤ n) {slf : Hp → Int32 → Int32 → Option (Hp)} {d : Nat} (hd : 3 ≤ d) (hslf : ∀ (h : Hp) (x1 : Int32) (x2 : Int32) (rz : Hp), slf h x1 x2 = some rz → jM l yX5_joinedAt cX5_joinedAt 6 none d sb D ids shp St n [.ref 69, .int x1, .int x2] h (jQv sb D ids shp St n rz)) (h : Hp) (x1 : Int32) (r : Hp) (hr : fX5_part slf h x1 = some r) : jM l yX5_part cX5_part 2 none (d + 1) sb D ids shp St n [.ref 69, .int x1] h (jQv sb D ids shp St n r) := by
  refine jM_of hr rfl (Nat.le_of_ble_eq_true rfl) ?_
  intro p e s m args below meth c hC hret
  have b134 : ∀ (h : Hp) , jJ p l e (rmD (d + 1)) s m args below meth c 2 sb D ids shp St (fun r => MQ below (jQv sb D ids shp St n r) args s 0 0 (jA sb)) n 0 0 h 134 [(0, .ref 69)] [] (fX5_part_134 slf h ) := by
    intro h 
    unfold fX5_part_134
    refine j_aload_n hC 0 rfl rfl (dOk_at dt_X5_part 66 rfl) ?_
    refine j_iconst hC (v := (1 : Int32)) rfl (dOk_at dt_X5_part 67 rfl) ?_
    refine j_aload_n hC 0 rfl rfl (dOk_at dt_X5_part 68 rfl) ?_
    refine j_getI hC flX5_70 (show shp 69 = (5, 16) from rfl) (Nat.lt_of_lt_of_le (Nat.le_of_ble_eq_true rfl : 69 < 152) hN) (by decide) (by decide) (fun _ _ _ => rfl) (dOk_at dt_X5_part 69 rfl) ?_
    refine j_callVv hC clX5_138 (fun rz hrz => c_X5_fail hN _ _ _ rz hrz) (show shp 69 = (5, 16) from rfl) (Nat.lt_of_lt_of_le (Nat.le_of_ble_eq_true rfl : 69 < 152) hN) (by decide) rfl rfl (rm_ok (by omega) (by decide)) ⟨Nat.le_refl 0, Nat.le_refl 0⟩ (As := [.int (1 : Int32), .int (hI h 69 8)]) (st := []) rfl (Nat.le_of_ble_eq_true rfl) (dOk_at dt_X5_part 70 rfl) (fun h_18 _ => ?_)
    exact j_vret hC hret (dOk_at dt_X5_part 71 rfl)
  have b74 : ∀ (h : Hp) , jJ p l e (rmD (d + 1)) s m args below meth c 2 sb D ids shp St (fun r => MQ below (jQv sb D ids shp St n r) args s 0 0 (jA sb)) n 0 0 h 74 [(0, .ref 69)] [] (fX5_part_74 slf h ) := by
    intro h 
    unfold fX5_part_74
    refine j_aload_n hC 0 rfl rfl (dOk_at dt_X5_part 38 rfl) ?_
    refine j_getD (q := (1, 4)) hC flX5_29 (show shp 69 = (5, 16) from rfl) (Nat.lt_of_lt_of_le (Nat.le_of_ble_eq_true rfl : 69 < 152) hN) (by decide) (by decide) (fun _ _ _ => rfl) (dOk_at dt_X5_part 39 rfl) (fun z_19 _ g_20 => ?_)
    refine j_aload_n hC 0 rfl rfl (dOk_at dt_X5_part 40 rfl) ?_
    refine j_getI hC flX5_104 (show shp 69 = (5, 16) from rfl) (Nat.lt_of_lt_of_le (Nat.le_of_ble_eq_true rfl : 69 < 152) hN) (by decide) (by decide) (fun _ _ _ => rfl) (dOk_at dt_X5_part 41 rfl) ?_
    refine j_callVv hC clX5_263 (fun rz hrz => c_X1_add hN (g_20) _ _ rz hrz) g_20 (jlt hN g_20 (by decide)) (by decide) rfl rfl (rm_ok (by omega) (by decide)) ⟨Nat.le_refl 0, Nat.le_refl 0⟩ (As := [.int (hI h 69 12)]) (st := []) rfl (Nat.le_of_ble_eq_true rfl) (dOk_at dt_X5_part 42 rfl) (fun h_22 _ => ?_)
    refine j_aload_n hC 0 rfl rfl (dOk_at dt_X5_part 43 rfl) ?_
    refine j_callVv hC clX5_260 (fun rz hrz => c_X5_knot hN _ rz hrz) (show shp 69 = (5, 16) from rfl) (Nat.lt_of_lt_of_le (Nat.le_of_ble_eq_true rfl : 69 < 152) hN) (by decide) rfl rfl (rm_ok (by omega) (by decide)) ⟨Nat.le_refl 0, Nat.le_refl 0⟩ (As := []) (st := []) rfl (Nat.le_of_ble_eq_true rfl) (dOk_at dt_X5_part 44 rfl) (fun h_24 _ => ?_)
    refine j_goto hC (tgt := 143) (by decide) (dOk_at dt_X5_part 45 rfl) ?_
    exact j_vret hC hret (dOk_at dt_X5_part 71 rfl)
  have b24 : ∀ (h : Hp) (x1 : Int32) , jJ p l e (rmD (d + 1)) s m args below meth c 2 sb D ids shp St (fun r => MQ below (jQv sb D ids shp St n r) args s 0 0 (jA sb)) n 0 0 h 24 [(0, .ref 69), (1, .int x1)] [] (fX5_part_24 slf h x1) := by
    intro h x1 
    unfold fX5_part_24
    refine j_aload_n hC 0 rfl rfl (dOk_at dt_X5_part 12 rfl) ?_
    refine j_bipush hC (v := (6 : Int32)) rfl (dOk_at dt_X5_part 13 rfl) ?_
    refine j_callVv hC clX5_142 (fun rz hrz => c_X5_pass hN _ _ rz hrz) (show shp 69 = (5, 16) from rfl) (Nat.lt_of_lt_of_le (Nat.le_of_ble_eq_true rfl : 69 < 152) hN) (by decide) rfl rfl (rm_ok (by omega) (by decide)) ⟨Nat.le_refl 0, Nat.le_refl 0⟩ (As := [.int (6 : Int32)]) (st := []) rfl (Nat.le_of_ble_eq_true rfl) (dOk_at dt_X5_part 14 rfl) (fun h_26 _ => ?_)
    refine j_aload_n hC 0 rfl rfl (dOk_at dt_X5_part 15 rfl) ?_
    refine j_iconst hC (v := (0 : Int32)) rfl (dOk_at dt_X5_part 16 rfl) ?_
    refine j_iload_n hC 1 rfl rfl (dOk_at dt_X5_part 17 rfl) ?_
    refine j_iconst hC (v := (1 : Int32)) rfl (dOk_at dt_X5_part 18 rfl) ?_
    refine j_iadd hC (dOk_at dt_X5_part 19 rfl) ?_
    refine j_callVv hC clX5_244 (fun rz hrz => hslf _ _ _ rz hrz) (show shp 69 = (5, 16) from rfl) (Nat.lt_of_lt_of_le (Nat.le_of_ble_eq_true rfl : 69 < 152) hN) (by decide) rfl rfl (rm_ok (by omega) (by decide)) ⟨Nat.le_refl 0, Nat.le_refl 0⟩ (As := [.int (0 : Int32), .int (x1 + (1 : Int32))]) (st := []) rfl (Nat.le_of_ble_eq_true rfl) (dOk_at dt_X5_part 20 rfl) (fun h_28 _ => ?_)
    refine j_aload_n hC 0 rfl rfl (dOk_at dt_X5_part 21 rfl) ?_
    refine j_bipush hC (v := (7 : Int32)) rfl (dOk_at dt_X5_part 22 rfl) ?_
    refine j_callVv hC clX5_142 (fun rz hrz => c_X5_pass hN _ _ rz hrz) (show shp 69 = (5, 16) from rfl) (Nat.lt_of_lt_of_le (Nat.le_of_ble_eq_true rfl : 69 < 152) hN) (by decide) rfl rfl (rm_ok (by omega) (by decide)) ⟨Nat.le_refl 0, Nat.le_refl 0⟩ (As := [.int (7 : Int32)]) (st := []) rfl (Nat.le_of_ble_eq_true rfl) (dOk_at dt_X5_part 23 rfl) (fun h_30 _ => ?_)
    refine j_goto hC (tgt := 143) (by decide) (dOk_at dt_X5_part 24 rfl) ?_
    exact j_vret hC hret (dOk_at dt_X5_part 71 rfl)
  unfold fX5_part
  refine j_aload_n hC 0 rfl rfl (dOk_at dt_X5_part 0 rfl) ?_
  refine j_getI hC flX5_79 (show shp 69 = (5, 16) from rfl) (Nat.lt_of_lt_of_le (Nat.le_of_ble_eq_true rfl : 69 < 152) hN) (by decide) (by decide) (fun _ _ _ => rfl) (dOk_at dt_X5_part 1 rfl) ?_
  refine j_bipush hC (v := (6 : Int32)) rfl (dOk_at dt_X5_part 2 rfl) ?_
  refine j_icmp_ne hC (tgt := 47) (by decide) (dOk_at dt_X5_part 3 rfl) (fun q_1 => ?_) (fun q_1 => ?_)
  · refine j_aload_n hC 0 rfl rfl (dOk_at dt_X5_part 25 rfl) ?_
    refine j_getI hC flX5_79 (show shp 69 = (5, 16) from rfl) (Nat.lt_of_lt_of_le (Nat.le_of_ble_eq_true rfl : 69 < 152) hN) (by decide) (by decide) (fun _ _ _ => rfl) (dOk_at dt_X5_part 26 rfl) ?_
    refine j_iconst hC (v := (4 : Int32)) rfl (dOk_at dt_X5_part 27 rfl) ?_
    refine j_icmp_ne hC (tgt := 92) (by decide) (dOk_at dt_X5_part 28 rfl) (fun q_2 => ?_) (fun q_2 => ?_)
    · refine j_aload_n hC 0 rfl rfl (dOk_at dt_X5_part 46 rfl) ?_
      refine j_getI hC flX5_79 (show shp 69 = (5, 16) from rfl) (Nat.lt_of_lt_of_le (Nat.le_of_ble_eq_true rfl : 69 < 152) hN) (by decide) (by decide) (fun _ _ _ => rfl) (dOk_at dt_X5_part 47 rfl) ?_
      refine j_iconst hC (v := (3 : Int32)) rfl (dOk_at dt_X5_part 48 rfl) ?_
      refine j_icmp_ne hC (tgt := 134) (by decide) (dOk_at dt_X5_part 49 rfl) (fun q_3 => ?_) (fun q_3 => ?_)
      · refine j_sub [0] rfl ?_
        exact b134 h 
      · refine j_aload_n hC 0 rfl rfl (dOk_at dt_X5_part 50 rfl) ?_
        refine j_getI hC flX5_88 (show shp 69 = (5, 16) from rfl) (Nat.lt_of_lt_of_le (Nat.le_of_ble_eq_true rfl : 69 < 152) hN) (by decide) (by decide) (fun _ _ _ => rfl) (dOk_at dt_X5_part 51 rfl) ?_
        refine j_bipush hC (v := (16 : Int32)) rfl (dOk_at dt_X5_part 52 rfl) ?_
        refine j_icmp_lt hC (tgt := 134) (by decide) (dOk_at dt_X5_part 53 rfl) (fun q_4 => ?_) (fun q_4 => ?_)
        · refine j_sub [0] rfl ?_
          exact b134 h 
        · refine j_aload_n hC 0 rfl rfl (dOk_at dt_X5_part 54 rfl) ?_
          refine j_getD (q := (1, 4)) hC flX5_29 (show shp 69 = (5, 16) from rfl) (Nat.lt_of_lt_of_le (Nat.le_of_ble_eq_true rfl : 69 < 152) hN) (by decide) (by decide) (fun _ _ _ => rfl) (dOk_at dt_X5_part 55 rfl) (fun z_5 _ g_6 => ?_)
          refine j_sipush hC (v := (10000 : Int32)) rfl (dOk_at dt_X5_part 56 rfl) ?_
          refine j_aload_n hC 0 rfl rfl (dOk_at dt_X5_part 57 rfl) ?_
          refine j_getI hC flX5_88 (show shp 69 = (5, 16) from rfl) (Nat.lt_of_lt_of_le (Nat.le_of_ble_eq_true rfl : 69 < 152) hN) (by decide) (by decide) (fun _ _ _ => rfl) (dOk_at dt_X5_part 58 rfl) ?_
          refine j_iadd hC (dOk_at dt_X5_part 59 rfl) ?_
          refine j_bipush hC (v := (16 : Int32)) rfl (dOk_at dt_X5_part 60 rfl) ?_
          refine j_isub hC (dOk_at dt_X5_part 61 rfl) ?_
          refine j_callVv hC clX5_263 (fun rz hrz => c_X1_add hN (g_6) _ _ rz hrz) g_6 (jlt hN g_6 (by decide)) (by decide) rfl rfl (rm_ok (by omega) (by decide)) ⟨Nat.le_refl 0, Nat.le_refl 0⟩ (As := [.int (((10000 : Int32) + (hI h 69 11)) - (16 : Int32))]) (st := []) rfl (Nat.le_of_ble_eq_true rfl) (dOk_at dt_X5_part 62 rfl) (fun h_8 _ => ?_)
          refine j_aload_n hC 0 rfl rfl (dOk_at dt_X5_part 63 rfl) ?_
          refine j_callVv hC clX5_260 (fun rz hrz => c_X5_knot hN _ rz hrz) (show shp 69 = (5, 16) from rfl) (Nat.lt_of_lt_of_le (Nat.le_of_ble_eq_true rfl : 69 < 152) hN) (by decide) rfl rfl (rm_ok (by omega) (by decide)) ⟨Nat.le_refl 0, Nat.le_refl 0⟩ (As := []) (st := []) rfl (Nat.le_of_ble_eq_true rfl) (dOk_at dt_X5_part 64 rfl) (fun h_10 _ => ?_)
          refine j_goto hC (tgt := 143) (by decide) (dOk_at dt_X5_part 65 rfl) ?_
          exact j_vret hC hret (dOk_at dt_X5_part 71 rfl)
    · refine j_aload_n hC 0 rfl rfl (dOk_at dt_X5_part 29 rfl) ?_
      refine j_getI hC flX5_104 (show shp 69 = (5, 16) from rfl) (Nat.lt_of_lt_of_le (Nat.le_of_ble_eq_true rfl : 69 < 152) hN) (by decide) (by decide) (fun _ _ _ => rfl) (dOk_at dt_X5_part 30 rfl) ?_
      refine j_sipush hC (v := (9999 : Int32)) rfl (dOk_at dt_X5_part 31 rfl) ?_
      refine j_icmp_le hC (tgt := 74) (by decide) (dOk_at dt_X5_part 32 rfl) (fun q_11 => ?_) (fun q_11 => ?_)
      · refine j_sub [0] rfl ?_
        exact b74 h 
      · refine j_aload_n hC 0 rfl rfl (dOk_at dt_X5_part 33 rfl) ?_
        refine j_iconst hC (v := (2 : Int32)) rfl (dOk_at dt_X5_part 34 rfl) ?_
        refine j_aload_n hC 0 rfl rfl (dOk_at dt_X5_part 35 rfl) ?_
        refine j_getI hC flX5_70 (show shp 69 = (5, 16) from rfl) (Nat.lt_of_lt_of_le (Nat.le_of_ble_eq_true rfl : 69 < 152) hN) (by decide) (by decide) (fun _ _ _ => rfl) (dOk_at dt_X5_part 36 rfl) ?_
        refine j_callVv hC clX5_138 (fun rz hrz => c_X5_fail hN _ _ _ rz hrz) (show shp 69 = (5, 16) from rfl) (Nat.lt_of_lt_of_le (Nat.le_of_ble_eq_true rfl : 69 < 152) hN) (by decide) rfl rfl (rm_ok (by omega) (by decide)) ⟨Nat.le_refl 0, Nat.le_refl 0⟩ (As := [.int (2 : Int32), .int (hI h 69 8)]) (st := []) rfl (Nat.le_of_ble_eq_true rfl) (dOk_at dt_X5_part 37 rfl) (fun h_13 _ => ?_)
        refine j_sub [0] rfl ?_
        exact b74 h_13 
  · refine j_iload_n hC 1 rfl rfl (dOk_at dt_X5_part 4 rfl) ?_
    refine j_bipush hC (v := (8 : Int32)) rfl (dOk_at dt_X5_part 5 rfl) ?_
    refine j_icmp_lt hC (tgt := 24) (by decide) (dOk_at dt_X5_part 6 rfl) (fun q_14 => ?_) (fun q_14 => ?_)
    · exact b24 h x1 
    · refine j_aload_n hC 0 rfl rfl (dOk_at dt_X5_part 7 rfl) ?_
      refine j_iconst hC (v := (2 : Int32)) rfl (dOk_at dt_X5_part 8 rfl) ?_
      refine j_aload_n hC 0 rfl rfl (dOk_at dt_X5_part 9 rfl) ?_
      refine j_getI hC flX5_70 (show shp 69 = (5, 16) from rfl) (Nat.lt_of_lt_of_le (Nat.le_of_ble_eq_true rfl : 69 < 152) hN) (by decide) (by decide) (fun _ _ _ => rfl) (dOk_at dt_X5_part 10 rfl) ?_
      refine j_callVv hC clX5_138 (fun rz hrz => c_X5_fail hN _ _ _ rz hrz) (show shp 69 = (5, 16) from rfl) (Nat.lt_of_lt_of_le (Nat.le_of_ble_eq_true rfl : 69 < 152) hN) (by decide) rfl rfl (rm_ok (by omega) (by decide)) ⟨Nat.le_refl 0, Nat.le_refl 0⟩ (As := [.int (2 : Int32), .int (hI h 69 8)]) (st := []) rfl (Nat.le_of_ble_eq_true rfl) (dOk_at dt_X5_part 11 rfl) (fun h_16 _ => ?_)
      exact b24 h_16 x1 
def tb_X5_denied : List (Nat × Instr × Nat) := [(0, .iconst 0, 1), (1, .istore_n 2, 1), (2, .iload_n 2, 1), (3, .bipush 64, 2), (5, .if_icmp .gt 37, 3), (8, .aload_n 0, 1), (9, .getfield 73, 3), (12, .ifCond .ne 30, 3), (15, .aload_n 0, 1), (16, .getfield 79, 3), (19, .iconst 3, 1), (20, .if_icmp .ne 22, 3), (23, .aload_n 0, 1), (24, .getfield 88, 3), (27, .bipush 15, 2), (29, .if_icmp .ne 13, 3), (32, .iinc 2 1, 3), (35, .aload_n 0, 1), (36, .invokevirtual 260, 3), (39, .goto (-37), 3), (42, .aload_n 0, 1), (43, .iconst 3, 1), (44, .iload_n 1, 1), (45, .invokevirtual 244, 3), (48, .iconst 0, 1), (49, .istore_n 3, 1), (50, .iload_n 3, 1), (51, .iload_n 2, 1), (52, .if_icmp .ge 19, 3), (55, .aload_n 0, 1), (56, .getfield 29, 3), (59, .sipush 20002, 3), (62, .invokevirtual 263, 3), (65, .iinc 3 1, 3), (68, .goto (-18), 3), (71, .return_, 1)]
theorem dt_X5_denied : dOk cX5_denied tb_X5_denied = true := by decide +kernel
def fX5_denied_50 : Nat → (Hp → Int32 → Int32 → Option (Hp)) → Hp → Int32 → Int32 → Option (Hp)
  | 0, _, _, _, _ => none
  | fu + 1, slf, h, x2, x3 => if x2 ≤ x3 then (some h) else ((dref shp h 69 5 (1, 4)).bind (fun z_10 => (fX1_add z_10 h (20002 : Int32)).bind (fun h_13 => (fX5_denied_50 fu slf) h_13 x2 (x3 + (1 : Int32)))))
def fX5_denied_42 (slf : Hp → Int32 → Int32 → Option (Hp)) (h : Hp) (x1 : Int32) (x2 : Int32) : Option (Hp) := (slf h (3 : Int32) x1).bind (fun h_8 => fX5_denied_50 FU slf h_8 x2 (0 : Int32))
def fX5_denied_2 : Nat → (Hp → Int32 → Int32 → Option (Hp)) → Hp → Int32 → Int32 → Option (Hp)
  | 0, _, _, _, _ => none
  | fu + 1, slf, h, x1, x2 => if (64 : Int32) < x2 then (fX5_denied_42 slf h x1 x2) else (if (hI h 69 14) = 0 then (if (hI h 69 7) = (3 : Int32) then (if (hI h 69 11) = (15 : Int32) then ((fX5_knot h).bind (fun h_6 => (fX5_denied_2 fu slf) h_6 x1 (x2 + (1 : Int32)))) else (fX5_denied_42 slf h x1 x2)) else (fX5_denied_42 slf h x1 x2)) else (fX5_denied_42 slf h x1 x2))
def fX5_denied (slf : Hp → Int32 → Int32 → Option (Hp)) (h : Hp) (x1 : Int32) : Option (Hp) := fX5_denied_2 FU slf h x1 (0 : Int32)
set_option maxRecDepth 100000 in
set_option maxHeartbeats 4000000 in
theorem c_X5_denied {l : Launch} {sb : State} {D : va_G} {ids : Nat → ClassId} {n : Nat} (hN : 152 ≤ n) {slf : Hp → Int32 → Int32 → Option (Hp)} {d : Nat} (hd : 3 ≤ d) (hslf : ∀ (h : Hp) (x1 : Int32) (x2 : Int32) (rz : Hp), slf h x1 x2 = some rz → jM l yX5_joinedAt cX5_joinedAt 6 none d sb D ids shp St n [.ref 69, .int x1, .int x2] h (jQv sb D ids shp St n rz)) (h : Hp) (x1 : Int32) (r : Hp) (hr : fX5_denied slf h x1 = some r) : jM l yX5_denied cX5_denied 4 none (d + 1) sb D ids shp St n [.ref 69, .int x1] h (jQv sb D ids shp St n r) := by
  refine jM_of hr rfl (Nat.le_of_ble_eq_true rfl) ?_
  intro p e s m args below meth c hC hret
  have b50 : ∀ (fu : Nat) (h : Hp) (x2 : Int32) (x3 : Int32) , jJ p l e (rmD (d + 1)) s m args below meth c 4 sb D ids shp St (fun r => MQ below (jQv sb D ids shp St n r) args s 0 0 (jA sb)) n 0 0 h 50 [(0, .ref 69), (2, .int x2), (3, .int x3)] [] (fX5_denied_50 fu slf h x2 x3) := by
    intro fu 
    induction fu with
    | zero => intro h x2 x3 ; exact j_none
    | succ fu ih =>
    intro h x2 x3 
    rw [fX5_denied_50]
    refine j_iload_n hC 2 rfl rfl (dOk_at dt_X5_denied 26 rfl) ?_
    refine j_iload_n hC 1 rfl rfl (dOk_at dt_X5_denied 27 rfl) ?_
    refine j_icmp_ge hC (tgt := 71) (by decide) (dOk_at dt_X5_denied 28 rfl) (fun q_9 => ?_) (fun q_9 => ?_)
    · exact j_vret hC hret (dOk_at dt_X5_denied 35 rfl)
    · refine j_aload_n hC 0 rfl rfl (dOk_at dt_X5_denied 29 rfl) ?_
      refine j_getD (q := (1, 4)) hC flX5_29 (show shp 69 = (5, 16) from rfl) (Nat.lt_of_lt_of_le (Nat.le_of_ble_eq_true rfl : 69 < 152) hN) (by decide) (by decide) (fun _ _ _ => rfl) (dOk_at dt_X5_denied 30 rfl) (fun z_10 _ g_11 => ?_)
      refine j_sipush hC (v := (20002 : Int32)) rfl (dOk_at dt_X5_denied 31 rfl) ?_
      refine j_callVv hC clX5_263 (fun rz hrz => c_X1_add hN (g_11) _ _ rz hrz) g_11 (jlt hN g_11 (by decide)) (by decide) rfl rfl (rm_ok (by omega) (by decide)) ⟨Nat.le_refl 0, Nat.le_refl 0⟩ (As := [.int (20002 : Int32)]) (st := []) rfl (Nat.le_of_ble_eq_true rfl) (dOk_at dt_X5_denied 32 rfl) (fun h_13 _ => ?_)
      refine j_iinc hC (v := (x3 + (1 : Int32))) (lv' := [(3, .int (x3 + (1 : Int32))), (0, .ref 69), (2, .int x2)]) 2 rfl (congrArg (fun z => x3 + z) (show Int32.ofInt (1) = (1 : Int32) from by decide)) (by decide) rfl (dOk_at dt_X5_denied 33 rfl) ?_
      refine j_goto hC (tgt := 50) (by decide) (dOk_at dt_X5_denied 34 rfl) ?_
      refine j_sub [1, 2, 0] rfl ?_
      exact ih h_13 x2 (x3 + (1 : Int32)) 
  have b42 : ∀ (h : Hp) (x1 : Int32) (x2 : Int32) , jJ p l e (rmD (d + 1)) s m args below meth c 4 sb D ids shp St (fun r => MQ below (jQv sb D ids shp St n r) args s 0 0 (jA sb)) n 0 0 h 42 [(0, .ref 69), (1, .int x1), (2, .int x2)] [] (fX5_denied_42 slf h x1 x2) := by
    intro h x1 x2 
    unfold fX5_denied_42
    refine j_aload_n hC 0 rfl rfl (dOk_at dt_X5_denied 20 rfl) ?_
    refine j_iconst hC (v := (3 : Int32)) rfl (dOk_at dt_X5_denied 21 rfl) ?_
    refine j_iload_n hC 1 rfl rfl (dOk_at dt_X5_denied 22 rfl) ?_
    refine j_callVv hC clX5_244 (fun rz hrz => hslf _ _ _ rz hrz) (show shp 69 = (5, 16) from rfl) (Nat.lt_of_lt_of_le (Nat.le_of_ble_eq_true rfl : 69 < 152) hN) (by decide) rfl rfl (rm_ok (by omega) (by decide)) ⟨Nat.le_refl 0, Nat.le_refl 0⟩ (As := [.int (3 : Int32), .int x1]) (st := []) rfl (Nat.le_of_ble_eq_true rfl) (dOk_at dt_X5_denied 23 rfl) (fun h_8 _ => ?_)
    refine j_iconst hC (v := (0 : Int32)) rfl (dOk_at dt_X5_denied 24 rfl) ?_
    refine j_istore_n hC rfl (lv' := [(3, .int (0 : Int32)), (0, .ref 69), (1, .int x1), (2, .int x2)]) (by decide) rfl (dOk_at dt_X5_denied 25 rfl) ?_
    refine j_sub [1, 3, 0] rfl ?_
    exact b50 FU h_8 x2 (0 : Int32) 
  have b2 : ∀ (fu : Nat) (h : Hp) (x1 : Int32) (x2 : Int32) , jJ p l e (rmD (d + 1)) s m args below meth c 4 sb D ids shp St (fun r => MQ below (jQv sb D ids shp St n r) args s 0 0 (jA sb)) n 0 0 h 2 [(0, .ref 69), (1, .int x1), (2, .int x2)] [] (fX5_denied_2 fu slf h x1 x2) := by
    intro fu 
    induction fu with
    | zero => intro h x1 x2 ; exact j_none
    | succ fu ih =>
    intro h x1 x2 
    rw [fX5_denied_2]
    refine j_iload_n hC 2 rfl rfl (dOk_at dt_X5_denied 2 rfl) ?_
    refine j_bipush hC (v := (64 : Int32)) rfl (dOk_at dt_X5_denied 3 rfl) ?_
    refine j_icmp_gt hC (tgt := 42) (by decide) (dOk_at dt_X5_denied 4 rfl) (fun q_1 => ?_) (fun q_1 => ?_)
    · exact b42 h x1 x2 
    · refine j_aload_n hC 0 rfl rfl (dOk_at dt_X5_denied 5 rfl) ?_
      refine j_getI hC flX5_73 (show shp 69 = (5, 16) from rfl) (Nat.lt_of_lt_of_le (Nat.le_of_ble_eq_true rfl : 69 < 152) hN) (by decide) (by decide) (fun _ _ _ => rfl) (dOk_at dt_X5_denied 6 rfl) ?_
      refine j_if_ne hC (tgt := 42) (by decide) (dOk_at dt_X5_denied 7 rfl) (fun q_2 => ?_) (fun q_2 => ?_)
      · exact b42 h x1 x2 
      · refine j_aload_n hC 0 rfl rfl (dOk_at dt_X5_denied 8 rfl) ?_
        refine j_getI hC flX5_79 (show shp 69 = (5, 16) from rfl) (Nat.lt_of_lt_of_le (Nat.le_of_ble_eq_true rfl : 69 < 152) hN) (by decide) (by decide) (fun _ _ _ => rfl) (dOk_at dt_X5_denied 9 rfl) ?_
        refine j_iconst hC (v := (3 : Int32)) rfl (dOk_at dt_X5_denied 10 rfl) ?_
        refine j_icmp_ne hC (tgt := 42) (by decide) (dOk_at dt_X5_denied 11 rfl) (fun q_3 => ?_) (fun q_3 => ?_)
        · exact b42 h x1 x2 
        · refine j_aload_n hC 0 rfl rfl (dOk_at dt_X5_denied 12 rfl) ?_
          refine j_getI hC flX5_88 (show shp 69 = (5, 16) from rfl) (Nat.lt_of_lt_of_le (Nat.le_of_ble_eq_true rfl : 69 < 152) hN) (by decide) (by decide) (fun _ _ _ => rfl) (dOk_at dt_X5_denied 13 rfl) ?_
          refine j_bipush hC (v := (15 : Int32)) rfl (dOk_at dt_X5_denied 14 rfl) ?_
          refine j_icmp_ne hC (tgt := 42) (by decide) (dOk_at dt_X5_denied 15 rfl) (fun q_4 => ?_) (fun q_4 => ?_)
          · exact b42 h x1 x2 
          · refine j_iinc hC (v := (x2 + (1 : Int32))) (lv' := [(2, .int (x2 + (1 : Int32))), (0, .ref 69), (1, .int x1)]) 2 rfl (congrArg (fun z => x2 + z) (show Int32.ofInt (1) = (1 : Int32) from by decide)) (by decide) rfl (dOk_at dt_X5_denied 16 rfl) ?_
            refine j_aload_n hC 1 rfl rfl (dOk_at dt_X5_denied 17 rfl) ?_
            refine j_callVv hC clX5_260 (fun rz hrz => c_X5_knot hN _ rz hrz) (show shp 69 = (5, 16) from rfl) (Nat.lt_of_lt_of_le (Nat.le_of_ble_eq_true rfl : 69 < 152) hN) (by decide) rfl rfl (rm_ok (by omega) (by decide)) ⟨Nat.le_refl 0, Nat.le_refl 0⟩ (As := []) (st := []) rfl (Nat.le_of_ble_eq_true rfl) (dOk_at dt_X5_denied 18 rfl) (fun h_6 _ => ?_)
            refine j_goto hC (tgt := 2) (by decide) (dOk_at dt_X5_denied 19 rfl) ?_
            refine j_sub [1, 2, 0] rfl ?_
            exact ih h_6 x1 (x2 + (1 : Int32)) 
  unfold fX5_denied
  refine j_iconst hC (v := (0 : Int32)) rfl (dOk_at dt_X5_denied 0 rfl) ?_
  refine j_istore_n hC rfl (lv' := [(2, .int (0 : Int32)), (0, .ref 69), (1, .int x1)]) (by decide) rfl (dOk_at dt_X5_denied 1 rfl) ?_
  refine j_sub [1, 2, 0] rfl ?_
  exact b2 FU h x1 (0 : Int32) 
def tb_X5_isSignOf : List (Nat × Instr × Nat) := [(0, .aload_n 0, 1), (1, .getfield 79, 3), (4, .bipush 8, 2), (6, .if_icmp .ne 37, 3), (9, .aload_n 0, 1), (10, .getfield 85, 3), (13, .ifCond .lt 30, 3), (16, .aload_n 0, 1), (17, .getfield 85, 3), (20, .getstatic 265, 3), (23, .arraylength, 1), (24, .if_icmp .ge 19, 3), (27, .getstatic 265, 3), (30, .aload_n 0, 1), (31, .getfield 85, 3), (34, .iaload, 1), (35, .iload_n 1, 1), (36, .if_icmp .ne 7, 3), (39, .iconst 1, 1), (40, .goto 4, 3), (43, .iconst 0, 1), (44, .ireturn, 1)]
theorem dt_X5_isSignOf : dOk cX5_isSignOf tb_X5_isSignOf = true := by decide +kernel
def fX5_isSignOf (h : Hp) (x1 : Int32) : Option (Int32 × Hp) := if (hI h 69 7) = (8 : Int32) then (if (hI h 69 13) < 0 then (some ((0 : Int32), h)) else (if (13 : Int32) ≤ (hI h 69 13) then (some ((0 : Int32), h)) else (if inb (hI h 69 13) 13 then (if (slv (Int32.toNatClampNeg (hI h 69 13))) = x1 then (some ((1 : Int32), h)) else (some ((0 : Int32), h))) else none))) else (some ((0 : Int32), h))
set_option maxRecDepth 100000 in
set_option maxHeartbeats 4000000 in
theorem c_X5_isSignOf {l : Launch} {sb : State} {D : va_G} {ids : Nat → ClassId} {n : Nat} (hN : 152 ≤ n) (hG : jG sb) (h : Hp) (x1 : Int32) (r : Int32 × Hp) (hr : fX5_isSignOf h x1 = some r) : jM l yX5_isSignOf cX5_isSignOf 2 (some .boolean) 0 sb D ids shp St n [.ref 69, .int x1] h (jQi sb D ids shp St n r) := by
  refine jM_of hr rfl (Nat.le_of_ble_eq_true rfl) ?_
  intro p e s m args below meth c hC hret
  unfold fX5_isSignOf
  refine j_aload_n hC 0 rfl rfl (dOk_at dt_X5_isSignOf 0 rfl) ?_
  refine j_getI hC flX5_79 (show shp 69 = (5, 16) from rfl) (Nat.lt_of_lt_of_le (Nat.le_of_ble_eq_true rfl : 69 < 152) hN) (by decide) (by decide) (fun _ _ _ => rfl) (dOk_at dt_X5_isSignOf 1 rfl) ?_
  refine j_bipush hC (v := (8 : Int32)) rfl (dOk_at dt_X5_isSignOf 2 rfl) ?_
  refine j_icmp_ne hC (tgt := 43) (by decide) (dOk_at dt_X5_isSignOf 3 rfl) (fun q_1 => ?_) (fun q_1 => ?_)
  · refine j_iconst hC (v := (0 : Int32)) rfl (dOk_at dt_X5_isSignOf 20 rfl) ?_
    exact j_zretK hC hret rfl (dOk_at dt_X5_isSignOf 21 rfl)
  · refine j_aload_n hC 0 rfl rfl (dOk_at dt_X5_isSignOf 4 rfl) ?_
    refine j_getI hC flX5_85 (show shp 69 = (5, 16) from rfl) (Nat.lt_of_lt_of_le (Nat.le_of_ble_eq_true rfl : 69 < 152) hN) (by decide) (by decide) (fun _ _ _ => rfl) (dOk_at dt_X5_isSignOf 5 rfl) ?_
    refine j_if_lt hC (tgt := 43) (by decide) (dOk_at dt_X5_isSignOf 6 rfl) (fun q_2 => ?_) (fun q_2 => ?_)
    · refine j_iconst hC (v := (0 : Int32)) rfl (dOk_at dt_X5_isSignOf 20 rfl) ?_
      exact j_zretK hC hret rfl (dOk_at dt_X5_isSignOf 21 rfl)
    · refine j_aload_n hC 0 rfl rfl (dOk_at dt_X5_isSignOf 7 rfl) ?_
      refine j_getI hC flX5_85 (show shp 69 = (5, 16) from rfl) (Nat.lt_of_lt_of_le (Nat.le_of_ble_eq_true rfl : 69 < 152) hN) (by decide) (by decide) (fun _ _ _ => rfl) (dOk_at dt_X5_isSignOf 8 rfl) ?_
      refine j_statLen hC hG knX5_265 (dOk_at dt_X5_isSignOf 9 rfl) (dOk_at dt_X5_isSignOf 10 rfl) ?_
      refine j_icmp_ge hC (tgt := 43) (by decide) (dOk_at dt_X5_isSignOf 11 rfl) (fun q_3 => ?_) (fun q_3 => ?_)
      · refine j_iconst hC (v := (0 : Int32)) rfl (dOk_at dt_X5_isSignOf 20 rfl) ?_
        exact j_zretK hC hret rfl (dOk_at dt_X5_isSignOf 21 rfl)
      · refine j_statLd hC hG knX5_265 0 rfl rfl flX5_85 (show shp 69 = (5, 16) from rfl) (Nat.lt_of_lt_of_le (Nat.le_of_ble_eq_true rfl : 69 < 152) hN) (by decide) (by decide) (fun _ _ _ => rfl) (dOk_at dt_X5_isSignOf 12 rfl) (dOk_at dt_X5_isSignOf 13 rfl) (dOk_at dt_X5_isSignOf 14 rfl) (dOk_at dt_X5_isSignOf 15 rfl) ?_
        refine j_iload_n hC 1 rfl rfl (dOk_at dt_X5_isSignOf 16 rfl) ?_
        refine j_icmp_ne hC (tgt := 43) (by decide) (dOk_at dt_X5_isSignOf 17 rfl) (fun q_4 => ?_) (fun q_4 => ?_)
        · refine j_iconst hC (v := (0 : Int32)) rfl (dOk_at dt_X5_isSignOf 20 rfl) ?_
          exact j_zretK hC hret rfl (dOk_at dt_X5_isSignOf 21 rfl)
        · refine j_iconst hC (v := (1 : Int32)) rfl (dOk_at dt_X5_isSignOf 18 rfl) ?_
          refine j_goto hC (tgt := 44) (by decide) (dOk_at dt_X5_isSignOf 19 rfl) ?_
          exact j_zretK hC hret rfl (dOk_at dt_X5_isSignOf 21 rfl)
def tb_X5_joinedAt : List (Nat × Instr × Nat) := [(0, .aload_n 0, 1), (1, .getfield 73, 3), (4, .ifCond .ne 9, 3), (7, .iload_n 2, 1), (8, .bipush 8, 2), (10, .if_icmp .le 4, 3), (13, .return_, 1), (14, .iload_n 1, 1), (15, .bipush 6, 2), (17, .if_icmp .lt 11, 3), (20, .aload_n 0, 1), (21, .iload_n 2, 1), (22, .invokevirtual 250, 3), (25, .goto 97, 3), (28, .iload_n 1, 1), (29, .iconst 2, 1), (30, .if_icmp .ne 11, 3), (33, .aload_n 0, 1), (34, .iload_n 2, 1), (35, .invokevirtual 253, 3), (38, .goto 84, 3), (41, .aload_n 0, 1), (42, .iload_n 1, 1), (43, .iconst 1, 1), (44, .iadd, 1), (45, .iload_n 2, 1), (46, .invokevirtual 244, 3), (49, .iload_n 1, 1), (50, .iconst 3, 1), (51, .if_icmp .ne 7, 3), (54, .iconst 1, 1), (55, .goto 5, 3), (58, .bipush 64, 2), (60, .istore_n 3, 1), (61, .iconst 0, 1), (62, .istore 4, 2), (64, .iload 4, 2), (66, .iload_n 3, 1), (67, .if_icmp .ge 55, 3), (70, .aload_n 0, 1), (71, .getfield 73, 3), (74, .ifCond .ne 48, 3), (77, .aload_n 0, 1), (78, .iload_n 1, 1), (79, .invokevirtual 256, 3), (82, .ifCond .eq 40, 3), (85, .sipush 20000, 3), (88, .aload_n 0, 1), (89, .getfield 85, 3), (92, .iadd, 1), (93, .istore 5, 2), (95, .aload_n 0, 1), (96, .invokevirtual 260, 3), (99, .aload_n 0, 1), (100, .iload_n 1, 1), (101, .iconst 1, 1), (102, .iadd, 1), (103, .iload_n 2, 1), (104, .invokevirtual 244, 3), (107, .aload_n 0, 1), (108, .getfield 29, 3), (111, .iload 5, 2), (113, .invokevirtual 263, 3), (116, .iinc 4 1, 3), (119, .goto (-55), 3), (122, .return_, 1)]
theorem dt_X5_joinedAt : dOk cX5_joinedAt tb_X5_joinedAt = true := by decide +kernel
def fX5_joinedAt_64 : Nat → (Hp → Int32 → Int32 → Option (Hp)) → Hp → Int32 → Int32 → Int32 → Int32 → Option (Hp)
  | 0, _, _, _, _, _, _ => none
  | fu + 1, slf, h, x1, x2, x3, x4 => if x3 ≤ x4 then (some h) else (if (hI h 69 14) = 0 then (bnd (fX5_isSignOf h x1) (fun v_14 h_15 => if v_14 = 0 then (some h_15) else ((fX5_knot h_15).bind (fun h_18 => (slf h_18 (x1 + (1 : Int32)) x2).bind (fun h_20 => (dref shp h_20 69 5 (1, 4)).bind (fun z_21 => (fX1_add z_21 h_20 ((20000 : Int32) + (hI h_15 69 13))).bind (fun h_24 => (fX5_joinedAt_64 fu slf) h_24 x1 x2 x3 (x4 + (1 : Int32))))))))) else (some h))
def fX5_joinedAt_60 (slf : Hp → Int32 → Int32 → Option (Hp)) (h : Hp) (x1 : Int32) (x2 : Int32) (s0 : Int32) : Option (Hp) := fX5_joinedAt_64 FU slf h x1 x2 s0 (0 : Int32)
def fX5_joinedAt_s (slf : Hp → Int32 → Int32 → Option (Hp)) (h : Hp) (x1 : Int32) (x2 : Int32) : Option (Hp) := if (hI h 69 14) = 0 then (if x2 ≤ (8 : Int32) then (if x1 < (6 : Int32) then (if x1 = (2 : Int32) then ((fX5_denied slf h x2).bind (fun h_9 => some h_9)) else ((slf h (x1 + (1 : Int32)) x2).bind (fun h_6 => if x1 = (3 : Int32) then (fX5_joinedAt_60 slf h_6 x1 x2 (1 : Int32)) else (fX5_joinedAt_60 slf h_6 x1 x2 (64 : Int32))))) else ((fX5_part slf h x2).bind (fun h_11 => some h_11))) else (some h)) else (some h)
set_option maxRecDepth 100000 in
set_option maxHeartbeats 4000000 in
theorem c_X5_joinedAt_s {l : Launch} {sb : State} {D : va_G} {ids : Nat → ClassId} {n : Nat} (hN : 152 ≤ n) {slf : Hp → Int32 → Int32 → Option (Hp)} (hG : jG sb) {d : Nat} (hd : 3 ≤ d) (hslf : ∀ (h : Hp) (x1 : Int32) (x2 : Int32) (rz : Hp), slf h x1 x2 = some rz → jM l yX5_joinedAt cX5_joinedAt 6 none d sb D ids shp St n [.ref 69, .int x1, .int x2] h (jQv sb D ids shp St n rz)) (h : Hp) (x1 : Int32) (x2 : Int32) (r : Hp) (hr : fX5_joinedAt_s slf h x1 x2 = some r) : jM l yX5_joinedAt cX5_joinedAt 6 none (d + 2) sb D ids shp St n [.ref 69, .int x1, .int x2] h (jQv sb D ids shp St n r) := by
  refine jM_of hr rfl (Nat.le_of_ble_eq_true rfl) ?_
  intro p e s m args below meth c hC hret
  have b64 : ∀ (fu : Nat) (h : Hp) (x1 : Int32) (x2 : Int32) (x3 : Int32) (x4 : Int32) , jJ p l e (rmD (d + 2)) s m args below meth c 6 sb D ids shp St (fun r => MQ below (jQv sb D ids shp St n r) args s 0 0 (jA sb)) n 0 0 h 64 [(0, .ref 69), (1, .int x1), (2, .int x2), (3, .int x3), (4, .int x4)] [] (fX5_joinedAt_64 fu slf h x1 x2 x3 x4) := by
    intro fu 
    induction fu with
    | zero => intro h x1 x2 x3 x4 ; exact j_none
    | succ fu ih =>
    intro h x1 x2 x3 x4 
    rw [fX5_joinedAt_64]
    refine j_iload hC 4 rfl (dOk_at dt_X5_joinedAt 36 rfl) ?_
    refine j_iload_n hC 3 rfl rfl (dOk_at dt_X5_joinedAt 37 rfl) ?_
    refine j_icmp_ge hC (tgt := 122) (by decide) (dOk_at dt_X5_joinedAt 38 rfl) (fun q_12 => ?_) (fun q_12 => ?_)
    · exact j_vret hC hret (dOk_at dt_X5_joinedAt 65 rfl)
    · refine j_aload_n hC 0 rfl rfl (dOk_at dt_X5_joinedAt 39 rfl) ?_
      refine j_getI hC flX5_73 (show shp 69 = (5, 16) from rfl) (Nat.lt_of_lt_of_le (Nat.le_of_ble_eq_true rfl : 69 < 152) hN) (by decide) (by decide) (fun _ _ _ => rfl) (dOk_at dt_X5_joinedAt 40 rfl) ?_
      refine j_if_ne hC (tgt := 122) (by decide) (dOk_at dt_X5_joinedAt 41 rfl) (fun q_13 => ?_) (fun q_13 => ?_)
      · exact j_vret hC hret (dOk_at dt_X5_joinedAt 65 rfl)
      · refine j_aload_n hC 0 rfl rfl (dOk_at dt_X5_joinedAt 42 rfl) ?_
        refine j_iload_n hC 1 rfl rfl (dOk_at dt_X5_joinedAt 43 rfl) ?_
        refine j_callVi hC clX5_256 (fun rz hrz => c_X5_isSignOf hN hG _ _ rz hrz) (show shp 69 = (5, 16) from rfl) (Nat.lt_of_lt_of_le (Nat.le_of_ble_eq_true rfl : 69 < 152) hN) (by decide) rfl rfl (rm_ok (by omega) (by decide)) ⟨Nat.le_refl 0, Nat.le_refl 0⟩ (As := [.int x1]) (st := []) rfl (Nat.le_of_ble_eq_true rfl) (dOk_at dt_X5_joinedAt 44 rfl) (fun v_14 h_15 _ => ?_)
        refine j_if_eq hC (tgt := 122) (by decide) (dOk_at dt_X5_joinedAt 45 rfl) (fun q_16 => ?_) (fun q_16 => ?_)
        · exact j_vret hC hret (dOk_at dt_X5_joinedAt 65 rfl)
        · refine j_sipush hC (v := (20000 : Int32)) rfl (dOk_at dt_X5_joinedAt 46 rfl) ?_
          refine j_aload_n hC 0 rfl rfl (dOk_at dt_X5_joinedAt 47 rfl) ?_
          refine j_getI hC flX5_85 (show shp 69 = (5, 16) from rfl) (Nat.lt_of_lt_of_le (Nat.le_of_ble_eq_true rfl : 69 < 152) hN) (by decide) (by decide) (fun _ _ _ => rfl) (dOk_at dt_X5_joinedAt 48 rfl) ?_
          refine j_iadd hC (dOk_at dt_X5_joinedAt 49 rfl) ?_
          refine j_istore hC (lv' := [(5, .int ((20000 : Int32) + (hI h_15 69 13))), (0, .ref 69), (1, .int x1), (2, .int x2), (3, .int x3), (4, .int x4)]) (by decide) rfl (dOk_at dt_X5_joinedAt 50 rfl) ?_
          refine j_aload_n hC 1 rfl rfl (dOk_at dt_X5_joinedAt 51 rfl) ?_
          refine j_callVv hC clX5_260 (fun rz hrz => c_X5_knot hN _ rz hrz) (show shp 69 = (5, 16) from rfl) (Nat.lt_of_lt_of_le (Nat.le_of_ble_eq_true rfl : 69 < 152) hN) (by decide) rfl rfl (rm_ok (by omega) (by decide)) ⟨Nat.le_refl 0, Nat.le_refl 0⟩ (As := []) (st := []) rfl (Nat.le_of_ble_eq_true rfl) (dOk_at dt_X5_joinedAt 52 rfl) (fun h_18 _ => ?_)
          refine j_aload_n hC 1 rfl rfl (dOk_at dt_X5_joinedAt 53 rfl) ?_
          refine j_iload_n hC 2 rfl rfl (dOk_at dt_X5_joinedAt 54 rfl) ?_
          refine j_iconst hC (v := (1 : Int32)) rfl (dOk_at dt_X5_joinedAt 55 rfl) ?_
          refine j_iadd hC (dOk_at dt_X5_joinedAt 56 rfl) ?_
          refine j_iload_n hC 3 rfl rfl (dOk_at dt_X5_joinedAt 57 rfl) ?_
          refine j_callVv hC clX5_244 (fun rz hrz => hslf _ _ _ rz hrz) (show shp 69 = (5, 16) from rfl) (Nat.lt_of_lt_of_le (Nat.le_of_ble_eq_true rfl : 69 < 152) hN) (by decide) rfl rfl (rm_ok (by omega) (by decide)) ⟨Nat.le_refl 0, Nat.le_refl 0⟩ (As := [.int (x1 + (1 : Int32)), .int x2]) (st := []) rfl (Nat.le_of_ble_eq_true rfl) (dOk_at dt_X5_joinedAt 58 rfl) (fun h_20 _ => ?_)
          refine j_aload_n hC 1 rfl rfl (dOk_at dt_X5_joinedAt 59 rfl) ?_
          refine j_getD (q := (1, 4)) hC flX5_29 (show shp 69 = (5, 16) from rfl) (Nat.lt_of_lt_of_le (Nat.le_of_ble_eq_true rfl : 69 < 152) hN) (by decide) (by decide) (fun _ _ _ => rfl) (dOk_at dt_X5_joinedAt 60 rfl) (fun z_21 _ g_22 => ?_)
          refine j_iload hC 0 rfl (dOk_at dt_X5_joinedAt 61 rfl) ?_
          refine j_callVv hC clX5_263 (fun rz hrz => c_X1_add hN (g_22) _ _ rz hrz) g_22 (jlt hN g_22 (by decide)) (by decide) rfl rfl (rm_ok (by omega) (by decide)) ⟨Nat.le_refl 0, Nat.le_refl 0⟩ (As := [.int ((20000 : Int32) + (hI h_15 69 13))]) (st := []) rfl (Nat.le_of_ble_eq_true rfl) (dOk_at dt_X5_joinedAt 62 rfl) (fun h_24 _ => ?_)
          refine j_iinc hC (v := (x4 + (1 : Int32))) (lv' := [(4, .int (x4 + (1 : Int32))), (5, .int ((20000 : Int32) + (hI h_15 69 13))), (0, .ref 69), (1, .int x1), (2, .int x2), (3, .int x3)]) 5 rfl (congrArg (fun z => x4 + z) (show Int32.ofInt (1) = (1 : Int32) from by decide)) (by decide) rfl (dOk_at dt_X5_joinedAt 63 rfl) ?_
          refine j_goto hC (tgt := 64) (by decide) (dOk_at dt_X5_joinedAt 64 rfl) ?_
          refine j_sub [2, 3, 4, 5, 0] rfl ?_
          exact ih h_24 x1 x2 x3 (x4 + (1 : Int32)) 
  have b60 : ∀ (h : Hp) (x1 : Int32) (x2 : Int32) (s0 : Int32) , jJ p l e (rmD (d + 2)) s m args below meth c 6 sb D ids shp St (fun r => MQ below (jQv sb D ids shp St n r) args s 0 0 (jA sb)) n 0 0 h 60 [(0, .ref 69), (1, .int x1), (2, .int x2)] [.int s0] (fX5_joinedAt_60 slf h x1 x2 s0) := by
    intro h x1 x2 s0 
    unfold fX5_joinedAt_60
    refine j_istore_n hC rfl (lv' := [(3, .int s0), (0, .ref 69), (1, .int x1), (2, .int x2)]) (by decide) rfl (dOk_at dt_X5_joinedAt 33 rfl) ?_
    refine j_iconst hC (v := (0 : Int32)) rfl (dOk_at dt_X5_joinedAt 34 rfl) ?_
    refine j_istore hC (lv' := [(4, .int (0 : Int32)), (3, .int s0), (0, .ref 69), (1, .int x1), (2, .int x2)]) (by decide) rfl (dOk_at dt_X5_joinedAt 35 rfl) ?_
    refine j_sub [2, 3, 4, 1, 0] rfl ?_
    exact b64 FU h x1 x2 s0 (0 : Int32) 
  unfold fX5_joinedAt_s
  refine j_aload_n hC 0 rfl rfl (dOk_at dt_X5_joinedAt 0 rfl) ?_
  refine j_getI hC flX5_73 (show shp 69 = (5, 16) from rfl) (Nat.lt_of_lt_of_le (Nat.le_of_ble_eq_true rfl : 69 < 152) hN) (by decide) (by decide) (fun _ _ _ => rfl) (dOk_at dt_X5_joinedAt 1 rfl) ?_
  refine j_if_ne hC (tgt := 13) (by decide) (dOk_at dt_X5_joinedAt 2 rfl) (fun q_1 => ?_) (fun q_1 => ?_)
  · exact j_vret hC hret (dOk_at dt_X5_joinedAt 6 rfl)
  · refine j_iload_n hC 2 rfl rfl (dOk_at dt_X5_joinedAt 3 rfl) ?_
    refine j_bipush hC (v := (8 : Int32)) rfl (dOk_at dt_X5_joinedAt 4 rfl) ?_
    refine j_icmp_le hC (tgt := 14) (by decide) (dOk_at dt_X5_joinedAt 5 rfl) (fun q_2 => ?_) (fun q_2 => ?_)
    · refine j_iload_n hC 1 rfl rfl (dOk_at dt_X5_joinedAt 7 rfl) ?_
      refine j_bipush hC (v := (6 : Int32)) rfl (dOk_at dt_X5_joinedAt 8 rfl) ?_
      refine j_icmp_lt hC (tgt := 28) (by decide) (dOk_at dt_X5_joinedAt 9 rfl) (fun q_3 => ?_) (fun q_3 => ?_)
      · refine j_iload_n hC 1 rfl rfl (dOk_at dt_X5_joinedAt 14 rfl) ?_
        refine j_iconst hC (v := (2 : Int32)) rfl (dOk_at dt_X5_joinedAt 15 rfl) ?_
        refine j_icmp_ne hC (tgt := 41) (by decide) (dOk_at dt_X5_joinedAt 16 rfl) (fun q_4 => ?_) (fun q_4 => ?_)
        · refine j_aload_n hC 0 rfl rfl (dOk_at dt_X5_joinedAt 21 rfl) ?_
          refine j_iload_n hC 1 rfl rfl (dOk_at dt_X5_joinedAt 22 rfl) ?_
          refine j_iconst hC (v := (1 : Int32)) rfl (dOk_at dt_X5_joinedAt 23 rfl) ?_
          refine j_iadd hC (dOk_at dt_X5_joinedAt 24 rfl) ?_
          refine j_iload_n hC 2 rfl rfl (dOk_at dt_X5_joinedAt 25 rfl) ?_
          refine j_callVv hC clX5_244 (fun rz hrz => hslf _ _ _ rz hrz) (show shp 69 = (5, 16) from rfl) (Nat.lt_of_lt_of_le (Nat.le_of_ble_eq_true rfl : 69 < 152) hN) (by decide) rfl rfl (rm_ok (by omega) (by decide)) ⟨Nat.le_refl 0, Nat.le_refl 0⟩ (As := [.int (x1 + (1 : Int32)), .int x2]) (st := []) rfl (Nat.le_of_ble_eq_true rfl) (dOk_at dt_X5_joinedAt 26 rfl) (fun h_6 _ => ?_)
          refine j_iload_n hC 1 rfl rfl (dOk_at dt_X5_joinedAt 27 rfl) ?_
          refine j_iconst hC (v := (3 : Int32)) rfl (dOk_at dt_X5_joinedAt 28 rfl) ?_
          refine j_icmp_ne hC (tgt := 58) (by decide) (dOk_at dt_X5_joinedAt 29 rfl) (fun q_7 => ?_) (fun q_7 => ?_)
          · refine j_bipush hC (v := (64 : Int32)) rfl (dOk_at dt_X5_joinedAt 32 rfl) ?_
            exact b60 h_6 x1 x2 (64 : Int32) 
          · refine j_iconst hC (v := (1 : Int32)) rfl (dOk_at dt_X5_joinedAt 30 rfl) ?_
            refine j_goto hC (tgt := 60) (by decide) (dOk_at dt_X5_joinedAt 31 rfl) ?_
            exact b60 h_6 x1 x2 (1 : Int32) 
        · refine j_aload_n hC 0 rfl rfl (dOk_at dt_X5_joinedAt 17 rfl) ?_
          refine j_iload_n hC 2 rfl rfl (dOk_at dt_X5_joinedAt 18 rfl) ?_
          refine j_callVv hC clX5_253 (fun rz hrz => c_X5_denied hN hd hslf _ _ rz hrz) (show shp 69 = (5, 16) from rfl) (Nat.lt_of_lt_of_le (Nat.le_of_ble_eq_true rfl : 69 < 152) hN) (by decide) rfl rfl (rm_ok (by omega) (by decide)) ⟨Nat.le_refl 0, Nat.le_refl 0⟩ (As := [.int x2]) (st := []) rfl (Nat.le_of_ble_eq_true rfl) (dOk_at dt_X5_joinedAt 19 rfl) (fun h_9 _ => ?_)
          refine j_goto hC (tgt := 122) (by decide) (dOk_at dt_X5_joinedAt 20 rfl) ?_
          exact j_vret hC hret (dOk_at dt_X5_joinedAt 65 rfl)
      · refine j_aload_n hC 0 rfl rfl (dOk_at dt_X5_joinedAt 10 rfl) ?_
        refine j_iload_n hC 2 rfl rfl (dOk_at dt_X5_joinedAt 11 rfl) ?_
        refine j_callVv hC clX5_250 (fun rz hrz => c_X5_part hN hd hslf _ _ rz hrz) (show shp 69 = (5, 16) from rfl) (Nat.lt_of_lt_of_le (Nat.le_of_ble_eq_true rfl : 69 < 152) hN) (by decide) rfl rfl (rm_ok (by omega) (by decide)) ⟨Nat.le_refl 0, Nat.le_refl 0⟩ (As := [.int x2]) (st := []) rfl (Nat.le_of_ble_eq_true rfl) (dOk_at dt_X5_joinedAt 12 rfl) (fun h_11 _ => ?_)
        refine j_goto hC (tgt := 122) (by decide) (dOk_at dt_X5_joinedAt 13 rfl) ?_
        exact j_vret hC hret (dOk_at dt_X5_joinedAt 65 rfl)
    · exact j_vret hC hret (dOk_at dt_X5_joinedAt 6 rfl)
def fX5_joinedAt_d : Nat → Hp → Int32 → Int32 → Option (Hp)
  | 0, _, _, _ => none
  | dp + 1, h, x1, x2 => fX5_joinedAt_s (fX5_joinedAt_d dp ) h x1 x2
theorem c_X5_joinedAt_d {l : Launch} {sb : State} {D : va_G} {ids : Nat → ClassId} {n : Nat} (hN : 152 ≤ n) (hG : jG sb) : ∀ (dp : Nat) (h : Hp) (x1 : Int32) (x2 : Int32) (r : Hp), fX5_joinedAt_d dp h x1 x2 = some r → jM l yX5_joinedAt cX5_joinedAt 6 none (2 * dp + 3) sb D ids shp St n [.ref 69, .int x1, .int x2] h (jQv sb D ids shp St n r)
  | 0, h, x1, x2, r, hr => by cases hr
  | dp + 1, h, x1, x2, r, hr => by
    have ih := c_X5_joinedAt_d (l := l) (sb := sb) (D := D) (ids := ids) hN hG dp
    have k := c_X5_joinedAt_s (l := l) (sb := sb) (D := D) (ids := ids) hN hG (d := 2 * dp + 3) (by omega) ih h x1 x2 r hr
    rw [show 2 * (dp + 1) + 3 = 2 * dp + 3 + 2 by omega]
    exact k
def fX5_joinedAt (h : Hp) (x1 : Int32) (x2 : Int32) : Option (Hp) := fX5_joinedAt_d 100 h x1 x2
theorem c_X5_joinedAt {l : Launch} {sb : State} {D : va_G} {ids : Nat → ClassId} {n : Nat} (hN : 152 ≤ n) (hG : jG sb) (h : Hp) (x1 : Int32) (x2 : Int32) (r : Hp) (hr : fX5_joinedAt h x1 x2 = some r) : jM l yX5_joinedAt cX5_joinedAt 6 none 203 sb D ids shp St n [.ref 69, .int x1, .int x2] h (jQv sb D ids shp St n r) := c_X5_joinedAt_d hN hG 100 h x1 x2 r hr
def tb_X5_lawLine : List (Nat × Instr × Nat) := [(0, .aload_n 0, 1), (1, .iconst 1, 1), (2, .iconst 0, 1), (3, .invokevirtual 167, 3), (6, .aload_n 0, 1), (7, .getfield 79, 3), (10, .iconst 3, 1), (11, .if_icmp .ne 13, 3), (14, .aload_n 0, 1), (15, .getfield 88, 3), (18, .bipush 10, 2), (20, .isub, 1), (21, .goto 4, 3), (24, .iconst (-1), 1), (25, .istore_n 1, 1), (26, .iload_n 1, 1), (27, .ifCond .lt 8, 3), (30, .iload_n 1, 1), (31, .iconst 3, 1), (32, .if_icmp .lt 13, 3), (35, .aload_n 0, 1), (36, .iconst 1, 1), (37, .aload_n 0, 1), (38, .getfield 70, 3), (41, .invokevirtual 138, 3), (44, .return_, 1), (45, .aload_n 0, 1), (46, .aload_n 0, 1), (47, .getfield 19, 3), (50, .getfield 23, 3), (53, .iload_n 1, 1), (54, .aaload, 1), (55, .putfield 29, 3), (58, .aload_n 0, 1), (59, .aload_n 0, 1), (60, .getfield 29, 3), (63, .getfield 239, 3), (66, .ifCond .ne 7, 3), (69, .iconst 1, 1), (70, .goto 4, 3), (73, .iconst 0, 1), (74, .iconst 3, 1), (75, .invokevirtual 167, 3), (78, .aload_n 0, 1), (79, .iconst 0, 1), (80, .iconst 0, 1), (81, .invokevirtual 244, 3), (84, .aload_n 0, 1), (85, .getfield 73, 3), (88, .ifCond .ne 11, 3), (91, .aload_n 0, 1), (92, .getfield 29, 3), (95, .iconst 1, 1), (96, .putfield 239, 3), (99, .return_, 1)]
theorem dt_X5_lawLine : dOk cX5_lawLine tb_X5_lawLine = true := by decide +kernel
def fX5_lawLine_35 (h : Hp) : Option (Hp) := (fX5_fail h (1 : Int32) (hI h 69 8)).bind (fun h_14 => some h_14)
def fX5_lawLine_74 (h : Hp) (s1 : Int32) : Option (Hp) := (fX5_passWord h s1 (3 : Int32)).bind (fun h_16 => (fX5_joinedAt h_16 (0 : Int32) (0 : Int32)).bind (fun h_18 => if (hI h_18 69 14) = 0 then ((dref shp h_18 69 5 (1, 4)).bind (fun z_20 => some (uI h_18 z_20 0 (1 : Int32)))) else (some h_18)))
def fX5_lawLine_25 (h : Hp) (s0 : Int32) : Option (Hp) := if s0 < 0 then (fX5_lawLine_35 h) else (if s0 < (3 : Int32) then ((dref shp h 69 4 (7, 20)).bind (fun z_6 => if inb s0 3 then (dref shp h (rf z_6 17) (Int32.toNatClampNeg s0) (1, 4)).bind (fun z_8 => (dref shp (uR h 69 5 (some z_8)) 69 5 (1, 4)).bind (fun z_10 => if (hI (uR h 69 5 (some z_8)) z_10 0) = 0 then (fX5_lawLine_74 (uR h 69 5 (some z_8)) (1 : Int32)) else (fX5_lawLine_74 (uR h 69 5 (some z_8)) (0 : Int32)))) else none)) else (fX5_lawLine_35 h))
def fX5_lawLine (h : Hp) : Option (Hp) := (fX5_passWord h (1 : Int32) (0 : Int32)).bind (fun h_2 => if (hI h_2 69 7) = (3 : Int32) then (fX5_lawLine_25 h_2 ((hI h_2 69 11) - (10 : Int32))) else (fX5_lawLine_25 h_2 (-1 : Int32)))
set_option maxRecDepth 100000 in
set_option maxHeartbeats 4000000 in
theorem c_X5_lawLine {l : Launch} {sb : State} {D : va_G} {ids : Nat → ClassId} {n : Nat} (hN : 152 ≤ n) (hG : jG sb) (h : Hp) (r : Hp) (hr : fX5_lawLine h = some r) : jM l yX5_lawLine cX5_lawLine 2 none 204 sb D ids shp St n [.ref 69] h (jQv sb D ids shp St n r) := by
  refine jM_of hr rfl (Nat.le_of_ble_eq_true rfl) ?_
  intro p e s m args below meth c hC hret
  have b35 : ∀ (h : Hp) , jJ p l e (rmD 204) s m args below meth c 2 sb D ids shp St (fun r => MQ below (jQv sb D ids shp St n r) args s 0 0 (jA sb)) n 0 0 h 35 [(0, .ref 69)] [] (fX5_lawLine_35 h ) := by
    intro h 
    unfold fX5_lawLine_35
    refine j_aload_n hC 0 rfl rfl (dOk_at dt_X5_lawLine 20 rfl) ?_
    refine j_iconst hC (v := (1 : Int32)) rfl (dOk_at dt_X5_lawLine 21 rfl) ?_
    refine j_aload_n hC 0 rfl rfl (dOk_at dt_X5_lawLine 22 rfl) ?_
    refine j_getI hC flX5_70 (show shp 69 = (5, 16) from rfl) (Nat.lt_of_lt_of_le (Nat.le_of_ble_eq_true rfl : 69 < 152) hN) (by decide) (by decide) (fun _ _ _ => rfl) (dOk_at dt_X5_lawLine 23 rfl) ?_
    refine j_callVv hC clX5_138 (fun rz hrz => c_X5_fail hN _ _ _ rz hrz) (show shp 69 = (5, 16) from rfl) (Nat.lt_of_lt_of_le (Nat.le_of_ble_eq_true rfl : 69 < 152) hN) (by decide) rfl rfl ⟨Nat.le_of_ble_eq_true rfl, Nat.le_of_ble_eq_true rfl⟩ ⟨Nat.le_refl 0, Nat.le_refl 0⟩ (As := [.int (1 : Int32), .int (hI h 69 8)]) (st := []) rfl (Nat.le_of_ble_eq_true rfl) (dOk_at dt_X5_lawLine 24 rfl) (fun h_14 _ => ?_)
    exact j_vret hC hret (dOk_at dt_X5_lawLine 25 rfl)
  have b74 : ∀ (h : Hp) (s1 : Int32) , jJ p l e (rmD 204) s m args below meth c 2 sb D ids shp St (fun r => MQ below (jQv sb D ids shp St n r) args s 0 0 (jA sb)) n 0 0 h 74 [(0, .ref 69)] [.int s1, .ref 69] (fX5_lawLine_74 h s1) := by
    intro h s1 
    unfold fX5_lawLine_74
    refine j_iconst hC (v := (3 : Int32)) rfl (dOk_at dt_X5_lawLine 41 rfl) ?_
    refine j_callVv hC clX5_167 (fun rz hrz => c_X5_passWord hN _ _ _ rz hrz) (show shp 69 = (5, 16) from rfl) (Nat.lt_of_lt_of_le (Nat.le_of_ble_eq_true rfl : 69 < 152) hN) (by decide) rfl rfl ⟨Nat.le_of_ble_eq_true rfl, Nat.le_of_ble_eq_true rfl⟩ ⟨Nat.le_refl 0, Nat.le_refl 0⟩ (As := [.int s1, .int (3 : Int32)]) (st := []) rfl (Nat.le_of_ble_eq_true rfl) (dOk_at dt_X5_lawLine 42 rfl) (fun h_16 _ => ?_)
    refine j_aload_n hC 0 rfl rfl (dOk_at dt_X5_lawLine 43 rfl) ?_
    refine j_iconst hC (v := (0 : Int32)) rfl (dOk_at dt_X5_lawLine 44 rfl) ?_
    refine j_iconst hC (v := (0 : Int32)) rfl (dOk_at dt_X5_lawLine 45 rfl) ?_
    refine j_callVv hC clX5_244 (fun rz hrz => c_X5_joinedAt hN hG _ _ _ rz hrz) (show shp 69 = (5, 16) from rfl) (Nat.lt_of_lt_of_le (Nat.le_of_ble_eq_true rfl : 69 < 152) hN) (by decide) rfl rfl ⟨Nat.le_of_ble_eq_true rfl, Nat.le_of_ble_eq_true rfl⟩ ⟨Nat.le_refl 0, Nat.le_refl 0⟩ (As := [.int (0 : Int32), .int (0 : Int32)]) (st := []) rfl (Nat.le_of_ble_eq_true rfl) (dOk_at dt_X5_lawLine 46 rfl) (fun h_18 _ => ?_)
    refine j_aload_n hC 0 rfl rfl (dOk_at dt_X5_lawLine 47 rfl) ?_
    refine j_getI hC flX5_73 (show shp 69 = (5, 16) from rfl) (Nat.lt_of_lt_of_le (Nat.le_of_ble_eq_true rfl : 69 < 152) hN) (by decide) (by decide) (fun _ _ _ => rfl) (dOk_at dt_X5_lawLine 48 rfl) ?_
    refine j_if_ne hC (tgt := 99) (by decide) (dOk_at dt_X5_lawLine 49 rfl) (fun q_19 => ?_) (fun q_19 => ?_)
    · exact j_vret hC hret (dOk_at dt_X5_lawLine 54 rfl)
    · refine j_aload_n hC 0 rfl rfl (dOk_at dt_X5_lawLine 50 rfl) ?_
      refine j_getD (q := (1, 4)) hC flX5_29 (show shp 69 = (5, 16) from rfl) (Nat.lt_of_lt_of_le (Nat.le_of_ble_eq_true rfl : 69 < 152) hN) (by decide) (by decide) (fun _ _ _ => rfl) (dOk_at dt_X5_lawLine 51 rfl) (fun z_20 _ g_21 => ?_)
      refine j_iconst hC (v := (1 : Int32)) rfl (dOk_at dt_X5_lawLine 52 rfl) ?_
      refine j_putZ hC St_SP flX5_239 g_21 (jlt hN g_21 (by decide)) (by decide) (by decide) rfl rfl rfl (dOk_at dt_X5_lawLine 53 rfl) ?_
      exact j_vret hC hret (dOk_at dt_X5_lawLine 54 rfl)
  have b25 : ∀ (h : Hp) (s0 : Int32) , jJ p l e (rmD 204) s m args below meth c 2 sb D ids shp St (fun r => MQ below (jQv sb D ids shp St n r) args s 0 0 (jA sb)) n 0 0 h 25 [(0, .ref 69)] [.int s0] (fX5_lawLine_25 h s0) := by
    intro h s0 
    unfold fX5_lawLine_25
    refine j_istore_n hC rfl (lv' := [(1, .int s0), (0, .ref 69)]) (by decide) rfl (dOk_at dt_X5_lawLine 14 rfl) ?_
    refine j_iload_n hC 0 rfl rfl (dOk_at dt_X5_lawLine 15 rfl) ?_
    refine j_if_lt hC (tgt := 35) (by decide) (dOk_at dt_X5_lawLine 16 rfl) (fun q_4 => ?_) (fun q_4 => ?_)
    · refine j_sub [1] rfl ?_
      exact b35 h 
    · refine j_iload_n hC 0 rfl rfl (dOk_at dt_X5_lawLine 17 rfl) ?_
      refine j_iconst hC (v := (3 : Int32)) rfl (dOk_at dt_X5_lawLine 18 rfl) ?_
      refine j_icmp_lt hC (tgt := 45) (by decide) (dOk_at dt_X5_lawLine 19 rfl) (fun q_5 => ?_) (fun q_5 => ?_)
      · refine j_aload_n hC 1 rfl rfl (dOk_at dt_X5_lawLine 26 rfl) ?_
        refine j_aload_n hC 1 rfl rfl (dOk_at dt_X5_lawLine 27 rfl) ?_
        refine j_getD (q := (7, 20)) hC flX5_19 (show shp 69 = (5, 16) from rfl) (Nat.lt_of_lt_of_le (Nat.le_of_ble_eq_true rfl : 69 < 152) hN) (by decide) (by decide) (fun _ _ _ => rfl) (dOk_at dt_X5_lawLine 28 rfl) (fun z_6 _ g_7 => ?_)
        refine j_getR hC flX5_23 g_7 (jlt hN g_7 (by decide)) (by decide) (by decide) (fun _ _ _ => rfl) (fun hs => hs _ _ _ (sf_7_17 g_7).1) (dOk_at dt_X5_lawLine 29 rfl) ?_
        refine j_iload_n hC 0 rfl rfl (dOk_at dt_X5_lawLine 30 rfl) ?_
        refine j_aald (q := (1, 4)) hC (sf_7_17 g_7).2.1 (Nat.lt_of_lt_of_le (sf_7_17 g_7).2.2 hN) (dOk_at dt_X5_lawLine 31 rfl) (fun z_8 _ g_9 => ?_)
        refine j_putR hC flX5_29 (show shp 69 = (5, 16) from rfl) (Nat.lt_of_lt_of_le (Nat.le_of_ble_eq_true rfl : 69 < 152) hN) (by decide) (by decide) rfl rfl (fun hs => St_uR hs rfl) (dOk_at dt_X5_lawLine 32 rfl) ?_
        refine j_aload_n hC 1 rfl rfl (dOk_at dt_X5_lawLine 33 rfl) ?_
        refine j_aload_n hC 1 rfl rfl (dOk_at dt_X5_lawLine 34 rfl) ?_
        refine j_getD (q := (1, 4)) hC flX5_29 (show shp 69 = (5, 16) from rfl) (Nat.lt_of_lt_of_le (Nat.le_of_ble_eq_true rfl : 69 < 152) hN) (by decide) (by decide) (fun _ _ _ => rfl) (dOk_at dt_X5_lawLine 35 rfl) (fun z_10 _ g_11 => ?_)
        refine j_getI hC flX5_239 g_11 (jlt hN g_11 (by decide)) (by decide) (by decide) (fun _ _ _ => rfl) (dOk_at dt_X5_lawLine 36 rfl) ?_
        refine j_if_ne hC (tgt := 73) (by decide) (dOk_at dt_X5_lawLine 37 rfl) (fun q_12 => ?_) (fun q_12 => ?_)
        · refine j_iconst hC (v := (0 : Int32)) rfl (dOk_at dt_X5_lawLine 40 rfl) ?_
          refine j_sub [1] rfl ?_
          exact b74 (uR h 69 5 (some z_8)) (0 : Int32) 
        · refine j_iconst hC (v := (1 : Int32)) rfl (dOk_at dt_X5_lawLine 38 rfl) ?_
          refine j_goto hC (tgt := 74) (by decide) (dOk_at dt_X5_lawLine 39 rfl) ?_
          refine j_sub [1] rfl ?_
          exact b74 (uR h 69 5 (some z_8)) (1 : Int32) 
      · refine j_sub [1] rfl ?_
        exact b35 h 
  unfold fX5_lawLine
  refine j_aload_n hC 0 rfl rfl (dOk_at dt_X5_lawLine 0 rfl) ?_
  refine j_iconst hC (v := (1 : Int32)) rfl (dOk_at dt_X5_lawLine 1 rfl) ?_
  refine j_iconst hC (v := (0 : Int32)) rfl (dOk_at dt_X5_lawLine 2 rfl) ?_
  refine j_callVv hC clX5_167 (fun rz hrz => c_X5_passWord hN _ _ _ rz hrz) (show shp 69 = (5, 16) from rfl) (Nat.lt_of_lt_of_le (Nat.le_of_ble_eq_true rfl : 69 < 152) hN) (by decide) rfl rfl ⟨Nat.le_of_ble_eq_true rfl, Nat.le_of_ble_eq_true rfl⟩ ⟨Nat.le_refl 0, Nat.le_refl 0⟩ (As := [.int (1 : Int32), .int (0 : Int32)]) (st := []) rfl (Nat.le_of_ble_eq_true rfl) (dOk_at dt_X5_lawLine 3 rfl) (fun h_2 _ => ?_)
  refine j_aload_n hC 0 rfl rfl (dOk_at dt_X5_lawLine 4 rfl) ?_
  refine j_getI hC flX5_79 (show shp 69 = (5, 16) from rfl) (Nat.lt_of_lt_of_le (Nat.le_of_ble_eq_true rfl : 69 < 152) hN) (by decide) (by decide) (fun _ _ _ => rfl) (dOk_at dt_X5_lawLine 5 rfl) ?_
  refine j_iconst hC (v := (3 : Int32)) rfl (dOk_at dt_X5_lawLine 6 rfl) ?_
  refine j_icmp_ne hC (tgt := 24) (by decide) (dOk_at dt_X5_lawLine 7 rfl) (fun q_3 => ?_) (fun q_3 => ?_)
  · refine j_iconst hC (v := (-1 : Int32)) rfl (dOk_at dt_X5_lawLine 13 rfl) ?_
    exact b25 h_2 (-1 : Int32) 
  · refine j_aload_n hC 0 rfl rfl (dOk_at dt_X5_lawLine 8 rfl) ?_
    refine j_getI hC flX5_88 (show shp 69 = (5, 16) from rfl) (Nat.lt_of_lt_of_le (Nat.le_of_ble_eq_true rfl : 69 < 152) hN) (by decide) (by decide) (fun _ _ _ => rfl) (dOk_at dt_X5_lawLine 9 rfl) ?_
    refine j_bipush hC (v := (10 : Int32)) rfl (dOk_at dt_X5_lawLine 10 rfl) ?_
    refine j_isub hC (dOk_at dt_X5_lawLine 11 rfl) ?_
    refine j_goto hC (tgt := 25) (by decide) (dOk_at dt_X5_lawLine 12 rfl) ?_
    exact b25 h_2 ((hI h_2 69 11) - (10 : Int32)) 
def tb_X5_line : List (Nat × Instr × Nat) := [(0, .aload_n 0, 1), (1, .getfield 79, 3), (4, .iconst 3, 1), (5, .if_icmp .ne 10, 3), (8, .aload_n 0, 1), (9, .getfield 88, 3), (12, .goto 4, 3), (15, .iconst (-1), 1), (16, .tableswitch 126 0 9 #[56, 63, 70, 77, 84, 91, 98, 105, 112, 119], 56), (72, .aload_n 0, 1), (73, .invokevirtual 108, 3), (76, .goto 75, 3), (79, .aload_n 0, 1), (80, .invokevirtual 111, 3), (83, .goto 68, 3), (86, .aload_n 0, 1), (87, .invokevirtual 114, 3), (90, .goto 61, 3), (93, .aload_n 0, 1), (94, .invokevirtual 117, 3), (97, .goto 54, 3), (100, .aload_n 0, 1), (101, .invokevirtual 120, 3), (104, .goto 47, 3), (107, .aload_n 0, 1), (108, .invokevirtual 123, 3), (111, .goto 40, 3), (114, .aload_n 0, 1), (115, .invokevirtual 126, 3), (118, .goto 33, 3), (121, .aload_n 0, 1), (122, .invokevirtual 129, 3), (125, .goto 26, 3), (128, .aload_n 0, 1), (129, .invokevirtual 132, 3), (132, .goto 19, 3), (135, .aload_n 0, 1), (136, .invokevirtual 135, 3), (139, .goto 12, 3), (142, .aload_n 0, 1), (143, .iconst 1, 1), (144, .aload_n 0, 1), (145, .getfield 70, 3), (148, .invokevirtual 138, 3), (151, .aload_n 0, 1), (152, .iconst 5, 1), (153, .invokevirtual 142, 3), (156, .aload_n 0, 1), (157, .getfield 73, 3), (160, .ifCond .ne 16, 3), (163, .aload_n 0, 1), (164, .getfield 19, 3), (167, .dup, 1), (168, .getfield 145, 3), (171, .iconst 1, 1), (172, .iadd, 1), (173, .putfield 145, 3), (176, .return_, 1)]
theorem dt_X5_line : dOk cX5_line tb_X5_line = true := by decide +kernel
def fX5_line_151 (h : Hp) : Option (Hp) := (fX5_pass h (5 : Int32)).bind (fun h_35 => if (hI h_35 69 14) = 0 then ((dref shp h_35 69 4 (7, 20)).bind (fun z_37 => some (uI h_35 z_37 19 ((hI h_35 z_37 19) + (1 : Int32))))) else (some h_35))
def fX5_line_16 (h : Hp) (s0 : Int32) : Option (Hp) := if inT s0 0 9 then (if s0 = (0 : Int32) then ((fX5_claimLine h).bind (fun h_4 => fX5_line_151 h_4)) else (if s0 = (1 : Int32) then ((fX5_contraLine h).bind (fun h_7 => fX5_line_151 h_7)) else (if s0 = (2 : Int32) then ((fX5_strawLine h).bind (fun h_10 => fX5_line_151 h_10)) else (if s0 = (3 : Int32) then ((fX5_memberLine h).bind (fun h_13 => fX5_line_151 h_13)) else (if s0 = (4 : Int32) then ((fX5_holdsLine h).bind (fun h_16 => fX5_line_151 h_16)) else (if s0 = (5 : Int32) then ((fX5_debateLine h).bind (fun h_19 => fX5_line_151 h_19)) else (if s0 = (6 : Int32) then ((fX5_stuffLine h).bind (fun h_22 => fX5_line_151 h_22)) else (if s0 = (7 : Int32) then ((fX5_dampLine h).bind (fun h_25 => fX5_line_151 h_25)) else (if s0 = (8 : Int32) then ((fX5_seedLine h).bind (fun h_28 => fX5_line_151 h_28)) else (if s0 = (9 : Int32) then ((fX5_lawLine h).bind (fun h_31 => fX5_line_151 h_31)) else none)))))))))) else ((fX5_fail h (1 : Int32) (hI h 69 8)).bind (fun h_33 => fX5_line_151 h_33))
def fX5_line (h : Hp) : Option (Hp) := if (hI h 69 7) = (3 : Int32) then (fX5_line_16 h (hI h 69 11)) else (fX5_line_16 h (-1 : Int32))
set_option maxRecDepth 100000 in
set_option maxHeartbeats 4000000 in
theorem c_X5_line {l : Launch} {sb : State} {D : va_G} {ids : Nat → ClassId} {n : Nat} (hN : 152 ≤ n) (hG : jG sb) (h : Hp) (r : Hp) (hr : fX5_line h = some r) : jM l yX5_line cX5_line 1 none 205 sb D ids shp St n [.ref 69] h (jQv sb D ids shp St n r) := by
  refine jM_of hr rfl (Nat.le_of_ble_eq_true rfl) ?_
  intro p e s m args below meth c hC hret
  have b151 : ∀ (h : Hp) , jJ p l e (rmD 205) s m args below meth c 1 sb D ids shp St (fun r => MQ below (jQv sb D ids shp St n r) args s 0 0 (jA sb)) n 0 0 h 151 [(0, .ref 69)] [] (fX5_line_151 h ) := by
    intro h 
    unfold fX5_line_151
    refine j_aload_n hC 0 rfl rfl (dOk_at dt_X5_line 44 rfl) ?_
    refine j_iconst hC (v := (5 : Int32)) rfl (dOk_at dt_X5_line 45 rfl) ?_
    refine j_callVv hC clX5_142 (fun rz hrz => c_X5_pass hN _ _ rz hrz) (show shp 69 = (5, 16) from rfl) (Nat.lt_of_lt_of_le (Nat.le_of_ble_eq_true rfl : 69 < 152) hN) (by decide) rfl rfl ⟨Nat.le_of_ble_eq_true rfl, Nat.le_of_ble_eq_true rfl⟩ ⟨Nat.le_refl 0, Nat.le_refl 0⟩ (As := [.int (5 : Int32)]) (st := []) rfl (Nat.le_of_ble_eq_true rfl) (dOk_at dt_X5_line 46 rfl) (fun h_35 _ => ?_)
    refine j_aload_n hC 0 rfl rfl (dOk_at dt_X5_line 47 rfl) ?_
    refine j_getI hC flX5_73 (show shp 69 = (5, 16) from rfl) (Nat.lt_of_lt_of_le (Nat.le_of_ble_eq_true rfl : 69 < 152) hN) (by decide) (by decide) (fun _ _ _ => rfl) (dOk_at dt_X5_line 48 rfl) ?_
    refine j_if_ne hC (tgt := 176) (by decide) (dOk_at dt_X5_line 49 rfl) (fun q_36 => ?_) (fun q_36 => ?_)
    · exact j_vret hC hret (dOk_at dt_X5_line 57 rfl)
    · refine j_aload_n hC 0 rfl rfl (dOk_at dt_X5_line 50 rfl) ?_
      refine j_getD (q := (7, 20)) hC flX5_19 (show shp 69 = (5, 16) from rfl) (Nat.lt_of_lt_of_le (Nat.le_of_ble_eq_true rfl : 69 < 152) hN) (by decide) (by decide) (fun _ _ _ => rfl) (dOk_at dt_X5_line 51 rfl) (fun z_37 _ g_38 => ?_)
      refine j_dupr hC (dOk_at dt_X5_line 52 rfl) ?_
      refine j_getI hC flX5_145 g_38 (jlt hN g_38 (by decide)) (by decide) (by decide) (fun _ _ _ => rfl) (dOk_at dt_X5_line 53 rfl) ?_
      refine j_iconst hC (v := (1 : Int32)) rfl (dOk_at dt_X5_line 54 rfl) ?_
      refine j_iadd hC (dOk_at dt_X5_line 55 rfl) ?_
      refine j_putI hC St_SP flX5_145 g_38 (jlt hN g_38 (by decide)) (by decide) (by decide) rfl rfl (dOk_at dt_X5_line 56 rfl) ?_
      exact j_vret hC hret (dOk_at dt_X5_line 57 rfl)
  have b16 : ∀ (h : Hp) (s0 : Int32) , jJ p l e (rmD 205) s m args below meth c 1 sb D ids shp St (fun r => MQ below (jQv sb D ids shp St n r) args s 0 0 (jA sb)) n 0 0 h 16 [(0, .ref 69)] [.int s0] (fX5_line_16 h s0) := by
    intro h s0 
    unfold fX5_line_16
    refine j_ite (P := inT s0 0 9 = true) (fun _ => ?_) (fun q => ?_)
    · refine j_ite (P := s0 = (0 : Int32)) (fun q_2 => ?_) (fun _ => ?_)
      · refine j_tswIn hC (tgt := 72) q_2 (by decide) (by decide) rfl (by decide) (dOk_at dt_X5_line 8 rfl) ?_
        refine j_aload_n hC 0 rfl rfl (dOk_at dt_X5_line 9 rfl) ?_
        refine j_callVv hC clX5_108 (fun rz hrz => c_X5_claimLine hN _ rz hrz) (show shp 69 = (5, 16) from rfl) (Nat.lt_of_lt_of_le (Nat.le_of_ble_eq_true rfl : 69 < 152) hN) (by decide) rfl rfl ⟨Nat.le_of_ble_eq_true rfl, Nat.le_of_ble_eq_true rfl⟩ ⟨Nat.le_refl 0, Nat.le_refl 0⟩ (As := []) (st := []) rfl (Nat.le_of_ble_eq_true rfl) (dOk_at dt_X5_line 10 rfl) (fun h_4 _ => ?_)
        refine j_goto hC (tgt := 151) (by decide) (dOk_at dt_X5_line 11 rfl) ?_
        exact b151 h_4 
      refine j_ite (P := s0 = (1 : Int32)) (fun q_5 => ?_) (fun _ => ?_)
      · refine j_tswIn hC (tgt := 79) q_5 (by decide) (by decide) rfl (by decide) (dOk_at dt_X5_line 8 rfl) ?_
        refine j_aload_n hC 0 rfl rfl (dOk_at dt_X5_line 12 rfl) ?_
        refine j_callVv hC clX5_111 (fun rz hrz => c_X5_contraLine hN _ rz hrz) (show shp 69 = (5, 16) from rfl) (Nat.lt_of_lt_of_le (Nat.le_of_ble_eq_true rfl : 69 < 152) hN) (by decide) rfl rfl ⟨Nat.le_of_ble_eq_true rfl, Nat.le_of_ble_eq_true rfl⟩ ⟨Nat.le_refl 0, Nat.le_refl 0⟩ (As := []) (st := []) rfl (Nat.le_of_ble_eq_true rfl) (dOk_at dt_X5_line 13 rfl) (fun h_7 _ => ?_)
        refine j_goto hC (tgt := 151) (by decide) (dOk_at dt_X5_line 14 rfl) ?_
        exact b151 h_7 
      refine j_ite (P := s0 = (2 : Int32)) (fun q_8 => ?_) (fun _ => ?_)
      · refine j_tswIn hC (tgt := 86) q_8 (by decide) (by decide) rfl (by decide) (dOk_at dt_X5_line 8 rfl) ?_
        refine j_aload_n hC 0 rfl rfl (dOk_at dt_X5_line 15 rfl) ?_
        refine j_callVv hC clX5_114 (fun rz hrz => c_X5_strawLine hN _ rz hrz) (show shp 69 = (5, 16) from rfl) (Nat.lt_of_lt_of_le (Nat.le_of_ble_eq_true rfl : 69 < 152) hN) (by decide) rfl rfl ⟨Nat.le_of_ble_eq_true rfl, Nat.le_of_ble_eq_true rfl⟩ ⟨Nat.le_refl 0, Nat.le_refl 0⟩ (As := []) (st := []) rfl (Nat.le_of_ble_eq_true rfl) (dOk_at dt_X5_line 16 rfl) (fun h_10 _ => ?_)
        refine j_goto hC (tgt := 151) (by decide) (dOk_at dt_X5_line 17 rfl) ?_
        exact b151 h_10 
      refine j_ite (P := s0 = (3 : Int32)) (fun q_11 => ?_) (fun _ => ?_)
      · refine j_tswIn hC (tgt := 93) q_11 (by decide) (by decide) rfl (by decide) (dOk_at dt_X5_line 8 rfl) ?_
        refine j_aload_n hC 0 rfl rfl (dOk_at dt_X5_line 18 rfl) ?_
        refine j_callVv hC clX5_117 (fun rz hrz => c_X5_memberLine hN _ rz hrz) (show shp 69 = (5, 16) from rfl) (Nat.lt_of_lt_of_le (Nat.le_of_ble_eq_true rfl : 69 < 152) hN) (by decide) rfl rfl ⟨Nat.le_of_ble_eq_true rfl, Nat.le_of_ble_eq_true rfl⟩ ⟨Nat.le_refl 0, Nat.le_refl 0⟩ (As := []) (st := []) rfl (Nat.le_of_ble_eq_true rfl) (dOk_at dt_X5_line 19 rfl) (fun h_13 _ => ?_)
        refine j_goto hC (tgt := 151) (by decide) (dOk_at dt_X5_line 20 rfl) ?_
        exact b151 h_13 
      refine j_ite (P := s0 = (4 : Int32)) (fun q_14 => ?_) (fun _ => ?_)
      · refine j_tswIn hC (tgt := 100) q_14 (by decide) (by decide) rfl (by decide) (dOk_at dt_X5_line 8 rfl) ?_
        refine j_aload_n hC 0 rfl rfl (dOk_at dt_X5_line 21 rfl) ?_
        refine j_callVv hC clX5_120 (fun rz hrz => c_X5_holdsLine hN _ rz hrz) (show shp 69 = (5, 16) from rfl) (Nat.lt_of_lt_of_le (Nat.le_of_ble_eq_true rfl : 69 < 152) hN) (by decide) rfl rfl ⟨Nat.le_of_ble_eq_true rfl, Nat.le_of_ble_eq_true rfl⟩ ⟨Nat.le_refl 0, Nat.le_refl 0⟩ (As := []) (st := []) rfl (Nat.le_of_ble_eq_true rfl) (dOk_at dt_X5_line 22 rfl) (fun h_16 _ => ?_)
        refine j_goto hC (tgt := 151) (by decide) (dOk_at dt_X5_line 23 rfl) ?_
        exact b151 h_16 
      refine j_ite (P := s0 = (5 : Int32)) (fun q_17 => ?_) (fun _ => ?_)
      · refine j_tswIn hC (tgt := 107) q_17 (by decide) (by decide) rfl (by decide) (dOk_at dt_X5_line 8 rfl) ?_
        refine j_aload_n hC 0 rfl rfl (dOk_at dt_X5_line 24 rfl) ?_
        refine j_callVv hC clX5_123 (fun rz hrz => c_X5_debateLine hN _ rz hrz) (show shp 69 = (5, 16) from rfl) (Nat.lt_of_lt_of_le (Nat.le_of_ble_eq_true rfl : 69 < 152) hN) (by decide) rfl rfl ⟨Nat.le_of_ble_eq_true rfl, Nat.le_of_ble_eq_true rfl⟩ ⟨Nat.le_refl 0, Nat.le_refl 0⟩ (As := []) (st := []) rfl (Nat.le_of_ble_eq_true rfl) (dOk_at dt_X5_line 25 rfl) (fun h_19 _ => ?_)
        refine j_goto hC (tgt := 151) (by decide) (dOk_at dt_X5_line 26 rfl) ?_
        exact b151 h_19 
      refine j_ite (P := s0 = (6 : Int32)) (fun q_20 => ?_) (fun _ => ?_)
      · refine j_tswIn hC (tgt := 114) q_20 (by decide) (by decide) rfl (by decide) (dOk_at dt_X5_line 8 rfl) ?_
        refine j_aload_n hC 0 rfl rfl (dOk_at dt_X5_line 27 rfl) ?_
        refine j_callVv hC clX5_126 (fun rz hrz => c_X5_stuffLine hN _ rz hrz) (show shp 69 = (5, 16) from rfl) (Nat.lt_of_lt_of_le (Nat.le_of_ble_eq_true rfl : 69 < 152) hN) (by decide) rfl rfl ⟨Nat.le_of_ble_eq_true rfl, Nat.le_of_ble_eq_true rfl⟩ ⟨Nat.le_refl 0, Nat.le_refl 0⟩ (As := []) (st := []) rfl (Nat.le_of_ble_eq_true rfl) (dOk_at dt_X5_line 28 rfl) (fun h_22 _ => ?_)
        refine j_goto hC (tgt := 151) (by decide) (dOk_at dt_X5_line 29 rfl) ?_
        exact b151 h_22 
      refine j_ite (P := s0 = (7 : Int32)) (fun q_23 => ?_) (fun _ => ?_)
      · refine j_tswIn hC (tgt := 121) q_23 (by decide) (by decide) rfl (by decide) (dOk_at dt_X5_line 8 rfl) ?_
        refine j_aload_n hC 0 rfl rfl (dOk_at dt_X5_line 30 rfl) ?_
        refine j_callVv hC clX5_129 (fun rz hrz => c_X5_dampLine hN _ rz hrz) (show shp 69 = (5, 16) from rfl) (Nat.lt_of_lt_of_le (Nat.le_of_ble_eq_true rfl : 69 < 152) hN) (by decide) rfl rfl ⟨Nat.le_of_ble_eq_true rfl, Nat.le_of_ble_eq_true rfl⟩ ⟨Nat.le_refl 0, Nat.le_refl 0⟩ (As := []) (st := []) rfl (Nat.le_of_ble_eq_true rfl) (dOk_at dt_X5_line 31 rfl) (fun h_25 _ => ?_)
        refine j_goto hC (tgt := 151) (by decide) (dOk_at dt_X5_line 32 rfl) ?_
        exact b151 h_25 
      refine j_ite (P := s0 = (8 : Int32)) (fun q_26 => ?_) (fun _ => ?_)
      · refine j_tswIn hC (tgt := 128) q_26 (by decide) (by decide) rfl (by decide) (dOk_at dt_X5_line 8 rfl) ?_
        refine j_aload_n hC 0 rfl rfl (dOk_at dt_X5_line 33 rfl) ?_
        refine j_callVv hC clX5_132 (fun rz hrz => c_X5_seedLine hN _ rz hrz) (show shp 69 = (5, 16) from rfl) (Nat.lt_of_lt_of_le (Nat.le_of_ble_eq_true rfl : 69 < 152) hN) (by decide) rfl rfl ⟨Nat.le_of_ble_eq_true rfl, Nat.le_of_ble_eq_true rfl⟩ ⟨Nat.le_refl 0, Nat.le_refl 0⟩ (As := []) (st := []) rfl (Nat.le_of_ble_eq_true rfl) (dOk_at dt_X5_line 34 rfl) (fun h_28 _ => ?_)
        refine j_goto hC (tgt := 151) (by decide) (dOk_at dt_X5_line 35 rfl) ?_
        exact b151 h_28 
      refine j_ite (P := s0 = (9 : Int32)) (fun q_29 => ?_) (fun _ => ?_)
      · refine j_tswIn hC (tgt := 135) q_29 (by decide) (by decide) rfl (by decide) (dOk_at dt_X5_line 8 rfl) ?_
        refine j_aload_n hC 0 rfl rfl (dOk_at dt_X5_line 36 rfl) ?_
        refine j_callVv hC clX5_135 (fun rz hrz => c_X5_lawLine hN hG _ rz hrz) (show shp 69 = (5, 16) from rfl) (Nat.lt_of_lt_of_le (Nat.le_of_ble_eq_true rfl : 69 < 152) hN) (by decide) rfl rfl ⟨Nat.le_of_ble_eq_true rfl, Nat.le_of_ble_eq_true rfl⟩ ⟨Nat.le_refl 0, Nat.le_refl 0⟩ (As := []) (st := []) rfl (Nat.le_of_ble_eq_true rfl) (dOk_at dt_X5_line 37 rfl) (fun h_31 _ => ?_)
        refine j_goto hC (tgt := 151) (by decide) (dOk_at dt_X5_line 38 rfl) ?_
        exact b151 h_31 
      exact j_none
    · refine j_tswOut hC (tgt := 142) q (by decide) (dOk_at dt_X5_line 8 rfl) ?_
      refine j_aload_n hC 0 rfl rfl (dOk_at dt_X5_line 39 rfl) ?_
      refine j_iconst hC (v := (1 : Int32)) rfl (dOk_at dt_X5_line 40 rfl) ?_
      refine j_aload_n hC 0 rfl rfl (dOk_at dt_X5_line 41 rfl) ?_
      refine j_getI hC flX5_70 (show shp 69 = (5, 16) from rfl) (Nat.lt_of_lt_of_le (Nat.le_of_ble_eq_true rfl : 69 < 152) hN) (by decide) (by decide) (fun _ _ _ => rfl) (dOk_at dt_X5_line 42 rfl) ?_
      refine j_callVv hC clX5_138 (fun rz hrz => c_X5_fail hN _ _ _ rz hrz) (show shp 69 = (5, 16) from rfl) (Nat.lt_of_lt_of_le (Nat.le_of_ble_eq_true rfl : 69 < 152) hN) (by decide) rfl rfl ⟨Nat.le_of_ble_eq_true rfl, Nat.le_of_ble_eq_true rfl⟩ ⟨Nat.le_refl 0, Nat.le_refl 0⟩ (As := [.int (1 : Int32), .int (hI h 69 8)]) (st := []) rfl (Nat.le_of_ble_eq_true rfl) (dOk_at dt_X5_line 43 rfl) (fun h_33 _ => ?_)
      exact b151 h_33 
  unfold fX5_line
  refine j_aload_n hC 0 rfl rfl (dOk_at dt_X5_line 0 rfl) ?_
  refine j_getI hC flX5_79 (show shp 69 = (5, 16) from rfl) (Nat.lt_of_lt_of_le (Nat.le_of_ble_eq_true rfl : 69 < 152) hN) (by decide) (by decide) (fun _ _ _ => rfl) (dOk_at dt_X5_line 1 rfl) ?_
  refine j_iconst hC (v := (3 : Int32)) rfl (dOk_at dt_X5_line 2 rfl) ?_
  refine j_icmp_ne hC (tgt := 15) (by decide) (dOk_at dt_X5_line 3 rfl) (fun q_1 => ?_) (fun q_1 => ?_)
  · refine j_iconst hC (v := (-1 : Int32)) rfl (dOk_at dt_X5_line 7 rfl) ?_
    exact b16 h (-1 : Int32) 
  · refine j_aload_n hC 0 rfl rfl (dOk_at dt_X5_line 4 rfl) ?_
    refine j_getI hC flX5_88 (show shp 69 = (5, 16) from rfl) (Nat.lt_of_lt_of_le (Nat.le_of_ble_eq_true rfl : 69 < 152) hN) (by decide) (by decide) (fun _ _ _ => rfl) (dOk_at dt_X5_line 5 rfl) ?_
    refine j_goto hC (tgt := 16) (by decide) (dOk_at dt_X5_line 6 rfl) ?_
    exact b16 h (hI h 69 11) 
def tb_X8_goPlainly : List (Nat × Instr × Nat) := [(0, .aload_n 0, 1), (1, .iconst 1, 1), (2, .putfield 32, 3), (5, .aload_n 0, 1), (6, .iconst 0, 1), (7, .putfield 78, 3), (10, .aload_n 0, 1), (11, .iconst 0, 1), (12, .putfield 81, 3), (15, .aload_n 0, 1), (16, .iconst 0, 1), (17, .putfield 84, 3), (20, .aload_n 0, 1), (21, .iconst (-1), 1), (22, .putfield 36, 3), (25, .return_, 1)]
theorem dt_X8_goPlainly : dOk cX8_goPlainly tb_X8_goPlainly = true := by decide +kernel
def fX8_goPlainly (tt : Nat) (h : Hp) : Option (Hp) := some (uI (uI (uI (uI (uI h tt 10 (1 : Int32)) tt 11 (0 : Int32)) tt 12 (0 : Int32)) tt 13 (0 : Int32)) tt 14 (-1 : Int32))
set_option maxRecDepth 100000 in
set_option maxHeartbeats 4000000 in
theorem c_X8_goPlainly {l : Launch} {sb : State} {D : va_G} {ids : Nat → ClassId} {n : Nat} (hN : 152 ≤ n) {tt : Nat} (ht : shp tt = (8, 15)) (h : Hp) (r : Hp) (hr : fX8_goPlainly tt h = some r) : jM l yX8_goPlainly cX8_goPlainly 1 none 0 sb D ids shp St n [.ref tt] h (jQv sb D ids shp St n r) := by
  refine jM_of hr rfl (Nat.le_of_ble_eq_true rfl) ?_
  intro p e s m args below meth c hC hret
  unfold fX8_goPlainly
  refine j_aload_n hC 0 rfl rfl (dOk_at dt_X8_goPlainly 0 rfl) ?_
  refine j_iconst hC (v := (1 : Int32)) rfl (dOk_at dt_X8_goPlainly 1 rfl) ?_
  refine j_putZ hC St_SP flX8_32 ht (jlt hN ht (by decide)) (by decide) (by decide) rfl rfl rfl (dOk_at dt_X8_goPlainly 2 rfl) ?_
  refine j_aload_n hC 0 rfl rfl (dOk_at dt_X8_goPlainly 3 rfl) ?_
  refine j_iconst hC (v := (0 : Int32)) rfl (dOk_at dt_X8_goPlainly 4 rfl) ?_
  refine j_putZ hC St_SP flX8_78 ht (jlt hN ht (by decide)) (by decide) (by decide) rfl rfl rfl (dOk_at dt_X8_goPlainly 5 rfl) ?_
  refine j_aload_n hC 0 rfl rfl (dOk_at dt_X8_goPlainly 6 rfl) ?_
  refine j_iconst hC (v := (0 : Int32)) rfl (dOk_at dt_X8_goPlainly 7 rfl) ?_
  refine j_putZ hC St_SP flX8_81 ht (jlt hN ht (by decide)) (by decide) (by decide) rfl rfl rfl (dOk_at dt_X8_goPlainly 8 rfl) ?_
  refine j_aload_n hC 0 rfl rfl (dOk_at dt_X8_goPlainly 9 rfl) ?_
  refine j_iconst hC (v := (0 : Int32)) rfl (dOk_at dt_X8_goPlainly 10 rfl) ?_
  refine j_putZ hC St_SP flX8_84 ht (jlt hN ht (by decide)) (by decide) (by decide) rfl rfl rfl (dOk_at dt_X8_goPlainly 11 rfl) ?_
  refine j_aload_n hC 0 rfl rfl (dOk_at dt_X8_goPlainly 12 rfl) ?_
  refine j_iconst hC (v := (-1 : Int32)) rfl (dOk_at dt_X8_goPlainly 13 rfl) ?_
  refine j_putI hC St_SP flX8_36 ht (jlt hN ht (by decide)) (by decide) (by decide) rfl rfl (dOk_at dt_X8_goPlainly 14 rfl) ?_
  exact j_vret hC hret (dOk_at dt_X8_goPlainly 15 rfl)
