def tb_X0_clear : List (Nat × Instr × Nat) := [(0, .aload_n 0, 1), (1, .getfield 14, 3), (4, .iconst 0, 1), (5, .putfield 55, 3), (8, .aload_n 0, 1), (9, .iconst 0, 1), (10, .putfield 33, 3), (13, .iconst 0, 1), (14, .istore_n 1, 1), (15, .iload_n 1, 1), (16, .bipush 8, 2), (18, .if_icmp .ge 23, 3), (21, .aload_n 0, 1), (22, .getfield 27, 3), (25, .iload_n 1, 1), (26, .iconst 0, 1), (27, .iastore, 1), (28, .aload_n 0, 1), (29, .getfield 30, 3), (32, .iload_n 1, 1), (33, .iconst 0, 1), (34, .iastore, 1), (35, .iinc 1 1, 3), (38, .goto (-23), 3), (41, .return_, 1)]
theorem dt_X0_clear : dOk cX0_clear tb_X0_clear = true := by decide +kernel
def fX0_clear_15 : Nat → (Nat) → Hp → Int32 → Option (Hp)
  | 0, _, _, _ => none
  | fu + 1, tt, h, x1 => if (8 : Int32) ≤ x1 then (some h) else (if inb x1 8 then (if inb x1 8 then ((fX0_clear_15 fu tt) (uI (uI h (rf tt 3) (Int32.toNatClampNeg x1) (0 : Int32)) (rf tt 4) (Int32.toNatClampNeg x1) (0 : Int32)) (x1 + (1 : Int32))) else none) else none)
def fX0_clear (tt : Nat) (h : Hp) : Option (Hp) := fX0_clear_15 FU tt (uI (uI h (rf tt 0) 2 (0 : Int32)) tt 5 (0 : Int32)) (0 : Int32)
set_option maxRecDepth 100000 in
set_option maxHeartbeats 4000000 in
theorem c_X0_clear {l : Launch} {sb : State} {D : va_G} {ids : Nat → ClassId} {n : Nat} (hN : 152 ≤ n) {tt : Nat} (ht : shp tt = (0, 12)) (h : Hp) (r : Hp) (hr : fX0_clear tt h = some r) : jM l yX0_clear cX0_clear 2 none 0 sb D ids shp St n [.ref tt] h (jQv sb D ids shp St n r) := by
  refine jM_of hr rfl (Nat.le_of_ble_eq_true rfl) ?_
  intro p e s m args below meth c hC hret
  have b15 : ∀ (fu : Nat) (h : Hp) (x1 : Int32) , jJ p l e (rmD 0) s m args below meth c 2 sb D ids shp St (fun r => MQ below (jQv sb D ids shp St n r) args s 0 0 (jA sb)) n 0 0 h 15 [(0, .ref tt), (1, .int x1)] [] (fX0_clear_15 fu tt h x1) := by
    intro fu 
    induction fu with
    | zero => intro h x1 ; exact j_none
    | succ fu ih =>
    intro h x1 
    rw [fX0_clear_15]
    refine j_iload_n hC 1 rfl rfl (dOk_at dt_X0_clear 9 rfl) ?_
    refine j_bipush hC (v := (8 : Int32)) rfl (dOk_at dt_X0_clear 10 rfl) ?_
    refine j_icmp_ge hC (tgt := 41) (by decide) (dOk_at dt_X0_clear 11 rfl) (fun q_1 => ?_) (fun q_1 => ?_)
    · exact j_vret hC hret (dOk_at dt_X0_clear 24 rfl)
    · refine j_aload_n hC 0 rfl rfl (dOk_at dt_X0_clear 12 rfl) ?_
      refine j_getR hC flX0_27 ht (jlt hN ht (by decide)) (by decide) (by decide) (fun _ _ _ => rfl) (fun hs => hs _ _ _ (sf_0_3 ht).1) (dOk_at dt_X0_clear 13 rfl) ?_
      refine j_iload_n hC 1 rfl rfl (dOk_at dt_X0_clear 14 rfl) ?_
      refine j_iconst hC (v := (0 : Int32)) rfl (dOk_at dt_X0_clear 15 rfl) ?_
      refine j_iast hC St_SP (sf_0_3 ht).2.1 (Nat.lt_of_lt_of_le (sf_0_3 ht).2.2 hN) (dOk_at dt_X0_clear 16 rfl) ?_
      refine j_aload_n hC 0 rfl rfl (dOk_at dt_X0_clear 17 rfl) ?_
      refine j_getR hC flX0_30 ht (jlt hN ht (by decide)) (by decide) (by decide) (fun _ _ _ => rfl) (fun hs => hs _ _ _ (sf_0_4 ht).1) (dOk_at dt_X0_clear 18 rfl) ?_
      refine j_iload_n hC 1 rfl rfl (dOk_at dt_X0_clear 19 rfl) ?_
      refine j_iconst hC (v := (0 : Int32)) rfl (dOk_at dt_X0_clear 20 rfl) ?_
      refine j_iast hC St_SP (sf_0_4 ht).2.1 (Nat.lt_of_lt_of_le (sf_0_4 ht).2.2 hN) (dOk_at dt_X0_clear 21 rfl) ?_
      refine j_iinc hC (v := (x1 + (1 : Int32))) (lv' := [(1, .int (x1 + (1 : Int32))), (0, .ref tt)]) 1 rfl (congrArg (fun z => x1 + z) (show Int32.ofInt (1) = (1 : Int32) from by decide)) (by decide) rfl (dOk_at dt_X0_clear 22 rfl) ?_
      refine j_goto hC (tgt := 15) (by decide) (dOk_at dt_X0_clear 23 rfl) ?_
      refine j_sub [1, 0] rfl ?_
      exact ih (uI (uI h (rf tt 3) (Int32.toNatClampNeg x1) (0 : Int32)) (rf tt 4) (Int32.toNatClampNeg x1) (0 : Int32)) (x1 + (1 : Int32)) 
  unfold fX0_clear
  refine j_aload_n hC 0 rfl rfl (dOk_at dt_X0_clear 0 rfl) ?_
  refine j_getR hC flX0_14 ht (jlt hN ht (by decide)) (by decide) (by decide) (fun _ _ _ => rfl) (fun hs => hs _ _ _ (sf_0_0 ht).1) (dOk_at dt_X0_clear 1 rfl) ?_
  refine j_iconst hC (v := (0 : Int32)) rfl (dOk_at dt_X0_clear 2 rfl) ?_
  refine j_putI hC St_SP flX0_55 (sf_0_0 ht).2.1 (Nat.lt_of_lt_of_le (sf_0_0 ht).2.2 hN) (by decide) (by decide) rfl rfl (dOk_at dt_X0_clear 3 rfl) ?_
  refine j_aload_n hC 0 rfl rfl (dOk_at dt_X0_clear 4 rfl) ?_
  refine j_iconst hC (v := (0 : Int32)) rfl (dOk_at dt_X0_clear 5 rfl) ?_
  refine j_putI hC St_SP flX0_33 ht (jlt hN ht (by decide)) (by decide) (by decide) rfl rfl (dOk_at dt_X0_clear 6 rfl) ?_
  refine j_iconst hC (v := (0 : Int32)) rfl (dOk_at dt_X0_clear 7 rfl) ?_
  refine j_istore_n hC rfl (lv' := [(1, .int (0 : Int32)), (0, .ref tt)]) (by decide) rfl (dOk_at dt_X0_clear 8 rfl) ?_
  refine j_sub [1, 0] rfl ?_
  exact b15 FU (uI (uI h (rf tt 0) 2 (0 : Int32)) tt 5 (0 : Int32)) (0 : Int32) 
def tb_X6_hasRoom : List (Nat × Instr × Nat) := [(0, .aload_n 0, 1), (1, .getfield 19, 3), (4, .aload_n 0, 1), (5, .getfield 15, 3), (8, .if_icmp .ge 19, 3), (11, .aload_n 0, 1), (12, .getfield 19, 3), (15, .aload_n 0, 1), (16, .getfield 9, 3), (19, .arraylength, 1), (20, .if_icmp .ge 7, 3), (23, .iconst 1, 1), (24, .goto 4, 3), (27, .iconst 0, 1), (28, .ireturn, 1)]
theorem dt_X6_hasRoom : dOk cX6_hasRoom tb_X6_hasRoom = true := by decide +kernel
def fX6_hasRoom (tt : Nat) (h : Hp) : Option (Int32 × Hp) := if (hI h tt 1) ≤ (hI h tt 2) then (some ((0 : Int32), h)) else (if (8 : Int32) ≤ (hI h tt 2) then (some ((0 : Int32), h)) else (some ((1 : Int32), h)))
set_option maxRecDepth 100000 in
set_option maxHeartbeats 4000000 in
theorem c_X6_hasRoom {l : Launch} {sb : State} {D : va_G} {ids : Nat → ClassId} {n : Nat} (hN : 152 ≤ n) {tt : Nat} (ht : shp tt = (6, 3)) (h : Hp) (r : Int32 × Hp) (hr : fX6_hasRoom tt h = some r) : jM l yX6_hasRoom cX6_hasRoom 1 (some .boolean) 0 sb D ids shp St n [.ref tt] h (jQi sb D ids shp St n r) := by
  refine jM_of hr rfl (Nat.le_of_ble_eq_true rfl) ?_
  intro p e s m args below meth c hC hret
  unfold fX6_hasRoom
  refine j_aload_n hC 0 rfl rfl (dOk_at dt_X6_hasRoom 0 rfl) ?_
  refine j_getI hC flX6_19 ht (jlt hN ht (by decide)) (by decide) (by decide) (fun _ _ _ => rfl) (dOk_at dt_X6_hasRoom 1 rfl) ?_
  refine j_aload_n hC 0 rfl rfl (dOk_at dt_X6_hasRoom 2 rfl) ?_
  refine j_getI hC flX6_15 ht (jlt hN ht (by decide)) (by decide) (by decide) (fun _ _ _ => rfl) (dOk_at dt_X6_hasRoom 3 rfl) ?_
  refine j_icmp_ge hC (tgt := 27) (by decide) (dOk_at dt_X6_hasRoom 4 rfl) (fun q_1 => ?_) (fun q_1 => ?_)
  · refine j_iconst hC (v := (0 : Int32)) rfl (dOk_at dt_X6_hasRoom 13 rfl) ?_
    exact j_zretK hC hret rfl (dOk_at dt_X6_hasRoom 14 rfl)
  · refine j_aload_n hC 0 rfl rfl (dOk_at dt_X6_hasRoom 5 rfl) ?_
    refine j_getI hC flX6_19 ht (jlt hN ht (by decide)) (by decide) (by decide) (fun _ _ _ => rfl) (dOk_at dt_X6_hasRoom 6 rfl) ?_
    refine j_aload_n hC 0 rfl rfl (dOk_at dt_X6_hasRoom 7 rfl) ?_
    refine j_getR hC flX6_9 ht (jlt hN ht (by decide)) (by decide) (by decide) (fun _ _ _ => rfl) (fun hs => hs _ _ _ (sf_6_0 ht).1) (dOk_at dt_X6_hasRoom 8 rfl) ?_
    refine j_alen hC (v := (8 : Int32)) (sf_6_0 ht).2.1 (Nat.lt_of_lt_of_le (sf_6_0 ht).2.2 hN) (by decide) rfl (dOk_at dt_X6_hasRoom 9 rfl) ?_
    refine j_icmp_ge hC (tgt := 27) (by decide) (dOk_at dt_X6_hasRoom 10 rfl) (fun q_2 => ?_) (fun q_2 => ?_)
    · refine j_iconst hC (v := (0 : Int32)) rfl (dOk_at dt_X6_hasRoom 13 rfl) ?_
      exact j_zretK hC hret rfl (dOk_at dt_X6_hasRoom 14 rfl)
    · refine j_iconst hC (v := (1 : Int32)) rfl (dOk_at dt_X6_hasRoom 11 rfl) ?_
      refine j_goto hC (tgt := 28) (by decide) (dOk_at dt_X6_hasRoom 12 rfl) ?_
      exact j_zretK hC hret rfl (dOk_at dt_X6_hasRoom 14 rfl)
def tb_X6_add : List (Nat × Instr × Nat) := [(0, .aload_n 0, 1), (1, .invokevirtual 22, 3), (4, .ifCond .eq 23, 3), (7, .aload_n 0, 1), (8, .getfield 9, 3), (11, .aload_n 0, 1), (12, .getfield 19, 3), (15, .iload_n 1, 1), (16, .iastore, 1), (17, .aload_n 0, 1), (18, .dup, 1), (19, .getfield 19, 3), (22, .iconst 1, 1), (23, .iadd, 1), (24, .putfield 19, 3), (27, .return_, 1)]
theorem dt_X6_add : dOk cX6_add tb_X6_add = true := by decide +kernel
def fX6_add (tt : Nat) (h : Hp) (x1 : Int32) : Option (Hp) := bnd (fX6_hasRoom tt h) (fun v_1 h_2 => if v_1 = 0 then (some h_2) else (if inb (hI h_2 tt 2) 8 then (some (uI (uI h_2 (rf tt 0) (Int32.toNatClampNeg (hI h_2 tt 2)) x1) tt 2 ((hI (uI h_2 (rf tt 0) (Int32.toNatClampNeg (hI h_2 tt 2)) x1) tt 2) + (1 : Int32)))) else none))
set_option maxRecDepth 100000 in
set_option maxHeartbeats 4000000 in
theorem c_X6_add {l : Launch} {sb : State} {D : va_G} {ids : Nat → ClassId} {n : Nat} (hN : 152 ≤ n) {tt : Nat} (ht : shp tt = (6, 3)) (h : Hp) (x1 : Int32) (r : Hp) (hr : fX6_add tt h x1 = some r) : jM l yX6_add cX6_add 2 none 1 sb D ids shp St n [.ref tt, .int x1] h (jQv sb D ids shp St n r) := by
  refine jM_of hr rfl (Nat.le_of_ble_eq_true rfl) ?_
  intro p e s m args below meth c hC hret
  unfold fX6_add
  refine j_aload_n hC 0 rfl rfl (dOk_at dt_X6_add 0 rfl) ?_
  refine j_callVi hC clX6_22 (fun rz hrz => c_X6_hasRoom hN (ht) _ rz hrz) ht (jlt hN ht (by decide)) (by decide) rfl rfl ⟨Nat.le_of_ble_eq_true rfl, Nat.le_of_ble_eq_true rfl⟩ ⟨Nat.le_refl 0, Nat.le_refl 0⟩ (As := []) (st := []) rfl (Nat.le_of_ble_eq_true rfl) (dOk_at dt_X6_add 1 rfl) (fun v_1 h_2 _ => ?_)
  refine j_if_eq hC (tgt := 27) (by decide) (dOk_at dt_X6_add 2 rfl) (fun q_3 => ?_) (fun q_3 => ?_)
  · exact j_vret hC hret (dOk_at dt_X6_add 15 rfl)
  · refine j_aload_n hC 0 rfl rfl (dOk_at dt_X6_add 3 rfl) ?_
    refine j_getR hC flX6_9 ht (jlt hN ht (by decide)) (by decide) (by decide) (fun _ _ _ => rfl) (fun hs => hs _ _ _ (sf_6_0 ht).1) (dOk_at dt_X6_add 4 rfl) ?_
    refine j_aload_n hC 0 rfl rfl (dOk_at dt_X6_add 5 rfl) ?_
    refine j_getI hC flX6_19 ht (jlt hN ht (by decide)) (by decide) (by decide) (fun _ _ _ => rfl) (dOk_at dt_X6_add 6 rfl) ?_
    refine j_iload_n hC 1 rfl rfl (dOk_at dt_X6_add 7 rfl) ?_
    refine j_iast hC St_SP (sf_6_0 ht).2.1 (Nat.lt_of_lt_of_le (sf_6_0 ht).2.2 hN) (dOk_at dt_X6_add 8 rfl) ?_
    refine j_aload_n hC 0 rfl rfl (dOk_at dt_X6_add 9 rfl) ?_
    refine j_dupr hC (dOk_at dt_X6_add 10 rfl) ?_
    refine j_getI hC flX6_19 ht (jlt hN ht (by decide)) (by decide) (by decide) (fun _ _ _ => rfl) (dOk_at dt_X6_add 11 rfl) ?_
    refine j_iconst hC (v := (1 : Int32)) rfl (dOk_at dt_X6_add 12 rfl) ?_
    refine j_iadd hC (dOk_at dt_X6_add 13 rfl) ?_
    refine j_putI hC St_SP flX6_19 ht (jlt hN ht (by decide)) (by decide) (by decide) rfl rfl (dOk_at dt_X6_add 14 rfl) ?_
    exact j_vret hC hret (dOk_at dt_X6_add 15 rfl)
def tb_X0_add : List (Nat × Instr × Nat) := [(0, .aload_n 0, 1), (1, .getfield 14, 3), (4, .invokevirtual 58, 3), (7, .ifCond .eq 37, 3), (10, .aload_n 0, 1), (11, .getfield 20, 3), (14, .aload_n 0, 1), (15, .getfield 14, 3), (18, .getfield 55, 3), (21, .iload_n 2, 1), (22, .iastore, 1), (23, .aload_n 0, 1), (24, .getfield 24, 3), (27, .aload_n 0, 1), (28, .getfield 14, 3), (31, .getfield 55, 3), (34, .iload_n 3, 1), (35, .iastore, 1), (36, .aload_n 0, 1), (37, .getfield 14, 3), (40, .iload_n 1, 1), (41, .invokevirtual 62, 3), (44, .return_, 1)]
theorem dt_X0_add : dOk cX0_add tb_X0_add = true := by decide +kernel
def fX0_add (tt : Nat) (h : Hp) (x1 : Int32) (x2 : Int32) (x3 : Int32) : Option (Hp) := bnd (fX6_hasRoom (rf tt 0) h) (fun v_1 h_2 => if v_1 = 0 then (some h_2) else (if inb (hI h_2 (rf tt 0) 2) 8 then (if inb (hI (uI h_2 (rf tt 1) (Int32.toNatClampNeg (hI h_2 (rf tt 0) 2)) x2) (rf tt 0) 2) 8 then ((fX6_add (rf tt 0) (uI (uI h_2 (rf tt 1) (Int32.toNatClampNeg (hI h_2 (rf tt 0) 2)) x2) (rf tt 2) (Int32.toNatClampNeg (hI (uI h_2 (rf tt 1) (Int32.toNatClampNeg (hI h_2 (rf tt 0) 2)) x2) (rf tt 0) 2)) x3) x1).bind (fun h_5 => some h_5)) else none) else none))
set_option maxRecDepth 100000 in
set_option maxHeartbeats 4000000 in
theorem c_X0_add {l : Launch} {sb : State} {D : va_G} {ids : Nat → ClassId} {n : Nat} (hN : 152 ≤ n) {tt : Nat} (ht : shp tt = (0, 12)) (h : Hp) (x1 : Int32) (x2 : Int32) (x3 : Int32) (r : Hp) (hr : fX0_add tt h x1 x2 x3 = some r) : jM l yX0_add cX0_add 4 none 2 sb D ids shp St n [.ref tt, .int x1, .int x2, .int x3] h (jQv sb D ids shp St n r) := by
  refine jM_of hr rfl (Nat.le_of_ble_eq_true rfl) ?_
  intro p e s m args below meth c hC hret
  unfold fX0_add
  refine j_aload_n hC 0 rfl rfl (dOk_at dt_X0_add 0 rfl) ?_
  refine j_getR hC flX0_14 ht (jlt hN ht (by decide)) (by decide) (by decide) (fun _ _ _ => rfl) (fun hs => hs _ _ _ (sf_0_0 ht).1) (dOk_at dt_X0_add 1 rfl) ?_
  refine j_callVi hC clX0_58 (fun rz hrz => c_X6_hasRoom hN ((sf_0_0 ht).2.1) _ rz hrz) (sf_0_0 ht).2.1 (Nat.lt_of_lt_of_le (sf_0_0 ht).2.2 hN) (by decide) rfl rfl ⟨Nat.le_of_ble_eq_true rfl, Nat.le_of_ble_eq_true rfl⟩ ⟨Nat.le_refl 0, Nat.le_refl 0⟩ (As := []) (st := []) rfl (Nat.le_of_ble_eq_true rfl) (dOk_at dt_X0_add 2 rfl) (fun v_1 h_2 _ => ?_)
  refine j_if_eq hC (tgt := 44) (by decide) (dOk_at dt_X0_add 3 rfl) (fun q_3 => ?_) (fun q_3 => ?_)
  · exact j_vret hC hret (dOk_at dt_X0_add 22 rfl)
  · refine j_aload_n hC 0 rfl rfl (dOk_at dt_X0_add 4 rfl) ?_
    refine j_getR hC flX0_20 ht (jlt hN ht (by decide)) (by decide) (by decide) (fun _ _ _ => rfl) (fun hs => hs _ _ _ (sf_0_1 ht).1) (dOk_at dt_X0_add 5 rfl) ?_
    refine j_aload_n hC 0 rfl rfl (dOk_at dt_X0_add 6 rfl) ?_
    refine j_getR hC flX0_14 ht (jlt hN ht (by decide)) (by decide) (by decide) (fun _ _ _ => rfl) (fun hs => hs _ _ _ (sf_0_0 ht).1) (dOk_at dt_X0_add 7 rfl) ?_
    refine j_getI hC flX0_55 (sf_0_0 ht).2.1 (Nat.lt_of_lt_of_le (sf_0_0 ht).2.2 hN) (by decide) (by decide) (fun _ _ _ => rfl) (dOk_at dt_X0_add 8 rfl) ?_
    refine j_iload_n hC 2 rfl rfl (dOk_at dt_X0_add 9 rfl) ?_
    refine j_iast hC St_SP (sf_0_1 ht).2.1 (Nat.lt_of_lt_of_le (sf_0_1 ht).2.2 hN) (dOk_at dt_X0_add 10 rfl) ?_
    refine j_aload_n hC 0 rfl rfl (dOk_at dt_X0_add 11 rfl) ?_
    refine j_getR hC flX0_24 ht (jlt hN ht (by decide)) (by decide) (by decide) (fun _ _ _ => rfl) (fun hs => hs _ _ _ (sf_0_2 ht).1) (dOk_at dt_X0_add 12 rfl) ?_
    refine j_aload_n hC 0 rfl rfl (dOk_at dt_X0_add 13 rfl) ?_
    refine j_getR hC flX0_14 ht (jlt hN ht (by decide)) (by decide) (by decide) (fun _ _ _ => rfl) (fun hs => hs _ _ _ (sf_0_0 ht).1) (dOk_at dt_X0_add 14 rfl) ?_
    refine j_getI hC flX0_55 (sf_0_0 ht).2.1 (Nat.lt_of_lt_of_le (sf_0_0 ht).2.2 hN) (by decide) (by decide) (fun _ _ _ => rfl) (dOk_at dt_X0_add 15 rfl) ?_
    refine j_iload_n hC 3 rfl rfl (dOk_at dt_X0_add 16 rfl) ?_
    refine j_iast hC St_SP (sf_0_2 ht).2.1 (Nat.lt_of_lt_of_le (sf_0_2 ht).2.2 hN) (dOk_at dt_X0_add 17 rfl) ?_
    refine j_aload_n hC 0 rfl rfl (dOk_at dt_X0_add 18 rfl) ?_
    refine j_getR hC flX0_14 ht (jlt hN ht (by decide)) (by decide) (by decide) (fun _ _ _ => rfl) (fun hs => hs _ _ _ (sf_0_0 ht).1) (dOk_at dt_X0_add 19 rfl) ?_
    refine j_iload_n hC 1 rfl rfl (dOk_at dt_X0_add 20 rfl) ?_
    refine j_callVv hC clX0_62 (fun rz hrz => c_X6_add hN ((sf_0_0 ht).2.1) _ _ rz hrz) (sf_0_0 ht).2.1 (Nat.lt_of_lt_of_le (sf_0_0 ht).2.2 hN) (by decide) rfl rfl ⟨Nat.le_of_ble_eq_true rfl, Nat.le_of_ble_eq_true rfl⟩ ⟨Nat.le_refl 0, Nat.le_refl 0⟩ (As := [.int x1]) (st := []) rfl (Nat.le_of_ble_eq_true rfl) (dOk_at dt_X0_add 21 rfl) (fun h_5 _ => ?_)
    exact j_vret hC hret (dOk_at dt_X0_add 22 rfl)
def tb_X0_isOne : List (Nat × Instr × Nat) := [(0, .iload_n 1, 1), (1, .ifCond .lt 24, 3), (4, .iload_n 1, 1), (5, .aload_n 0, 1), (6, .getfield 14, 3), (9, .getfield 55, 3), (12, .if_icmp .ge 13, 3), (15, .iload_n 1, 1), (16, .bipush 8, 2), (18, .if_icmp .ge 7, 3), (21, .iconst 1, 1), (22, .goto 4, 3), (25, .iconst 0, 1), (26, .ireturn, 1)]
theorem dt_X0_isOne : dOk cX0_isOne tb_X0_isOne = true := by decide +kernel
def fX0_isOne (tt : Nat) (h : Hp) (x1 : Int32) : Option (Int32 × Hp) := if x1 < 0 then (some ((0 : Int32), h)) else (if (hI h (rf tt 0) 2) ≤ x1 then (some ((0 : Int32), h)) else (if (8 : Int32) ≤ x1 then (some ((0 : Int32), h)) else (some ((1 : Int32), h))))
set_option maxRecDepth 100000 in
set_option maxHeartbeats 4000000 in
theorem c_X0_isOne {l : Launch} {sb : State} {D : va_G} {ids : Nat → ClassId} {n : Nat} (hN : 152 ≤ n) {tt : Nat} (ht : shp tt = (0, 12)) (h : Hp) (x1 : Int32) (r : Int32 × Hp) (hr : fX0_isOne tt h x1 = some r) : jM l yX0_isOne cX0_isOne 2 (some .boolean) 0 sb D ids shp St n [.ref tt, .int x1] h (jQi sb D ids shp St n r) := by
  refine jM_of hr rfl (Nat.le_of_ble_eq_true rfl) ?_
  intro p e s m args below meth c hC hret
  unfold fX0_isOne
  refine j_iload_n hC 1 rfl rfl (dOk_at dt_X0_isOne 0 rfl) ?_
  refine j_if_lt hC (tgt := 25) (by decide) (dOk_at dt_X0_isOne 1 rfl) (fun q_1 => ?_) (fun q_1 => ?_)
  · refine j_iconst hC (v := (0 : Int32)) rfl (dOk_at dt_X0_isOne 12 rfl) ?_
    exact j_zretK hC hret rfl (dOk_at dt_X0_isOne 13 rfl)
  · refine j_iload_n hC 1 rfl rfl (dOk_at dt_X0_isOne 2 rfl) ?_
    refine j_aload_n hC 0 rfl rfl (dOk_at dt_X0_isOne 3 rfl) ?_
    refine j_getR hC flX0_14 ht (jlt hN ht (by decide)) (by decide) (by decide) (fun _ _ _ => rfl) (fun hs => hs _ _ _ (sf_0_0 ht).1) (dOk_at dt_X0_isOne 4 rfl) ?_
    refine j_getI hC flX0_55 (sf_0_0 ht).2.1 (Nat.lt_of_lt_of_le (sf_0_0 ht).2.2 hN) (by decide) (by decide) (fun _ _ _ => rfl) (dOk_at dt_X0_isOne 5 rfl) ?_
    refine j_icmp_ge hC (tgt := 25) (by decide) (dOk_at dt_X0_isOne 6 rfl) (fun q_2 => ?_) (fun q_2 => ?_)
    · refine j_iconst hC (v := (0 : Int32)) rfl (dOk_at dt_X0_isOne 12 rfl) ?_
      exact j_zretK hC hret rfl (dOk_at dt_X0_isOne 13 rfl)
    · refine j_iload_n hC 1 rfl rfl (dOk_at dt_X0_isOne 7 rfl) ?_
      refine j_bipush hC (v := (8 : Int32)) rfl (dOk_at dt_X0_isOne 8 rfl) ?_
      refine j_icmp_ge hC (tgt := 25) (by decide) (dOk_at dt_X0_isOne 9 rfl) (fun q_3 => ?_) (fun q_3 => ?_)
      · refine j_iconst hC (v := (0 : Int32)) rfl (dOk_at dt_X0_isOne 12 rfl) ?_
        exact j_zretK hC hret rfl (dOk_at dt_X0_isOne 13 rfl)
      · refine j_iconst hC (v := (1 : Int32)) rfl (dOk_at dt_X0_isOne 10 rfl) ?_
        refine j_goto hC (tgt := 26) (by decide) (dOk_at dt_X0_isOne 11 rfl) ?_
        exact j_zretK hC hret rfl (dOk_at dt_X0_isOne 13 rfl)
def tb_X0_addContra : List (Nat × Instr × Nat) := [(0, .aload_n 0, 1), (1, .getfield 33, 3), (4, .bipush 16, 2), (6, .if_icmp .ge 73, 3), (9, .aload_n 0, 1), (10, .iload_n 1, 1), (11, .invokevirtual 65, 3), (14, .ifCond .eq 65, 3), (17, .aload_n 0, 1), (18, .iload_n 2, 1), (19, .invokevirtual 65, 3), (22, .ifCond .eq 57, 3), (25, .aload_n 0, 1), (26, .getfield 37, 3), (29, .aload_n 0, 1), (30, .getfield 33, 3), (33, .iload_n 1, 1), (34, .iastore, 1), (35, .aload_n 0, 1), (36, .getfield 40, 3), (39, .aload_n 0, 1), (40, .getfield 33, 3), (43, .iload_n 2, 1), (44, .iastore, 1), (45, .aload_n 0, 1), (46, .dup, 1), (47, .getfield 33, 3), (50, .iconst 1, 1), (51, .iadd, 1), (52, .putfield 33, 3), (55, .aload_n 0, 1), (56, .getfield 27, 3), (59, .iload_n 1, 1), (60, .dup2, 1), (61, .iaload, 1), (62, .iconst 1, 1), (63, .iload_n 2, 1), (64, .ishl, 1), (65, .ior, 1), (66, .iastore, 1), (67, .aload_n 0, 1), (68, .getfield 30, 3), (71, .iload_n 2, 1), (72, .dup2, 1), (73, .iaload, 1), (74, .iconst 1, 1), (75, .iload_n 1, 1), (76, .ishl, 1), (77, .ior, 1), (78, .iastore, 1), (79, .return_, 1)]
theorem dt_X0_addContra : dOk cX0_addContra tb_X0_addContra = true := by decide +kernel
def fX0_addContra (tt : Nat) (h : Hp) (x1 : Int32) (x2 : Int32) : Option (Hp) := if (16 : Int32) ≤ (hI h tt 5) then (some h) else (bnd (fX0_isOne tt h x1) (fun v_2 h_3 => if v_2 = 0 then (some h_3) else (bnd (fX0_isOne tt h_3 x2) (fun v_5 h_6 => if v_5 = 0 then (some h_6) else (if inb (hI h_6 tt 5) 16 then (if inb (hI (uI h_6 (rf tt 6) (Int32.toNatClampNeg (hI h_6 tt 5)) x1) tt 5) 16 then (if inb x1 8 then (if inb x1 8 then (if inb x2 8 then (if inb x2 8 then (some (uI (uI (uI (uI (uI h_6 (rf tt 6) (Int32.toNatClampNeg (hI h_6 tt 5)) x1) (rf tt 7) (Int32.toNatClampNeg (hI (uI h_6 (rf tt 6) (Int32.toNatClampNeg (hI h_6 tt 5)) x1) tt 5)) x2) tt 5 ((hI (uI (uI h_6 (rf tt 6) (Int32.toNatClampNeg (hI h_6 tt 5)) x1) (rf tt 7) (Int32.toNatClampNeg (hI (uI h_6 (rf tt 6) (Int32.toNatClampNeg (hI h_6 tt 5)) x1) tt 5)) x2) tt 5) + (1 : Int32))) (rf tt 3) (Int32.toNatClampNeg x1) ((hI (uI (uI (uI h_6 (rf tt 6) (Int32.toNatClampNeg (hI h_6 tt 5)) x1) (rf tt 7) (Int32.toNatClampNeg (hI (uI h_6 (rf tt 6) (Int32.toNatClampNeg (hI h_6 tt 5)) x1) tt 5)) x2) tt 5 ((hI (uI (uI h_6 (rf tt 6) (Int32.toNatClampNeg (hI h_6 tt 5)) x1) (rf tt 7) (Int32.toNatClampNeg (hI (uI h_6 (rf tt 6) (Int32.toNatClampNeg (hI h_6 tt 5)) x1) tt 5)) x2) tt 5) + (1 : Int32))) (rf tt 3) (Int32.toNatClampNeg x1)) ||| ((1 : Int32) <<< (x2 &&& 31)))) (rf tt 4) (Int32.toNatClampNeg x2) ((hI (uI (uI (uI (uI h_6 (rf tt 6) (Int32.toNatClampNeg (hI h_6 tt 5)) x1) (rf tt 7) (Int32.toNatClampNeg (hI (uI h_6 (rf tt 6) (Int32.toNatClampNeg (hI h_6 tt 5)) x1) tt 5)) x2) tt 5 ((hI (uI (uI h_6 (rf tt 6) (Int32.toNatClampNeg (hI h_6 tt 5)) x1) (rf tt 7) (Int32.toNatClampNeg (hI (uI h_6 (rf tt 6) (Int32.toNatClampNeg (hI h_6 tt 5)) x1) tt 5)) x2) tt 5) + (1 : Int32))) (rf tt 3) (Int32.toNatClampNeg x1) ((hI (uI (uI (uI h_6 (rf tt 6) (Int32.toNatClampNeg (hI h_6 tt 5)) x1) (rf tt 7) (Int32.toNatClampNeg (hI (uI h_6 (rf tt 6) (Int32.toNatClampNeg (hI h_6 tt 5)) x1) tt 5)) x2) tt 5 ((hI (uI (uI h_6 (rf tt 6) (Int32.toNatClampNeg (hI h_6 tt 5)) x1) (rf tt 7) (Int32.toNatClampNeg (hI (uI h_6 (rf tt 6) (Int32.toNatClampNeg (hI h_6 tt 5)) x1) tt 5)) x2) tt 5) + (1 : Int32))) (rf tt 3) (Int32.toNatClampNeg x1)) ||| ((1 : Int32) <<< (x2 &&& 31)))) (rf tt 4) (Int32.toNatClampNeg x2)) ||| ((1 : Int32) <<< (x1 &&& 31))))) else none) else none) else none) else none) else none) else none)))))
set_option maxRecDepth 100000 in
set_option maxHeartbeats 4000000 in
theorem c_X0_addContra {l : Launch} {sb : State} {D : va_G} {ids : Nat → ClassId} {n : Nat} (hN : 152 ≤ n) {tt : Nat} (ht : shp tt = (0, 12)) (h : Hp) (x1 : Int32) (x2 : Int32) (r : Hp) (hr : fX0_addContra tt h x1 x2 = some r) : jM l yX0_addContra cX0_addContra 3 none 1 sb D ids shp St n [.ref tt, .int x1, .int x2] h (jQv sb D ids shp St n r) := by
  refine jM_of hr rfl (Nat.le_of_ble_eq_true rfl) ?_
  intro p e s m args below meth c hC hret
  unfold fX0_addContra
  refine j_aload_n hC 0 rfl rfl (dOk_at dt_X0_addContra 0 rfl) ?_
  refine j_getI hC flX0_33 ht (jlt hN ht (by decide)) (by decide) (by decide) (fun _ _ _ => rfl) (dOk_at dt_X0_addContra 1 rfl) ?_
  refine j_bipush hC (v := (16 : Int32)) rfl (dOk_at dt_X0_addContra 2 rfl) ?_
  refine j_icmp_ge hC (tgt := 79) (by decide) (dOk_at dt_X0_addContra 3 rfl) (fun q_1 => ?_) (fun q_1 => ?_)
  · exact j_vret hC hret (dOk_at dt_X0_addContra 50 rfl)
  · refine j_aload_n hC 0 rfl rfl (dOk_at dt_X0_addContra 4 rfl) ?_
    refine j_iload_n hC 1 rfl rfl (dOk_at dt_X0_addContra 5 rfl) ?_
    refine j_callVi hC clX0_65 (fun rz hrz => c_X0_isOne hN (ht) _ _ rz hrz) ht (jlt hN ht (by decide)) (by decide) rfl rfl ⟨Nat.le_of_ble_eq_true rfl, Nat.le_of_ble_eq_true rfl⟩ ⟨Nat.le_refl 0, Nat.le_refl 0⟩ (As := [.int x1]) (st := []) rfl (Nat.le_of_ble_eq_true rfl) (dOk_at dt_X0_addContra 6 rfl) (fun v_2 h_3 _ => ?_)
    refine j_if_eq hC (tgt := 79) (by decide) (dOk_at dt_X0_addContra 7 rfl) (fun q_4 => ?_) (fun q_4 => ?_)
    · exact j_vret hC hret (dOk_at dt_X0_addContra 50 rfl)
    · refine j_aload_n hC 0 rfl rfl (dOk_at dt_X0_addContra 8 rfl) ?_
      refine j_iload_n hC 2 rfl rfl (dOk_at dt_X0_addContra 9 rfl) ?_
      refine j_callVi hC clX0_65 (fun rz hrz => c_X0_isOne hN (ht) _ _ rz hrz) ht (jlt hN ht (by decide)) (by decide) rfl rfl ⟨Nat.le_of_ble_eq_true rfl, Nat.le_of_ble_eq_true rfl⟩ ⟨Nat.le_refl 0, Nat.le_refl 0⟩ (As := [.int x2]) (st := []) rfl (Nat.le_of_ble_eq_true rfl) (dOk_at dt_X0_addContra 10 rfl) (fun v_5 h_6 _ => ?_)
      refine j_if_eq hC (tgt := 79) (by decide) (dOk_at dt_X0_addContra 11 rfl) (fun q_7 => ?_) (fun q_7 => ?_)
      · exact j_vret hC hret (dOk_at dt_X0_addContra 50 rfl)
      · refine j_aload_n hC 0 rfl rfl (dOk_at dt_X0_addContra 12 rfl) ?_
        refine j_getR hC flX0_37 ht (jlt hN ht (by decide)) (by decide) (by decide) (fun _ _ _ => rfl) (fun hs => hs _ _ _ (sf_0_6 ht).1) (dOk_at dt_X0_addContra 13 rfl) ?_
        refine j_aload_n hC 0 rfl rfl (dOk_at dt_X0_addContra 14 rfl) ?_
        refine j_getI hC flX0_33 ht (jlt hN ht (by decide)) (by decide) (by decide) (fun _ _ _ => rfl) (dOk_at dt_X0_addContra 15 rfl) ?_
        refine j_iload_n hC 1 rfl rfl (dOk_at dt_X0_addContra 16 rfl) ?_
        refine j_iast hC St_SP (sf_0_6 ht).2.1 (Nat.lt_of_lt_of_le (sf_0_6 ht).2.2 hN) (dOk_at dt_X0_addContra 17 rfl) ?_
        refine j_aload_n hC 0 rfl rfl (dOk_at dt_X0_addContra 18 rfl) ?_
        refine j_getR hC flX0_40 ht (jlt hN ht (by decide)) (by decide) (by decide) (fun _ _ _ => rfl) (fun hs => hs _ _ _ (sf_0_7 ht).1) (dOk_at dt_X0_addContra 19 rfl) ?_
        refine j_aload_n hC 0 rfl rfl (dOk_at dt_X0_addContra 20 rfl) ?_
        refine j_getI hC flX0_33 ht (jlt hN ht (by decide)) (by decide) (by decide) (fun _ _ _ => rfl) (dOk_at dt_X0_addContra 21 rfl) ?_
        refine j_iload_n hC 2 rfl rfl (dOk_at dt_X0_addContra 22 rfl) ?_
        refine j_iast hC St_SP (sf_0_7 ht).2.1 (Nat.lt_of_lt_of_le (sf_0_7 ht).2.2 hN) (dOk_at dt_X0_addContra 23 rfl) ?_
        refine j_aload_n hC 0 rfl rfl (dOk_at dt_X0_addContra 24 rfl) ?_
        refine j_dupr hC (dOk_at dt_X0_addContra 25 rfl) ?_
        refine j_getI hC flX0_33 ht (jlt hN ht (by decide)) (by decide) (by decide) (fun _ _ _ => rfl) (dOk_at dt_X0_addContra 26 rfl) ?_
        refine j_iconst hC (v := (1 : Int32)) rfl (dOk_at dt_X0_addContra 27 rfl) ?_
        refine j_iadd hC (dOk_at dt_X0_addContra 28 rfl) ?_
        refine j_putI hC St_SP flX0_33 ht (jlt hN ht (by decide)) (by decide) (by decide) rfl rfl (dOk_at dt_X0_addContra 29 rfl) ?_
        refine j_aload_n hC 0 rfl rfl (dOk_at dt_X0_addContra 30 rfl) ?_
        refine j_getR hC flX0_27 ht (jlt hN ht (by decide)) (by decide) (by decide) (fun _ _ _ => rfl) (fun hs => hs _ _ _ (sf_0_3 ht).1) (dOk_at dt_X0_addContra 31 rfl) ?_
        refine j_iload_n hC 1 rfl rfl (dOk_at dt_X0_addContra 32 rfl) ?_
        refine j_dup2 hC (dOk_at dt_X0_addContra 33 rfl) ?_
        refine j_iald hC (sf_0_3 ht).2.1 (Nat.lt_of_lt_of_le (sf_0_3 ht).2.2 hN) (dOk_at dt_X0_addContra 34 rfl) ?_
        refine j_iconst hC (v := (1 : Int32)) rfl (dOk_at dt_X0_addContra 35 rfl) ?_
        refine j_iload_n hC 2 rfl rfl (dOk_at dt_X0_addContra 36 rfl) ?_
        refine j_ishl hC (dOk_at dt_X0_addContra 37 rfl) ?_
        refine j_ior hC (dOk_at dt_X0_addContra 38 rfl) ?_
        refine j_iast hC St_SP (sf_0_3 ht).2.1 (Nat.lt_of_lt_of_le (sf_0_3 ht).2.2 hN) (dOk_at dt_X0_addContra 39 rfl) ?_
        refine j_aload_n hC 0 rfl rfl (dOk_at dt_X0_addContra 40 rfl) ?_
        refine j_getR hC flX0_30 ht (jlt hN ht (by decide)) (by decide) (by decide) (fun _ _ _ => rfl) (fun hs => hs _ _ _ (sf_0_4 ht).1) (dOk_at dt_X0_addContra 41 rfl) ?_
        refine j_iload_n hC 2 rfl rfl (dOk_at dt_X0_addContra 42 rfl) ?_
        refine j_dup2 hC (dOk_at dt_X0_addContra 43 rfl) ?_
        refine j_iald hC (sf_0_4 ht).2.1 (Nat.lt_of_lt_of_le (sf_0_4 ht).2.2 hN) (dOk_at dt_X0_addContra 44 rfl) ?_
        refine j_iconst hC (v := (1 : Int32)) rfl (dOk_at dt_X0_addContra 45 rfl) ?_
        refine j_iload_n hC 1 rfl rfl (dOk_at dt_X0_addContra 46 rfl) ?_
        refine j_ishl hC (dOk_at dt_X0_addContra 47 rfl) ?_
        refine j_ior hC (dOk_at dt_X0_addContra 48 rfl) ?_
        refine j_iast hC St_SP (sf_0_4 ht).2.1 (Nat.lt_of_lt_of_le (sf_0_4 ht).2.2 hN) (dOk_at dt_X0_addContra 49 rfl) ?_
        exact j_vret hC hret (dOk_at dt_X0_addContra 50 rfl)
def tb_X0_all : List (Nat × Instr × Nat) := [(0, .iconst 1, 1), (1, .aload_n 0, 1), (2, .getfield 14, 3), (5, .getfield 55, 3), (8, .ishl, 1), (9, .iconst 1, 1), (10, .isub, 1), (11, .ireturn, 1)]
theorem dt_X0_all : dOk cX0_all tb_X0_all = true := by decide +kernel
def fX0_all (tt : Nat) (h : Hp) : Option (Int32 × Hp) := some ((((1 : Int32) <<< ((hI h (rf tt 0) 2) &&& 31)) - (1 : Int32)), h)
set_option maxRecDepth 100000 in
set_option maxHeartbeats 4000000 in
theorem c_X0_all {l : Launch} {sb : State} {D : va_G} {ids : Nat → ClassId} {n : Nat} (hN : 152 ≤ n) {tt : Nat} (ht : shp tt = (0, 12)) (h : Hp) (r : Int32 × Hp) (hr : fX0_all tt h = some r) : jM l yX0_all cX0_all 1 (some .int) 0 sb D ids shp St n [.ref tt] h (jQi sb D ids shp St n r) := by
  refine jM_of hr rfl (Nat.le_of_ble_eq_true rfl) ?_
  intro p e s m args below meth c hC hret
  unfold fX0_all
  refine j_iconst hC (v := (1 : Int32)) rfl (dOk_at dt_X0_all 0 rfl) ?_
  refine j_aload_n hC 0 rfl rfl (dOk_at dt_X0_all 1 rfl) ?_
  refine j_getR hC flX0_14 ht (jlt hN ht (by decide)) (by decide) (by decide) (fun _ _ _ => rfl) (fun hs => hs _ _ _ (sf_0_0 ht).1) (dOk_at dt_X0_all 2 rfl) ?_
  refine j_getI hC flX0_55 (sf_0_0 ht).2.1 (Nat.lt_of_lt_of_le (sf_0_0 ht).2.2 hN) (by decide) (by decide) (fun _ _ _ => rfl) (dOk_at dt_X0_all 3 rfl) ?_
  refine j_ishl hC (dOk_at dt_X0_all 4 rfl) ?_
  refine j_iconst hC (v := (1 : Int32)) rfl (dOk_at dt_X0_all 5 rfl) ?_
  refine j_isub hC (dOk_at dt_X0_all 6 rfl) ?_
  exact j_iret hC hret (dOk_at dt_X0_all 7 rfl)
def tb_X0_weightOf : List (Nat × Instr × Nat) := [(0, .iload_n 1, 1), (1, .ifCond .lt 18, 3), (4, .iload_n 1, 1), (5, .bipush 8, 2), (7, .if_icmp .ge 12, 3), (10, .aload_n 0, 1), (11, .getfield 20, 3), (14, .iload_n 1, 1), (15, .iaload, 1), (16, .goto 4, 3), (19, .iconst 0, 1), (20, .ireturn, 1)]
theorem dt_X0_weightOf : dOk cX0_weightOf tb_X0_weightOf = true := by decide +kernel
def fX0_weightOf (tt : Nat) (h : Hp) (x1 : Int32) : Option (Int32 × Hp) := if x1 < 0 then (some ((0 : Int32), h)) else (if (8 : Int32) ≤ x1 then (some ((0 : Int32), h)) else (if inb x1 8 then (some ((hI h (rf tt 1) (Int32.toNatClampNeg x1)), h)) else none))
set_option maxRecDepth 100000 in
set_option maxHeartbeats 4000000 in
theorem c_X0_weightOf {l : Launch} {sb : State} {D : va_G} {ids : Nat → ClassId} {n : Nat} (hN : 152 ≤ n) {tt : Nat} (ht : shp tt = (0, 12)) (h : Hp) (x1 : Int32) (r : Int32 × Hp) (hr : fX0_weightOf tt h x1 = some r) : jM l yX0_weightOf cX0_weightOf 2 (some .int) 0 sb D ids shp St n [.ref tt, .int x1] h (jQi sb D ids shp St n r) := by
  refine jM_of hr rfl (Nat.le_of_ble_eq_true rfl) ?_
  intro p e s m args below meth c hC hret
  unfold fX0_weightOf
  refine j_iload_n hC 1 rfl rfl (dOk_at dt_X0_weightOf 0 rfl) ?_
  refine j_if_lt hC (tgt := 19) (by decide) (dOk_at dt_X0_weightOf 1 rfl) (fun q_1 => ?_) (fun q_1 => ?_)
  · refine j_iconst hC (v := (0 : Int32)) rfl (dOk_at dt_X0_weightOf 10 rfl) ?_
    exact j_iret hC hret (dOk_at dt_X0_weightOf 11 rfl)
  · refine j_iload_n hC 1 rfl rfl (dOk_at dt_X0_weightOf 2 rfl) ?_
    refine j_bipush hC (v := (8 : Int32)) rfl (dOk_at dt_X0_weightOf 3 rfl) ?_
    refine j_icmp_ge hC (tgt := 19) (by decide) (dOk_at dt_X0_weightOf 4 rfl) (fun q_2 => ?_) (fun q_2 => ?_)
    · refine j_iconst hC (v := (0 : Int32)) rfl (dOk_at dt_X0_weightOf 10 rfl) ?_
      exact j_iret hC hret (dOk_at dt_X0_weightOf 11 rfl)
    · refine j_aload_n hC 0 rfl rfl (dOk_at dt_X0_weightOf 5 rfl) ?_
      refine j_getR hC flX0_20 ht (jlt hN ht (by decide)) (by decide) (by decide) (fun _ _ _ => rfl) (fun hs => hs _ _ _ (sf_0_1 ht).1) (dOk_at dt_X0_weightOf 6 rfl) ?_
      refine j_iload_n hC 1 rfl rfl (dOk_at dt_X0_weightOf 7 rfl) ?_
      refine j_iald hC (sf_0_1 ht).2.1 (Nat.lt_of_lt_of_le (sf_0_1 ht).2.2 hN) (dOk_at dt_X0_weightOf 8 rfl) ?_
      refine j_goto hC (tgt := 20) (by decide) (dOk_at dt_X0_weightOf 9 rfl) ?_
      exact j_iret hC hret (dOk_at dt_X0_weightOf 11 rfl)
def tb_X0_temperOf : List (Nat × Instr × Nat) := [(0, .iload_n 1, 1), (1, .ifCond .lt 18, 3), (4, .iload_n 1, 1), (5, .bipush 8, 2), (7, .if_icmp .ge 12, 3), (10, .aload_n 0, 1), (11, .getfield 24, 3), (14, .iload_n 1, 1), (15, .iaload, 1), (16, .goto 4, 3), (19, .iconst 0, 1), (20, .ireturn, 1)]
theorem dt_X0_temperOf : dOk cX0_temperOf tb_X0_temperOf = true := by decide +kernel
def fX0_temperOf (tt : Nat) (h : Hp) (x1 : Int32) : Option (Int32 × Hp) := if x1 < 0 then (some ((0 : Int32), h)) else (if (8 : Int32) ≤ x1 then (some ((0 : Int32), h)) else (if inb x1 8 then (some ((hI h (rf tt 2) (Int32.toNatClampNeg x1)), h)) else none))
set_option maxRecDepth 100000 in
set_option maxHeartbeats 4000000 in
theorem c_X0_temperOf {l : Launch} {sb : State} {D : va_G} {ids : Nat → ClassId} {n : Nat} (hN : 152 ≤ n) {tt : Nat} (ht : shp tt = (0, 12)) (h : Hp) (x1 : Int32) (r : Int32 × Hp) (hr : fX0_temperOf tt h x1 = some r) : jM l yX0_temperOf cX0_temperOf 2 (some .int) 0 sb D ids shp St n [.ref tt, .int x1] h (jQi sb D ids shp St n r) := by
  refine jM_of hr rfl (Nat.le_of_ble_eq_true rfl) ?_
  intro p e s m args below meth c hC hret
  unfold fX0_temperOf
  refine j_iload_n hC 1 rfl rfl (dOk_at dt_X0_temperOf 0 rfl) ?_
  refine j_if_lt hC (tgt := 19) (by decide) (dOk_at dt_X0_temperOf 1 rfl) (fun q_1 => ?_) (fun q_1 => ?_)
  · refine j_iconst hC (v := (0 : Int32)) rfl (dOk_at dt_X0_temperOf 10 rfl) ?_
    exact j_iret hC hret (dOk_at dt_X0_temperOf 11 rfl)
  · refine j_iload_n hC 1 rfl rfl (dOk_at dt_X0_temperOf 2 rfl) ?_
    refine j_bipush hC (v := (8 : Int32)) rfl (dOk_at dt_X0_temperOf 3 rfl) ?_
    refine j_icmp_ge hC (tgt := 19) (by decide) (dOk_at dt_X0_temperOf 4 rfl) (fun q_2 => ?_) (fun q_2 => ?_)
    · refine j_iconst hC (v := (0 : Int32)) rfl (dOk_at dt_X0_temperOf 10 rfl) ?_
      exact j_iret hC hret (dOk_at dt_X0_temperOf 11 rfl)
    · refine j_aload_n hC 0 rfl rfl (dOk_at dt_X0_temperOf 5 rfl) ?_
      refine j_getR hC flX0_24 ht (jlt hN ht (by decide)) (by decide) (by decide) (fun _ _ _ => rfl) (fun hs => hs _ _ _ (sf_0_2 ht).1) (dOk_at dt_X0_temperOf 6 rfl) ?_
      refine j_iload_n hC 1 rfl rfl (dOk_at dt_X0_temperOf 7 rfl) ?_
      refine j_iald hC (sf_0_2 ht).2.1 (Nat.lt_of_lt_of_le (sf_0_2 ht).2.2 hN) (dOk_at dt_X0_temperOf 8 rfl) ?_
      refine j_goto hC (tgt := 20) (by decide) (dOk_at dt_X0_temperOf 9 rfl) ?_
      exact j_iret hC hret (dOk_at dt_X0_temperOf 11 rfl)
def tb_X0_hitBy : List (Nat × Instr × Nat) := [(0, .iload_n 1, 1), (1, .ifCond .lt 18, 3), (4, .iload_n 1, 1), (5, .bipush 8, 2), (7, .if_icmp .ge 12, 3), (10, .aload_n 0, 1), (11, .getfield 27, 3), (14, .iload_n 1, 1), (15, .iaload, 1), (16, .goto 4, 3), (19, .iconst 0, 1), (20, .ireturn, 1)]
theorem dt_X0_hitBy : dOk cX0_hitBy tb_X0_hitBy = true := by decide +kernel
def fX0_hitBy (tt : Nat) (h : Hp) (x1 : Int32) : Option (Int32 × Hp) := if x1 < 0 then (some ((0 : Int32), h)) else (if (8 : Int32) ≤ x1 then (some ((0 : Int32), h)) else (if inb x1 8 then (some ((hI h (rf tt 3) (Int32.toNatClampNeg x1)), h)) else none))
set_option maxRecDepth 100000 in
set_option maxHeartbeats 4000000 in
theorem c_X0_hitBy {l : Launch} {sb : State} {D : va_G} {ids : Nat → ClassId} {n : Nat} (hN : 152 ≤ n) {tt : Nat} (ht : shp tt = (0, 12)) (h : Hp) (x1 : Int32) (r : Int32 × Hp) (hr : fX0_hitBy tt h x1 = some r) : jM l yX0_hitBy cX0_hitBy 2 (some .int) 0 sb D ids shp St n [.ref tt, .int x1] h (jQi sb D ids shp St n r) := by
  refine jM_of hr rfl (Nat.le_of_ble_eq_true rfl) ?_
  intro p e s m args below meth c hC hret
  unfold fX0_hitBy
  refine j_iload_n hC 1 rfl rfl (dOk_at dt_X0_hitBy 0 rfl) ?_
  refine j_if_lt hC (tgt := 19) (by decide) (dOk_at dt_X0_hitBy 1 rfl) (fun q_1 => ?_) (fun q_1 => ?_)
  · refine j_iconst hC (v := (0 : Int32)) rfl (dOk_at dt_X0_hitBy 10 rfl) ?_
    exact j_iret hC hret (dOk_at dt_X0_hitBy 11 rfl)
  · refine j_iload_n hC 1 rfl rfl (dOk_at dt_X0_hitBy 2 rfl) ?_
    refine j_bipush hC (v := (8 : Int32)) rfl (dOk_at dt_X0_hitBy 3 rfl) ?_
    refine j_icmp_ge hC (tgt := 19) (by decide) (dOk_at dt_X0_hitBy 4 rfl) (fun q_2 => ?_) (fun q_2 => ?_)
    · refine j_iconst hC (v := (0 : Int32)) rfl (dOk_at dt_X0_hitBy 10 rfl) ?_
      exact j_iret hC hret (dOk_at dt_X0_hitBy 11 rfl)
    · refine j_aload_n hC 0 rfl rfl (dOk_at dt_X0_hitBy 5 rfl) ?_
      refine j_getR hC flX0_27 ht (jlt hN ht (by decide)) (by decide) (by decide) (fun _ _ _ => rfl) (fun hs => hs _ _ _ (sf_0_3 ht).1) (dOk_at dt_X0_hitBy 6 rfl) ?_
      refine j_iload_n hC 1 rfl rfl (dOk_at dt_X0_hitBy 7 rfl) ?_
      refine j_iald hC (sf_0_3 ht).2.1 (Nat.lt_of_lt_of_le (sf_0_3 ht).2.2 hN) (dOk_at dt_X0_hitBy 8 rfl) ?_
      refine j_goto hC (tgt := 20) (by decide) (dOk_at dt_X0_hitBy 9 rfl) ?_
      exact j_iret hC hret (dOk_at dt_X0_hitBy 11 rfl)
def tb_X0_foesOf : List (Nat × Instr × Nat) := [(0, .iload_n 1, 1), (1, .ifCond .lt 18, 3), (4, .iload_n 1, 1), (5, .bipush 8, 2), (7, .if_icmp .ge 12, 3), (10, .aload_n 0, 1), (11, .getfield 30, 3), (14, .iload_n 1, 1), (15, .iaload, 1), (16, .goto 4, 3), (19, .iconst 0, 1), (20, .ireturn, 1)]
theorem dt_X0_foesOf : dOk cX0_foesOf tb_X0_foesOf = true := by decide +kernel
def fX0_foesOf (tt : Nat) (h : Hp) (x1 : Int32) : Option (Int32 × Hp) := if x1 < 0 then (some ((0 : Int32), h)) else (if (8 : Int32) ≤ x1 then (some ((0 : Int32), h)) else (if inb x1 8 then (some ((hI h (rf tt 4) (Int32.toNatClampNeg x1)), h)) else none))
set_option maxRecDepth 100000 in
set_option maxHeartbeats 4000000 in
theorem c_X0_foesOf {l : Launch} {sb : State} {D : va_G} {ids : Nat → ClassId} {n : Nat} (hN : 152 ≤ n) {tt : Nat} (ht : shp tt = (0, 12)) (h : Hp) (x1 : Int32) (r : Int32 × Hp) (hr : fX0_foesOf tt h x1 = some r) : jM l yX0_foesOf cX0_foesOf 2 (some .int) 0 sb D ids shp St n [.ref tt, .int x1] h (jQi sb D ids shp St n r) := by
  refine jM_of hr rfl (Nat.le_of_ble_eq_true rfl) ?_
  intro p e s m args below meth c hC hret
  unfold fX0_foesOf
  refine j_iload_n hC 1 rfl rfl (dOk_at dt_X0_foesOf 0 rfl) ?_
  refine j_if_lt hC (tgt := 19) (by decide) (dOk_at dt_X0_foesOf 1 rfl) (fun q_1 => ?_) (fun q_1 => ?_)
  · refine j_iconst hC (v := (0 : Int32)) rfl (dOk_at dt_X0_foesOf 10 rfl) ?_
    exact j_iret hC hret (dOk_at dt_X0_foesOf 11 rfl)
  · refine j_iload_n hC 1 rfl rfl (dOk_at dt_X0_foesOf 2 rfl) ?_
    refine j_bipush hC (v := (8 : Int32)) rfl (dOk_at dt_X0_foesOf 3 rfl) ?_
    refine j_icmp_ge hC (tgt := 19) (by decide) (dOk_at dt_X0_foesOf 4 rfl) (fun q_2 => ?_) (fun q_2 => ?_)
    · refine j_iconst hC (v := (0 : Int32)) rfl (dOk_at dt_X0_foesOf 10 rfl) ?_
      exact j_iret hC hret (dOk_at dt_X0_foesOf 11 rfl)
    · refine j_aload_n hC 0 rfl rfl (dOk_at dt_X0_foesOf 5 rfl) ?_
      refine j_getR hC flX0_30 ht (jlt hN ht (by decide)) (by decide) (by decide) (fun _ _ _ => rfl) (fun hs => hs _ _ _ (sf_0_4 ht).1) (dOk_at dt_X0_foesOf 6 rfl) ?_
      refine j_iload_n hC 1 rfl rfl (dOk_at dt_X0_foesOf 7 rfl) ?_
      refine j_iald hC (sf_0_4 ht).2.1 (Nat.lt_of_lt_of_le (sf_0_4 ht).2.2 hN) (dOk_at dt_X0_foesOf 8 rfl) ?_
      refine j_goto hC (tgt := 20) (by decide) (dOk_at dt_X0_foesOf 9 rfl) ?_
      exact j_iret hC hret (dOk_at dt_X0_foesOf 11 rfl)
def tb_X0_mostWeight : List (Nat × Instr × Nat) := [(0, .iconst 0, 1), (1, .istore_n 2, 1), (2, .iconst 0, 1), (3, .istore_n 3, 1), (4, .iload_n 3, 1), (5, .bipush 8, 2), (7, .if_icmp .ge 35, 3), (10, .iload_n 1, 1), (11, .iload_n 3, 1), (12, .ishr, 1), (13, .iconst 1, 1), (14, .iand, 1), (15, .iconst 1, 1), (16, .if_icmp .ne 20, 3), (19, .aload_n 0, 1), (20, .getfield 20, 3), (23, .iload_n 3, 1), (24, .iaload, 1), (25, .iload_n 2, 1), (26, .if_icmp .le 10, 3), (29, .aload_n 0, 1), (30, .getfield 20, 3), (33, .iload_n 3, 1), (34, .iaload, 1), (35, .istore_n 2, 1), (36, .iinc 3 1, 3), (39, .goto (-35), 3), (42, .iload_n 2, 1), (43, .ireturn, 1)]
theorem dt_X0_mostWeight : dOk cX0_mostWeight tb_X0_mostWeight = true := by decide +kernel
def fX0_mostWeight_36 (tt : Nat) (rec4 : Hp → Int32 → Int32 → Int32 → Option (Int32 × Hp)) (h : Hp) (x1 : Int32) (x2 : Int32) (x3 : Int32) : Option (Int32 × Hp) := rec4 h x1 x2 (x3 + (1 : Int32))
def fX0_mostWeight_4 : Nat → (Nat) → Hp → Int32 → Int32 → Int32 → Option (Int32 × Hp)
  | 0, _, _, _, _, _ => none
  | fu + 1, tt, h, x1, x2, x3 => if (8 : Int32) ≤ x3 then (some (x2, h)) else (if ((x1 >>> (x3 &&& 31)) &&& (1 : Int32)) = (1 : Int32) then (if inb x3 8 then (if (hI h (rf tt 1) (Int32.toNatClampNeg x3)) ≤ x2 then (fX0_mostWeight_36 tt (fX0_mostWeight_4 fu tt) h x1 x2 x3) else (if inb x3 8 then (fX0_mostWeight_36 tt (fX0_mostWeight_4 fu tt) h x1 (hI h (rf tt 1) (Int32.toNatClampNeg x3)) x3) else none)) else none) else (fX0_mostWeight_36 tt (fX0_mostWeight_4 fu tt) h x1 x2 x3))
def fX0_mostWeight (tt : Nat) (h : Hp) (x1 : Int32) : Option (Int32 × Hp) := fX0_mostWeight_4 FU tt h x1 (0 : Int32) (0 : Int32)
set_option maxRecDepth 100000 in
set_option maxHeartbeats 4000000 in
theorem c_X0_mostWeight {l : Launch} {sb : State} {D : va_G} {ids : Nat → ClassId} {n : Nat} (hN : 152 ≤ n) {tt : Nat} (ht : shp tt = (0, 12)) (h : Hp) (x1 : Int32) (r : Int32 × Hp) (hr : fX0_mostWeight tt h x1 = some r) : jM l yX0_mostWeight cX0_mostWeight 4 (some .int) 0 sb D ids shp St n [.ref tt, .int x1] h (jQi sb D ids shp St n r) := by
  refine jM_of hr rfl (Nat.le_of_ble_eq_true rfl) ?_
  intro p e s m args below meth c hC hret
  have b36 : ∀ (rec4 : Hp → Int32 → Int32 → Int32 → Option (Int32 × Hp)) (hrec4 : ∀ (h : Hp) (x1 : Int32) (x2 : Int32) (x3 : Int32) , jJ p l e (rmD 0) s m args below meth c 4 sb D ids shp St (fun r => MQ below (jQi sb D ids shp St n r) args s 0 0 (jA sb)) n 0 0 h 4 [(0, .ref tt), (1, .int x1), (2, .int x2), (3, .int x3)] [] (rec4 h x1 x2 x3)) (h : Hp) (x1 : Int32) (x2 : Int32) (x3 : Int32) , jJ p l e (rmD 0) s m args below meth c 4 sb D ids shp St (fun r => MQ below (jQi sb D ids shp St n r) args s 0 0 (jA sb)) n 0 0 h 36 [(0, .ref tt), (1, .int x1), (2, .int x2), (3, .int x3)] [] (fX0_mostWeight_36 tt rec4 h x1 x2 x3) := by
    intro rec4 hrec4 h x1 x2 x3 
    unfold fX0_mostWeight_36
    refine j_iinc hC (v := (x3 + (1 : Int32))) (lv' := [(3, .int (x3 + (1 : Int32))), (0, .ref tt), (1, .int x1), (2, .int x2)]) 3 rfl (congrArg (fun z => x3 + z) (show Int32.ofInt (1) = (1 : Int32) from by decide)) (by decide) rfl (dOk_at dt_X0_mostWeight 25 rfl) ?_
    refine j_goto hC (tgt := 4) (by decide) (dOk_at dt_X0_mostWeight 26 rfl) ?_
    refine j_sub [1, 2, 3, 0] rfl ?_
    exact hrec4 h x1 x2 (x3 + (1 : Int32)) 
  have b4 : ∀ (fu : Nat) (h : Hp) (x1 : Int32) (x2 : Int32) (x3 : Int32) , jJ p l e (rmD 0) s m args below meth c 4 sb D ids shp St (fun r => MQ below (jQi sb D ids shp St n r) args s 0 0 (jA sb)) n 0 0 h 4 [(0, .ref tt), (1, .int x1), (2, .int x2), (3, .int x3)] [] (fX0_mostWeight_4 fu tt h x1 x2 x3) := by
    intro fu 
    induction fu with
    | zero => intro h x1 x2 x3 ; exact j_none
    | succ fu ih =>
    intro h x1 x2 x3 
    rw [fX0_mostWeight_4]
    refine j_iload_n hC 3 rfl rfl (dOk_at dt_X0_mostWeight 4 rfl) ?_
    refine j_bipush hC (v := (8 : Int32)) rfl (dOk_at dt_X0_mostWeight 5 rfl) ?_
    refine j_icmp_ge hC (tgt := 42) (by decide) (dOk_at dt_X0_mostWeight 6 rfl) (fun q_1 => ?_) (fun q_1 => ?_)
    · refine j_iload_n hC 2 rfl rfl (dOk_at dt_X0_mostWeight 27 rfl) ?_
      exact j_iret hC hret (dOk_at dt_X0_mostWeight 28 rfl)
    · refine j_iload_n hC 1 rfl rfl (dOk_at dt_X0_mostWeight 7 rfl) ?_
      refine j_iload_n hC 3 rfl rfl (dOk_at dt_X0_mostWeight 8 rfl) ?_
      refine j_ishr hC (dOk_at dt_X0_mostWeight 9 rfl) ?_
      refine j_iconst hC (v := (1 : Int32)) rfl (dOk_at dt_X0_mostWeight 10 rfl) ?_
      refine j_iand hC (dOk_at dt_X0_mostWeight 11 rfl) ?_
      refine j_iconst hC (v := (1 : Int32)) rfl (dOk_at dt_X0_mostWeight 12 rfl) ?_
      refine j_icmp_ne hC (tgt := 36) (by decide) (dOk_at dt_X0_mostWeight 13 rfl) (fun q_2 => ?_) (fun q_2 => ?_)
      · exact b36 (fX0_mostWeight_4 fu tt) ih h x1 x2 x3 
      · refine j_aload_n hC 0 rfl rfl (dOk_at dt_X0_mostWeight 14 rfl) ?_
        refine j_getR hC flX0_20 ht (jlt hN ht (by decide)) (by decide) (by decide) (fun _ _ _ => rfl) (fun hs => hs _ _ _ (sf_0_1 ht).1) (dOk_at dt_X0_mostWeight 15 rfl) ?_
        refine j_iload_n hC 3 rfl rfl (dOk_at dt_X0_mostWeight 16 rfl) ?_
        refine j_iald hC (sf_0_1 ht).2.1 (Nat.lt_of_lt_of_le (sf_0_1 ht).2.2 hN) (dOk_at dt_X0_mostWeight 17 rfl) ?_
        refine j_iload_n hC 2 rfl rfl (dOk_at dt_X0_mostWeight 18 rfl) ?_
        refine j_icmp_le hC (tgt := 36) (by decide) (dOk_at dt_X0_mostWeight 19 rfl) (fun q_3 => ?_) (fun q_3 => ?_)
        · exact b36 (fX0_mostWeight_4 fu tt) ih h x1 x2 x3 
        · refine j_aload_n hC 0 rfl rfl (dOk_at dt_X0_mostWeight 20 rfl) ?_
          refine j_getR hC flX0_20 ht (jlt hN ht (by decide)) (by decide) (by decide) (fun _ _ _ => rfl) (fun hs => hs _ _ _ (sf_0_1 ht).1) (dOk_at dt_X0_mostWeight 21 rfl) ?_
          refine j_iload_n hC 3 rfl rfl (dOk_at dt_X0_mostWeight 22 rfl) ?_
          refine j_iald hC (sf_0_1 ht).2.1 (Nat.lt_of_lt_of_le (sf_0_1 ht).2.2 hN) (dOk_at dt_X0_mostWeight 23 rfl) ?_
          refine j_istore_n hC rfl (lv' := [(2, .int (hI h (rf tt 1) (Int32.toNatClampNeg x3))), (0, .ref tt), (1, .int x1), (3, .int x3)]) (by decide) rfl (dOk_at dt_X0_mostWeight 24 rfl) ?_
          refine j_sub [1, 2, 0, 3] rfl ?_
          exact b36 (fX0_mostWeight_4 fu tt) ih h x1 (hI h (rf tt 1) (Int32.toNatClampNeg x3)) x3 
  unfold fX0_mostWeight
  refine j_iconst hC (v := (0 : Int32)) rfl (dOk_at dt_X0_mostWeight 0 rfl) ?_
  refine j_istore_n hC rfl (lv' := [(2, .int (0 : Int32)), (0, .ref tt), (1, .int x1)]) (by decide) rfl (dOk_at dt_X0_mostWeight 1 rfl) ?_
  refine j_iconst hC (v := (0 : Int32)) rfl (dOk_at dt_X0_mostWeight 2 rfl) ?_
  refine j_istore_n hC rfl (lv' := [(3, .int (0 : Int32)), (2, .int (0 : Int32)), (0, .ref tt), (1, .int x1)]) (by decide) rfl (dOk_at dt_X0_mostWeight 3 rfl) ?_
  refine j_sub [2, 3, 1, 0] rfl ?_
  exact b4 FU h x1 (0 : Int32) (0 : Int32) 
def tb_X0_countHeavy : List (Nat × Instr × Nat) := [(0, .iconst 0, 1), (1, .istore_n 3, 1), (2, .iconst 0, 1), (3, .istore 4, 2), (5, .iload 4, 2), (7, .bipush 8, 2), (9, .if_icmp .ge 33, 3), (12, .iload_n 1, 1), (13, .iload 4, 2), (15, .ishr, 1), (16, .iconst 1, 1), (17, .iand, 1), (18, .iconst 1, 1), (19, .if_icmp .ne 17, 3), (22, .aload_n 0, 1), (23, .getfield 20, 3), (26, .iload 4, 2), (28, .iaload, 1), (29, .iload_n 2, 1), (30, .if_icmp .lt 6, 3), (33, .iinc 3 1, 3), (36, .iinc 4 1, 3), (39, .goto (-34), 3), (42, .iload_n 3, 1), (43, .ireturn, 1)]
theorem dt_X0_countHeavy : dOk cX0_countHeavy tb_X0_countHeavy = true := by decide +kernel
def fX0_countHeavy_36 (tt : Nat) (rec5 : Hp → Int32 → Int32 → Int32 → Int32 → Option (Int32 × Hp)) (h : Hp) (x1 : Int32) (x2 : Int32) (x3 : Int32) (x4 : Int32) : Option (Int32 × Hp) := rec5 h x1 x2 x3 (x4 + (1 : Int32))
def fX0_countHeavy_5 : Nat → (Nat) → Hp → Int32 → Int32 → Int32 → Int32 → Option (Int32 × Hp)
  | 0, _, _, _, _, _, _ => none
  | fu + 1, tt, h, x1, x2, x3, x4 => if (8 : Int32) ≤ x4 then (some (x3, h)) else (if ((x1 >>> (x4 &&& 31)) &&& (1 : Int32)) = (1 : Int32) then (if inb x4 8 then (if (hI h (rf tt 1) (Int32.toNatClampNeg x4)) < x2 then (fX0_countHeavy_36 tt (fX0_countHeavy_5 fu tt) h x1 x2 x3 x4) else (fX0_countHeavy_36 tt (fX0_countHeavy_5 fu tt) h x1 x2 (x3 + (1 : Int32)) x4)) else none) else (fX0_countHeavy_36 tt (fX0_countHeavy_5 fu tt) h x1 x2 x3 x4))
def fX0_countHeavy (tt : Nat) (h : Hp) (x1 : Int32) (x2 : Int32) : Option (Int32 × Hp) := fX0_countHeavy_5 FU tt h x1 x2 (0 : Int32) (0 : Int32)
set_option maxRecDepth 100000 in
set_option maxHeartbeats 4000000 in
theorem c_X0_countHeavy {l : Launch} {sb : State} {D : va_G} {ids : Nat → ClassId} {n : Nat} (hN : 152 ≤ n) {tt : Nat} (ht : shp tt = (0, 12)) (h : Hp) (x1 : Int32) (x2 : Int32) (r : Int32 × Hp) (hr : fX0_countHeavy tt h x1 x2 = some r) : jM l yX0_countHeavy cX0_countHeavy 5 (some .int) 0 sb D ids shp St n [.ref tt, .int x1, .int x2] h (jQi sb D ids shp St n r) := by
  refine jM_of hr rfl (Nat.le_of_ble_eq_true rfl) ?_
  intro p e s m args below meth c hC hret
  have b36 : ∀ (rec5 : Hp → Int32 → Int32 → Int32 → Int32 → Option (Int32 × Hp)) (hrec5 : ∀ (h : Hp) (x1 : Int32) (x2 : Int32) (x3 : Int32) (x4 : Int32) , jJ p l e (rmD 0) s m args below meth c 5 sb D ids shp St (fun r => MQ below (jQi sb D ids shp St n r) args s 0 0 (jA sb)) n 0 0 h 5 [(0, .ref tt), (1, .int x1), (2, .int x2), (3, .int x3), (4, .int x4)] [] (rec5 h x1 x2 x3 x4)) (h : Hp) (x1 : Int32) (x2 : Int32) (x3 : Int32) (x4 : Int32) , jJ p l e (rmD 0) s m args below meth c 5 sb D ids shp St (fun r => MQ below (jQi sb D ids shp St n r) args s 0 0 (jA sb)) n 0 0 h 36 [(0, .ref tt), (1, .int x1), (2, .int x2), (3, .int x3), (4, .int x4)] [] (fX0_countHeavy_36 tt rec5 h x1 x2 x3 x4) := by
    intro rec5 hrec5 h x1 x2 x3 x4 
    unfold fX0_countHeavy_36
    refine j_iinc hC (v := (x4 + (1 : Int32))) (lv' := [(4, .int (x4 + (1 : Int32))), (0, .ref tt), (1, .int x1), (2, .int x2), (3, .int x3)]) 4 rfl (congrArg (fun z => x4 + z) (show Int32.ofInt (1) = (1 : Int32) from by decide)) (by decide) rfl (dOk_at dt_X0_countHeavy 21 rfl) ?_
    refine j_goto hC (tgt := 5) (by decide) (dOk_at dt_X0_countHeavy 22 rfl) ?_
    refine j_sub [1, 2, 3, 4, 0] rfl ?_
    exact hrec5 h x1 x2 x3 (x4 + (1 : Int32)) 
  have b5 : ∀ (fu : Nat) (h : Hp) (x1 : Int32) (x2 : Int32) (x3 : Int32) (x4 : Int32) , jJ p l e (rmD 0) s m args below meth c 5 sb D ids shp St (fun r => MQ below (jQi sb D ids shp St n r) args s 0 0 (jA sb)) n 0 0 h 5 [(0, .ref tt), (1, .int x1), (2, .int x2), (3, .int x3), (4, .int x4)] [] (fX0_countHeavy_5 fu tt h x1 x2 x3 x4) := by
    intro fu 
    induction fu with
    | zero => intro h x1 x2 x3 x4 ; exact j_none
    | succ fu ih =>
    intro h x1 x2 x3 x4 
    rw [fX0_countHeavy_5]
    refine j_iload hC 4 rfl (dOk_at dt_X0_countHeavy 4 rfl) ?_
    refine j_bipush hC (v := (8 : Int32)) rfl (dOk_at dt_X0_countHeavy 5 rfl) ?_
    refine j_icmp_ge hC (tgt := 42) (by decide) (dOk_at dt_X0_countHeavy 6 rfl) (fun q_1 => ?_) (fun q_1 => ?_)
    · refine j_iload_n hC 3 rfl rfl (dOk_at dt_X0_countHeavy 23 rfl) ?_
      exact j_iret hC hret (dOk_at dt_X0_countHeavy 24 rfl)
    · refine j_iload_n hC 1 rfl rfl (dOk_at dt_X0_countHeavy 7 rfl) ?_
      refine j_iload hC 4 rfl (dOk_at dt_X0_countHeavy 8 rfl) ?_
      refine j_ishr hC (dOk_at dt_X0_countHeavy 9 rfl) ?_
      refine j_iconst hC (v := (1 : Int32)) rfl (dOk_at dt_X0_countHeavy 10 rfl) ?_
      refine j_iand hC (dOk_at dt_X0_countHeavy 11 rfl) ?_
      refine j_iconst hC (v := (1 : Int32)) rfl (dOk_at dt_X0_countHeavy 12 rfl) ?_
      refine j_icmp_ne hC (tgt := 36) (by decide) (dOk_at dt_X0_countHeavy 13 rfl) (fun q_2 => ?_) (fun q_2 => ?_)
      · exact b36 (fX0_countHeavy_5 fu tt) ih h x1 x2 x3 x4 
      · refine j_aload_n hC 0 rfl rfl (dOk_at dt_X0_countHeavy 14 rfl) ?_
        refine j_getR hC flX0_20 ht (jlt hN ht (by decide)) (by decide) (by decide) (fun _ _ _ => rfl) (fun hs => hs _ _ _ (sf_0_1 ht).1) (dOk_at dt_X0_countHeavy 15 rfl) ?_
        refine j_iload hC 4 rfl (dOk_at dt_X0_countHeavy 16 rfl) ?_
        refine j_iald hC (sf_0_1 ht).2.1 (Nat.lt_of_lt_of_le (sf_0_1 ht).2.2 hN) (dOk_at dt_X0_countHeavy 17 rfl) ?_
        refine j_iload_n hC 2 rfl rfl (dOk_at dt_X0_countHeavy 18 rfl) ?_
        refine j_icmp_lt hC (tgt := 36) (by decide) (dOk_at dt_X0_countHeavy 19 rfl) (fun q_3 => ?_) (fun q_3 => ?_)
        · exact b36 (fX0_countHeavy_5 fu tt) ih h x1 x2 x3 x4 
        · refine j_iinc hC (v := (x3 + (1 : Int32))) (lv' := [(3, .int (x3 + (1 : Int32))), (0, .ref tt), (1, .int x1), (2, .int x2), (4, .int x4)]) 3 rfl (congrArg (fun z => x3 + z) (show Int32.ofInt (1) = (1 : Int32) from by decide)) (by decide) rfl (dOk_at dt_X0_countHeavy 20 rfl) ?_
          refine j_sub [1, 2, 3, 0, 4] rfl ?_
          exact b36 (fX0_countHeavy_5 fu tt) ih h x1 x2 (x3 + (1 : Int32)) x4 
  unfold fX0_countHeavy
  refine j_iconst hC (v := (0 : Int32)) rfl (dOk_at dt_X0_countHeavy 0 rfl) ?_
  refine j_istore_n hC rfl (lv' := [(3, .int (0 : Int32)), (0, .ref tt), (1, .int x1), (2, .int x2)]) (by decide) rfl (dOk_at dt_X0_countHeavy 1 rfl) ?_
  refine j_iconst hC (v := (0 : Int32)) rfl (dOk_at dt_X0_countHeavy 2 rfl) ?_
  refine j_istore hC (lv' := [(4, .int (0 : Int32)), (3, .int (0 : Int32)), (0, .ref tt), (1, .int x1), (2, .int x2)]) (by decide) rfl (dOk_at dt_X0_countHeavy 3 rfl) ?_
  refine j_sub [2, 3, 4, 1, 0] rfl ?_
  exact b5 FU h x1 x2 (0 : Int32) (0 : Int32) 
def tb_X0_hitByAny : List (Nat × Instr × Nat) := [(0, .iconst 0, 1), (1, .istore_n 2, 1), (2, .iconst 0, 1), (3, .istore_n 3, 1), (4, .iload_n 3, 1), (5, .bipush 8, 2), (7, .if_icmp .ge 27, 3), (10, .iload_n 1, 1), (11, .iload_n 3, 1), (12, .ishr, 1), (13, .iconst 1, 1), (14, .iand, 1), (15, .iconst 1, 1), (16, .if_icmp .ne 12, 3), (19, .iload_n 2, 1), (20, .aload_n 0, 1), (21, .getfield 27, 3), (24, .iload_n 3, 1), (25, .iaload, 1), (26, .ior, 1), (27, .istore_n 2, 1), (28, .iinc 3 1, 3), (31, .goto (-27), 3), (34, .iload_n 2, 1), (35, .ireturn, 1)]
theorem dt_X0_hitByAny : dOk cX0_hitByAny tb_X0_hitByAny = true := by decide +kernel
def fX0_hitByAny_28 (tt : Nat) (rec4 : Hp → Int32 → Int32 → Int32 → Option (Int32 × Hp)) (h : Hp) (x1 : Int32) (x2 : Int32) (x3 : Int32) : Option (Int32 × Hp) := rec4 h x1 x2 (x3 + (1 : Int32))
def fX0_hitByAny_4 : Nat → (Nat) → Hp → Int32 → Int32 → Int32 → Option (Int32 × Hp)
  | 0, _, _, _, _, _ => none
  | fu + 1, tt, h, x1, x2, x3 => if (8 : Int32) ≤ x3 then (some (x2, h)) else (if ((x1 >>> (x3 &&& 31)) &&& (1 : Int32)) = (1 : Int32) then (if inb x3 8 then (fX0_hitByAny_28 tt (fX0_hitByAny_4 fu tt) h x1 (x2 ||| (hI h (rf tt 3) (Int32.toNatClampNeg x3))) x3) else none) else (fX0_hitByAny_28 tt (fX0_hitByAny_4 fu tt) h x1 x2 x3))
def fX0_hitByAny (tt : Nat) (h : Hp) (x1 : Int32) : Option (Int32 × Hp) := fX0_hitByAny_4 FU tt h x1 (0 : Int32) (0 : Int32)
set_option maxRecDepth 100000 in
set_option maxHeartbeats 4000000 in
theorem c_X0_hitByAny {l : Launch} {sb : State} {D : va_G} {ids : Nat → ClassId} {n : Nat} (hN : 152 ≤ n) {tt : Nat} (ht : shp tt = (0, 12)) (h : Hp) (x1 : Int32) (r : Int32 × Hp) (hr : fX0_hitByAny tt h x1 = some r) : jM l yX0_hitByAny cX0_hitByAny 4 (some .int) 0 sb D ids shp St n [.ref tt, .int x1] h (jQi sb D ids shp St n r) := by
  refine jM_of hr rfl (Nat.le_of_ble_eq_true rfl) ?_
  intro p e s m args below meth c hC hret
  have b28 : ∀ (rec4 : Hp → Int32 → Int32 → Int32 → Option (Int32 × Hp)) (hrec4 : ∀ (h : Hp) (x1 : Int32) (x2 : Int32) (x3 : Int32) , jJ p l e (rmD 0) s m args below meth c 4 sb D ids shp St (fun r => MQ below (jQi sb D ids shp St n r) args s 0 0 (jA sb)) n 0 0 h 4 [(0, .ref tt), (1, .int x1), (2, .int x2), (3, .int x3)] [] (rec4 h x1 x2 x3)) (h : Hp) (x1 : Int32) (x2 : Int32) (x3 : Int32) , jJ p l e (rmD 0) s m args below meth c 4 sb D ids shp St (fun r => MQ below (jQi sb D ids shp St n r) args s 0 0 (jA sb)) n 0 0 h 28 [(0, .ref tt), (1, .int x1), (2, .int x2), (3, .int x3)] [] (fX0_hitByAny_28 tt rec4 h x1 x2 x3) := by
    intro rec4 hrec4 h x1 x2 x3 
    unfold fX0_hitByAny_28
    refine j_iinc hC (v := (x3 + (1 : Int32))) (lv' := [(3, .int (x3 + (1 : Int32))), (0, .ref tt), (1, .int x1), (2, .int x2)]) 3 rfl (congrArg (fun z => x3 + z) (show Int32.ofInt (1) = (1 : Int32) from by decide)) (by decide) rfl (dOk_at dt_X0_hitByAny 21 rfl) ?_
    refine j_goto hC (tgt := 4) (by decide) (dOk_at dt_X0_hitByAny 22 rfl) ?_
    refine j_sub [1, 2, 3, 0] rfl ?_
    exact hrec4 h x1 x2 (x3 + (1 : Int32)) 
  have b4 : ∀ (fu : Nat) (h : Hp) (x1 : Int32) (x2 : Int32) (x3 : Int32) , jJ p l e (rmD 0) s m args below meth c 4 sb D ids shp St (fun r => MQ below (jQi sb D ids shp St n r) args s 0 0 (jA sb)) n 0 0 h 4 [(0, .ref tt), (1, .int x1), (2, .int x2), (3, .int x3)] [] (fX0_hitByAny_4 fu tt h x1 x2 x3) := by
    intro fu 
    induction fu with
    | zero => intro h x1 x2 x3 ; exact j_none
    | succ fu ih =>
    intro h x1 x2 x3 
    rw [fX0_hitByAny_4]
    refine j_iload_n hC 3 rfl rfl (dOk_at dt_X0_hitByAny 4 rfl) ?_
    refine j_bipush hC (v := (8 : Int32)) rfl (dOk_at dt_X0_hitByAny 5 rfl) ?_
    refine j_icmp_ge hC (tgt := 34) (by decide) (dOk_at dt_X0_hitByAny 6 rfl) (fun q_1 => ?_) (fun q_1 => ?_)
    · refine j_iload_n hC 2 rfl rfl (dOk_at dt_X0_hitByAny 23 rfl) ?_
      exact j_iret hC hret (dOk_at dt_X0_hitByAny 24 rfl)
    · refine j_iload_n hC 1 rfl rfl (dOk_at dt_X0_hitByAny 7 rfl) ?_
      refine j_iload_n hC 3 rfl rfl (dOk_at dt_X0_hitByAny 8 rfl) ?_
      refine j_ishr hC (dOk_at dt_X0_hitByAny 9 rfl) ?_
      refine j_iconst hC (v := (1 : Int32)) rfl (dOk_at dt_X0_hitByAny 10 rfl) ?_
      refine j_iand hC (dOk_at dt_X0_hitByAny 11 rfl) ?_
      refine j_iconst hC (v := (1 : Int32)) rfl (dOk_at dt_X0_hitByAny 12 rfl) ?_
      refine j_icmp_ne hC (tgt := 28) (by decide) (dOk_at dt_X0_hitByAny 13 rfl) (fun q_2 => ?_) (fun q_2 => ?_)
      · exact b28 (fX0_hitByAny_4 fu tt) ih h x1 x2 x3 
      · refine j_iload_n hC 2 rfl rfl (dOk_at dt_X0_hitByAny 14 rfl) ?_
        refine j_aload_n hC 0 rfl rfl (dOk_at dt_X0_hitByAny 15 rfl) ?_
        refine j_getR hC flX0_27 ht (jlt hN ht (by decide)) (by decide) (by decide) (fun _ _ _ => rfl) (fun hs => hs _ _ _ (sf_0_3 ht).1) (dOk_at dt_X0_hitByAny 16 rfl) ?_
        refine j_iload_n hC 3 rfl rfl (dOk_at dt_X0_hitByAny 17 rfl) ?_
        refine j_iald hC (sf_0_3 ht).2.1 (Nat.lt_of_lt_of_le (sf_0_3 ht).2.2 hN) (dOk_at dt_X0_hitByAny 18 rfl) ?_
        refine j_ior hC (dOk_at dt_X0_hitByAny 19 rfl) ?_
        refine j_istore_n hC rfl (lv' := [(2, .int (x2 ||| (hI h (rf tt 3) (Int32.toNatClampNeg x3)))), (0, .ref tt), (1, .int x1), (3, .int x3)]) (by decide) rfl (dOk_at dt_X0_hitByAny 20 rfl) ?_
        refine j_sub [1, 2, 0, 3] rfl ?_
        exact b28 (fX0_hitByAny_4 fu tt) ih h x1 (x2 ||| (hI h (rf tt 3) (Int32.toNatClampNeg x3))) x3 
  unfold fX0_hitByAny
  refine j_iconst hC (v := (0 : Int32)) rfl (dOk_at dt_X0_hitByAny 0 rfl) ?_
  refine j_istore_n hC rfl (lv' := [(2, .int (0 : Int32)), (0, .ref tt), (1, .int x1)]) (by decide) rfl (dOk_at dt_X0_hitByAny 1 rfl) ?_
  refine j_iconst hC (v := (0 : Int32)) rfl (dOk_at dt_X0_hitByAny 2 rfl) ?_
  refine j_istore_n hC rfl (lv' := [(3, .int (0 : Int32)), (2, .int (0 : Int32)), (0, .ref tt), (1, .int x1)]) (by decide) rfl (dOk_at dt_X0_hitByAny 3 rfl) ?_
  refine j_sub [2, 3, 1, 0] rfl ?_
  exact b4 FU h x1 (0 : Int32) (0 : Int32) 
def tb_X0_foesOfAny : List (Nat × Instr × Nat) := [(0, .iconst 0, 1), (1, .istore_n 2, 1), (2, .iconst 0, 1), (3, .istore_n 3, 1), (4, .iload_n 3, 1), (5, .bipush 8, 2), (7, .if_icmp .ge 27, 3), (10, .iload_n 1, 1), (11, .iload_n 3, 1), (12, .ishr, 1), (13, .iconst 1, 1), (14, .iand, 1), (15, .iconst 1, 1), (16, .if_icmp .ne 12, 3), (19, .iload_n 2, 1), (20, .aload_n 0, 1), (21, .getfield 30, 3), (24, .iload_n 3, 1), (25, .iaload, 1), (26, .ior, 1), (27, .istore_n 2, 1), (28, .iinc 3 1, 3), (31, .goto (-27), 3), (34, .iload_n 2, 1), (35, .ireturn, 1)]
theorem dt_X0_foesOfAny : dOk cX0_foesOfAny tb_X0_foesOfAny = true := by decide +kernel
def fX0_foesOfAny_28 (tt : Nat) (rec4 : Hp → Int32 → Int32 → Int32 → Option (Int32 × Hp)) (h : Hp) (x1 : Int32) (x2 : Int32) (x3 : Int32) : Option (Int32 × Hp) := rec4 h x1 x2 (x3 + (1 : Int32))
def fX0_foesOfAny_4 : Nat → (Nat) → Hp → Int32 → Int32 → Int32 → Option (Int32 × Hp)
  | 0, _, _, _, _, _ => none
  | fu + 1, tt, h, x1, x2, x3 => if (8 : Int32) ≤ x3 then (some (x2, h)) else (if ((x1 >>> (x3 &&& 31)) &&& (1 : Int32)) = (1 : Int32) then (if inb x3 8 then (fX0_foesOfAny_28 tt (fX0_foesOfAny_4 fu tt) h x1 (x2 ||| (hI h (rf tt 4) (Int32.toNatClampNeg x3))) x3) else none) else (fX0_foesOfAny_28 tt (fX0_foesOfAny_4 fu tt) h x1 x2 x3))
def fX0_foesOfAny (tt : Nat) (h : Hp) (x1 : Int32) : Option (Int32 × Hp) := fX0_foesOfAny_4 FU tt h x1 (0 : Int32) (0 : Int32)
set_option maxRecDepth 100000 in
set_option maxHeartbeats 4000000 in
theorem c_X0_foesOfAny {l : Launch} {sb : State} {D : va_G} {ids : Nat → ClassId} {n : Nat} (hN : 152 ≤ n) {tt : Nat} (ht : shp tt = (0, 12)) (h : Hp) (x1 : Int32) (r : Int32 × Hp) (hr : fX0_foesOfAny tt h x1 = some r) : jM l yX0_foesOfAny cX0_foesOfAny 4 (some .int) 0 sb D ids shp St n [.ref tt, .int x1] h (jQi sb D ids shp St n r) := by
  refine jM_of hr rfl (Nat.le_of_ble_eq_true rfl) ?_
  intro p e s m args below meth c hC hret
  have b28 : ∀ (rec4 : Hp → Int32 → Int32 → Int32 → Option (Int32 × Hp)) (hrec4 : ∀ (h : Hp) (x1 : Int32) (x2 : Int32) (x3 : Int32) , jJ p l e (rmD 0) s m args below meth c 4 sb D ids shp St (fun r => MQ below (jQi sb D ids shp St n r) args s 0 0 (jA sb)) n 0 0 h 4 [(0, .ref tt), (1, .int x1), (2, .int x2), (3, .int x3)] [] (rec4 h x1 x2 x3)) (h : Hp) (x1 : Int32) (x2 : Int32) (x3 : Int32) , jJ p l e (rmD 0) s m args below meth c 4 sb D ids shp St (fun r => MQ below (jQi sb D ids shp St n r) args s 0 0 (jA sb)) n 0 0 h 28 [(0, .ref tt), (1, .int x1), (2, .int x2), (3, .int x3)] [] (fX0_foesOfAny_28 tt rec4 h x1 x2 x3) := by
    intro rec4 hrec4 h x1 x2 x3 
    unfold fX0_foesOfAny_28
    refine j_iinc hC (v := (x3 + (1 : Int32))) (lv' := [(3, .int (x3 + (1 : Int32))), (0, .ref tt), (1, .int x1), (2, .int x2)]) 3 rfl (congrArg (fun z => x3 + z) (show Int32.ofInt (1) = (1 : Int32) from by decide)) (by decide) rfl (dOk_at dt_X0_foesOfAny 21 rfl) ?_
    refine j_goto hC (tgt := 4) (by decide) (dOk_at dt_X0_foesOfAny 22 rfl) ?_
    refine j_sub [1, 2, 3, 0] rfl ?_
    exact hrec4 h x1 x2 (x3 + (1 : Int32)) 
  have b4 : ∀ (fu : Nat) (h : Hp) (x1 : Int32) (x2 : Int32) (x3 : Int32) , jJ p l e (rmD 0) s m args below meth c 4 sb D ids shp St (fun r => MQ below (jQi sb D ids shp St n r) args s 0 0 (jA sb)) n 0 0 h 4 [(0, .ref tt), (1, .int x1), (2, .int x2), (3, .int x3)] [] (fX0_foesOfAny_4 fu tt h x1 x2 x3) := by
    intro fu 
    induction fu with
    | zero => intro h x1 x2 x3 ; exact j_none
    | succ fu ih =>
    intro h x1 x2 x3 
    rw [fX0_foesOfAny_4]
    refine j_iload_n hC 3 rfl rfl (dOk_at dt_X0_foesOfAny 4 rfl) ?_
    refine j_bipush hC (v := (8 : Int32)) rfl (dOk_at dt_X0_foesOfAny 5 rfl) ?_
    refine j_icmp_ge hC (tgt := 34) (by decide) (dOk_at dt_X0_foesOfAny 6 rfl) (fun q_1 => ?_) (fun q_1 => ?_)
    · refine j_iload_n hC 2 rfl rfl (dOk_at dt_X0_foesOfAny 23 rfl) ?_
      exact j_iret hC hret (dOk_at dt_X0_foesOfAny 24 rfl)
    · refine j_iload_n hC 1 rfl rfl (dOk_at dt_X0_foesOfAny 7 rfl) ?_
      refine j_iload_n hC 3 rfl rfl (dOk_at dt_X0_foesOfAny 8 rfl) ?_
      refine j_ishr hC (dOk_at dt_X0_foesOfAny 9 rfl) ?_
      refine j_iconst hC (v := (1 : Int32)) rfl (dOk_at dt_X0_foesOfAny 10 rfl) ?_
      refine j_iand hC (dOk_at dt_X0_foesOfAny 11 rfl) ?_
      refine j_iconst hC (v := (1 : Int32)) rfl (dOk_at dt_X0_foesOfAny 12 rfl) ?_
      refine j_icmp_ne hC (tgt := 28) (by decide) (dOk_at dt_X0_foesOfAny 13 rfl) (fun q_2 => ?_) (fun q_2 => ?_)
      · exact b28 (fX0_foesOfAny_4 fu tt) ih h x1 x2 x3 
      · refine j_iload_n hC 2 rfl rfl (dOk_at dt_X0_foesOfAny 14 rfl) ?_
        refine j_aload_n hC 0 rfl rfl (dOk_at dt_X0_foesOfAny 15 rfl) ?_
        refine j_getR hC flX0_30 ht (jlt hN ht (by decide)) (by decide) (by decide) (fun _ _ _ => rfl) (fun hs => hs _ _ _ (sf_0_4 ht).1) (dOk_at dt_X0_foesOfAny 16 rfl) ?_
        refine j_iload_n hC 3 rfl rfl (dOk_at dt_X0_foesOfAny 17 rfl) ?_
        refine j_iald hC (sf_0_4 ht).2.1 (Nat.lt_of_lt_of_le (sf_0_4 ht).2.2 hN) (dOk_at dt_X0_foesOfAny 18 rfl) ?_
        refine j_ior hC (dOk_at dt_X0_foesOfAny 19 rfl) ?_
        refine j_istore_n hC rfl (lv' := [(2, .int (x2 ||| (hI h (rf tt 4) (Int32.toNatClampNeg x3)))), (0, .ref tt), (1, .int x1), (3, .int x3)]) (by decide) rfl (dOk_at dt_X0_foesOfAny 20 rfl) ?_
        refine j_sub [1, 2, 0, 3] rfl ?_
        exact b28 (fX0_foesOfAny_4 fu tt) ih h x1 (x2 ||| (hI h (rf tt 4) (Int32.toNatClampNeg x3))) x3 
  unfold fX0_foesOfAny
  refine j_iconst hC (v := (0 : Int32)) rfl (dOk_at dt_X0_foesOfAny 0 rfl) ?_
  refine j_istore_n hC rfl (lv' := [(2, .int (0 : Int32)), (0, .ref tt), (1, .int x1)]) (by decide) rfl (dOk_at dt_X0_foesOfAny 1 rfl) ?_
  refine j_iconst hC (v := (0 : Int32)) rfl (dOk_at dt_X0_foesOfAny 2 rfl) ?_
  refine j_istore_n hC rfl (lv' := [(3, .int (0 : Int32)), (2, .int (0 : Int32)), (0, .ref tt), (1, .int x1)]) (by decide) rfl (dOk_at dt_X0_foesOfAny 3 rfl) ?_
  refine j_sub [2, 3, 1, 0] rfl ?_
  exact b4 FU h x1 (0 : Int32) (0 : Int32) 
def tb_X0_isCalm : List (Nat × Instr × Nat) := [(0, .aload_n 0, 1), (1, .iload_n 1, 1), (2, .invokevirtual 69, 3), (5, .iload_n 1, 1), (6, .iand, 1), (7, .ifCond .ne 7, 3), (10, .iconst 1, 1), (11, .goto 4, 3), (14, .iconst 0, 1), (15, .ireturn, 1)]
theorem dt_X0_isCalm : dOk cX0_isCalm tb_X0_isCalm = true := by decide +kernel
def fX0_isCalm (tt : Nat) (h : Hp) (x1 : Int32) : Option (Int32 × Hp) := bnd (fX0_hitByAny tt h x1) (fun v_1 h_2 => if (v_1 &&& x1) = 0 then (some ((1 : Int32), h_2)) else (some ((0 : Int32), h_2)))
set_option maxRecDepth 100000 in
set_option maxHeartbeats 4000000 in
theorem c_X0_isCalm {l : Launch} {sb : State} {D : va_G} {ids : Nat → ClassId} {n : Nat} (hN : 152 ≤ n) {tt : Nat} (ht : shp tt = (0, 12)) (h : Hp) (x1 : Int32) (r : Int32 × Hp) (hr : fX0_isCalm tt h x1 = some r) : jM l yX0_isCalm cX0_isCalm 2 (some .boolean) 1 sb D ids shp St n [.ref tt, .int x1] h (jQi sb D ids shp St n r) := by
  refine jM_of hr rfl (Nat.le_of_ble_eq_true rfl) ?_
  intro p e s m args below meth c hC hret
  unfold fX0_isCalm
  refine j_aload_n hC 0 rfl rfl (dOk_at dt_X0_isCalm 0 rfl) ?_
  refine j_iload_n hC 1 rfl rfl (dOk_at dt_X0_isCalm 1 rfl) ?_
  refine j_callVi hC clX0_69 (fun rz hrz => c_X0_hitByAny hN (ht) _ _ rz hrz) ht (jlt hN ht (by decide)) (by decide) rfl rfl ⟨Nat.le_of_ble_eq_true rfl, Nat.le_of_ble_eq_true rfl⟩ ⟨Nat.le_refl 0, Nat.le_refl 0⟩ (As := [.int x1]) (st := []) rfl (Nat.le_of_ble_eq_true rfl) (dOk_at dt_X0_isCalm 2 rfl) (fun v_1 h_2 _ => ?_)
  refine j_iload_n hC 1 rfl rfl (dOk_at dt_X0_isCalm 3 rfl) ?_
  refine j_iand hC (dOk_at dt_X0_isCalm 4 rfl) ?_
  refine j_if_ne hC (tgt := 14) (by decide) (dOk_at dt_X0_isCalm 5 rfl) (fun q_3 => ?_) (fun q_3 => ?_)
  · refine j_iconst hC (v := (0 : Int32)) rfl (dOk_at dt_X0_isCalm 8 rfl) ?_
    exact j_zretK hC hret rfl (dOk_at dt_X0_isCalm 9 rfl)
  · refine j_iconst hC (v := (1 : Int32)) rfl (dOk_at dt_X0_isCalm 6 rfl) ?_
    refine j_goto hC (tgt := 15) (by decide) (dOk_at dt_X0_isCalm 7 rfl) ?_
    exact j_zretK hC hret rfl (dOk_at dt_X0_isCalm 9 rfl)
def tb_X0_isStanding : List (Nat × Instr × Nat) := [(0, .aload_n 0, 1), (1, .iload_n 1, 1), (2, .invokevirtual 69, 3), (5, .istore_n 2, 1), (6, .iload_n 2, 1), (7, .iload_n 1, 1), (8, .iand, 1), (9, .ifCond .ne 17, 3), (12, .iload_n 2, 1), (13, .iload_n 1, 1), (14, .ior, 1), (15, .aload_n 0, 1), (16, .invokevirtual 73, 3), (19, .if_icmp .ne 7, 3), (22, .iconst 1, 1), (23, .goto 4, 3), (26, .iconst 0, 1), (27, .ireturn, 1)]
theorem dt_X0_isStanding : dOk cX0_isStanding tb_X0_isStanding = true := by decide +kernel
def fX0_isStanding (tt : Nat) (h : Hp) (x1 : Int32) : Option (Int32 × Hp) := bnd (fX0_hitByAny tt h x1) (fun v_1 h_2 => if (v_1 &&& x1) = 0 then (bnd (fX0_all tt h_2) (fun v_4 h_5 => if (v_1 ||| x1) = v_4 then (some ((1 : Int32), h_5)) else (some ((0 : Int32), h_5)))) else (some ((0 : Int32), h_2)))
set_option maxRecDepth 100000 in
set_option maxHeartbeats 4000000 in
theorem c_X0_isStanding {l : Launch} {sb : State} {D : va_G} {ids : Nat → ClassId} {n : Nat} (hN : 152 ≤ n) {tt : Nat} (ht : shp tt = (0, 12)) (h : Hp) (x1 : Int32) (r : Int32 × Hp) (hr : fX0_isStanding tt h x1 = some r) : jM l yX0_isStanding cX0_isStanding 3 (some .boolean) 1 sb D ids shp St n [.ref tt, .int x1] h (jQi sb D ids shp St n r) := by
  refine jM_of hr rfl (Nat.le_of_ble_eq_true rfl) ?_
  intro p e s m args below meth c hC hret
  unfold fX0_isStanding
  refine j_aload_n hC 0 rfl rfl (dOk_at dt_X0_isStanding 0 rfl) ?_
  refine j_iload_n hC 1 rfl rfl (dOk_at dt_X0_isStanding 1 rfl) ?_
  refine j_callVi hC clX0_69 (fun rz hrz => c_X0_hitByAny hN (ht) _ _ rz hrz) ht (jlt hN ht (by decide)) (by decide) rfl rfl ⟨Nat.le_of_ble_eq_true rfl, Nat.le_of_ble_eq_true rfl⟩ ⟨Nat.le_refl 0, Nat.le_refl 0⟩ (As := [.int x1]) (st := []) rfl (Nat.le_of_ble_eq_true rfl) (dOk_at dt_X0_isStanding 2 rfl) (fun v_1 h_2 _ => ?_)
  refine j_istore_n hC rfl (lv' := [(2, .int v_1), (0, .ref tt), (1, .int x1)]) (by decide) rfl (dOk_at dt_X0_isStanding 3 rfl) ?_
  refine j_iload_n hC 0 rfl rfl (dOk_at dt_X0_isStanding 4 rfl) ?_
  refine j_iload_n hC 2 rfl rfl (dOk_at dt_X0_isStanding 5 rfl) ?_
  refine j_iand hC (dOk_at dt_X0_isStanding 6 rfl) ?_
  refine j_if_ne hC (tgt := 26) (by decide) (dOk_at dt_X0_isStanding 7 rfl) (fun q_3 => ?_) (fun q_3 => ?_)
  · refine j_iconst hC (v := (0 : Int32)) rfl (dOk_at dt_X0_isStanding 16 rfl) ?_
    exact j_zretK hC hret rfl (dOk_at dt_X0_isStanding 17 rfl)
  · refine j_iload_n hC 0 rfl rfl (dOk_at dt_X0_isStanding 8 rfl) ?_
    refine j_iload_n hC 2 rfl rfl (dOk_at dt_X0_isStanding 9 rfl) ?_
    refine j_ior hC (dOk_at dt_X0_isStanding 10 rfl) ?_
    refine j_aload_n hC 1 rfl rfl (dOk_at dt_X0_isStanding 11 rfl) ?_
    refine j_callVi hC clX0_73 (fun rz hrz => c_X0_all hN (ht) _ rz hrz) ht (jlt hN ht (by decide)) (by decide) rfl rfl ⟨Nat.le_of_ble_eq_true rfl, Nat.le_of_ble_eq_true rfl⟩ ⟨Nat.le_refl 0, Nat.le_refl 0⟩ (As := []) (st := [.int (v_1 ||| x1)]) rfl (Nat.le_of_ble_eq_true rfl) (dOk_at dt_X0_isStanding 12 rfl) (fun v_4 h_5 _ => ?_)
    refine j_icmp_ne hC (tgt := 26) (by decide) (dOk_at dt_X0_isStanding 13 rfl) (fun q_6 => ?_) (fun q_6 => ?_)
    · refine j_iconst hC (v := (0 : Int32)) rfl (dOk_at dt_X0_isStanding 16 rfl) ?_
      exact j_zretK hC hret rfl (dOk_at dt_X0_isStanding 17 rfl)
    · refine j_iconst hC (v := (1 : Int32)) rfl (dOk_at dt_X0_isStanding 14 rfl) ?_
      refine j_goto hC (tgt := 27) (by decide) (dOk_at dt_X0_isStanding 15 rfl) ?_
      exact j_zretK hC hret rfl (dOk_at dt_X0_isStanding 17 rfl)
def tb_X0_isDefended : List (Nat × Instr × Nat) := [(0, .aload_n 0, 1), (1, .iload_n 1, 1), (2, .invokevirtual 69, 3), (5, .istore_n 2, 1), (6, .iload_n 2, 1), (7, .iload_n 1, 1), (8, .iand, 1), (9, .ifCond .ne 19, 3), (12, .aload_n 0, 1), (13, .iload_n 1, 1), (14, .invokevirtual 77, 3), (17, .iload_n 2, 1), (18, .iconst (-1), 1), (19, .ixor, 1), (20, .iand, 1), (21, .ifCond .ne 7, 3), (24, .iconst 1, 1), (25, .goto 4, 3), (28, .iconst 0, 1), (29, .ireturn, 1)]
theorem dt_X0_isDefended : dOk cX0_isDefended tb_X0_isDefended = true := by decide +kernel
def fX0_isDefended (tt : Nat) (h : Hp) (x1 : Int32) : Option (Int32 × Hp) := bnd (fX0_hitByAny tt h x1) (fun v_1 h_2 => if (v_1 &&& x1) = 0 then (bnd (fX0_foesOfAny tt h_2 x1) (fun v_4 h_5 => if (v_4 &&& (v_1 ^^^ (-1 : Int32))) = 0 then (some ((1 : Int32), h_5)) else (some ((0 : Int32), h_5)))) else (some ((0 : Int32), h_2)))
set_option maxRecDepth 100000 in
set_option maxHeartbeats 4000000 in
theorem c_X0_isDefended {l : Launch} {sb : State} {D : va_G} {ids : Nat → ClassId} {n : Nat} (hN : 152 ≤ n) {tt : Nat} (ht : shp tt = (0, 12)) (h : Hp) (x1 : Int32) (r : Int32 × Hp) (hr : fX0_isDefended tt h x1 = some r) : jM l yX0_isDefended cX0_isDefended 3 (some .boolean) 1 sb D ids shp St n [.ref tt, .int x1] h (jQi sb D ids shp St n r) := by
  refine jM_of hr rfl (Nat.le_of_ble_eq_true rfl) ?_
  intro p e s m args below meth c hC hret
  unfold fX0_isDefended
  refine j_aload_n hC 0 rfl rfl (dOk_at dt_X0_isDefended 0 rfl) ?_
  refine j_iload_n hC 1 rfl rfl (dOk_at dt_X0_isDefended 1 rfl) ?_
  refine j_callVi hC clX0_69 (fun rz hrz => c_X0_hitByAny hN (ht) _ _ rz hrz) ht (jlt hN ht (by decide)) (by decide) rfl rfl ⟨Nat.le_of_ble_eq_true rfl, Nat.le_of_ble_eq_true rfl⟩ ⟨Nat.le_refl 0, Nat.le_refl 0⟩ (As := [.int x1]) (st := []) rfl (Nat.le_of_ble_eq_true rfl) (dOk_at dt_X0_isDefended 2 rfl) (fun v_1 h_2 _ => ?_)
  refine j_istore_n hC rfl (lv' := [(2, .int v_1), (0, .ref tt), (1, .int x1)]) (by decide) rfl (dOk_at dt_X0_isDefended 3 rfl) ?_
  refine j_iload_n hC 0 rfl rfl (dOk_at dt_X0_isDefended 4 rfl) ?_
  refine j_iload_n hC 2 rfl rfl (dOk_at dt_X0_isDefended 5 rfl) ?_
  refine j_iand hC (dOk_at dt_X0_isDefended 6 rfl) ?_
  refine j_if_ne hC (tgt := 28) (by decide) (dOk_at dt_X0_isDefended 7 rfl) (fun q_3 => ?_) (fun q_3 => ?_)
  · refine j_iconst hC (v := (0 : Int32)) rfl (dOk_at dt_X0_isDefended 18 rfl) ?_
    exact j_zretK hC hret rfl (dOk_at dt_X0_isDefended 19 rfl)
  · refine j_aload_n hC 1 rfl rfl (dOk_at dt_X0_isDefended 8 rfl) ?_
    refine j_iload_n hC 2 rfl rfl (dOk_at dt_X0_isDefended 9 rfl) ?_
    refine j_callVi hC clX0_77 (fun rz hrz => c_X0_foesOfAny hN (ht) _ _ rz hrz) ht (jlt hN ht (by decide)) (by decide) rfl rfl ⟨Nat.le_of_ble_eq_true rfl, Nat.le_of_ble_eq_true rfl⟩ ⟨Nat.le_refl 0, Nat.le_refl 0⟩ (As := [.int x1]) (st := []) rfl (Nat.le_of_ble_eq_true rfl) (dOk_at dt_X0_isDefended 10 rfl) (fun v_4 h_5 _ => ?_)
    refine j_iload_n hC 0 rfl rfl (dOk_at dt_X0_isDefended 11 rfl) ?_
    refine j_iconst hC (v := (-1 : Int32)) rfl (dOk_at dt_X0_isDefended 12 rfl) ?_
    refine j_ixor hC (dOk_at dt_X0_isDefended 13 rfl) ?_
    refine j_iand hC (dOk_at dt_X0_isDefended 14 rfl) ?_
    refine j_if_ne hC (tgt := 28) (by decide) (dOk_at dt_X0_isDefended 15 rfl) (fun q_6 => ?_) (fun q_6 => ?_)
    · refine j_iconst hC (v := (0 : Int32)) rfl (dOk_at dt_X0_isDefended 18 rfl) ?_
      exact j_zretK hC hret rfl (dOk_at dt_X0_isDefended 19 rfl)
    · refine j_iconst hC (v := (1 : Int32)) rfl (dOk_at dt_X0_isDefended 16 rfl) ?_
      refine j_goto hC (tgt := 29) (by decide) (dOk_at dt_X0_isDefended 17 rfl) ?_
      exact j_zretK hC hret rfl (dOk_at dt_X0_isDefended 19 rfl)
def tb_X0_standingCount : List (Nat × Instr × Nat) := [(0, .aload_n 0, 1), (1, .invokevirtual 73, 3), (4, .istore_n 1, 1), (5, .iconst 0, 1), (6, .istore_n 2, 1), (7, .iconst 0, 1), (8, .istore_n 3, 1), (9, .iload_n 3, 1), (10, .iload_n 1, 1), (11, .if_icmp .gt 20, 3), (14, .aload_n 0, 1), (15, .iload_n 3, 1), (16, .invokevirtual 80, 3), (19, .ifCond .eq 6, 3), (22, .iinc 2 1, 3), (25, .iinc 3 1, 3), (28, .goto (-19), 3), (31, .iload_n 2, 1), (32, .ireturn, 1)]
theorem dt_X0_standingCount : dOk cX0_standingCount tb_X0_standingCount = true := by decide +kernel
def fX0_standingCount_25 (tt : Nat) (rec9 : Hp → Int32 → Int32 → Int32 → Option (Int32 × Hp)) (h : Hp) (x1 : Int32) (x2 : Int32) (x3 : Int32) : Option (Int32 × Hp) := rec9 h x1 x2 (x3 + (1 : Int32))
def fX0_standingCount_9 : Nat → (Nat) → Hp → Int32 → Int32 → Int32 → Option (Int32 × Hp)
  | 0, _, _, _, _, _ => none
  | fu + 1, tt, h, x1, x2, x3 => if x1 < x3 then (some (x2, h)) else (bnd (fX0_isStanding tt h x3) (fun v_4 h_5 => if v_4 = 0 then (fX0_standingCount_25 tt (fX0_standingCount_9 fu tt) h_5 x1 x2 x3) else (fX0_standingCount_25 tt (fX0_standingCount_9 fu tt) h_5 x1 (x2 + (1 : Int32)) x3)))
def fX0_standingCount (tt : Nat) (h : Hp) : Option (Int32 × Hp) := bnd (fX0_all tt h) (fun v_1 h_2 => fX0_standingCount_9 FU tt h_2 v_1 (0 : Int32) (0 : Int32))
set_option maxRecDepth 100000 in
set_option maxHeartbeats 4000000 in
theorem c_X0_standingCount {l : Launch} {sb : State} {D : va_G} {ids : Nat → ClassId} {n : Nat} (hN : 152 ≤ n) {tt : Nat} (ht : shp tt = (0, 12)) (h : Hp) (r : Int32 × Hp) (hr : fX0_standingCount tt h = some r) : jM l yX0_standingCount cX0_standingCount 4 (some .int) 2 sb D ids shp St n [.ref tt] h (jQi sb D ids shp St n r) := by
  refine jM_of hr rfl (Nat.le_of_ble_eq_true rfl) ?_
  intro p e s m args below meth c hC hret
  have b25 : ∀ (rec9 : Hp → Int32 → Int32 → Int32 → Option (Int32 × Hp)) (hrec9 : ∀ (h : Hp) (x1 : Int32) (x2 : Int32) (x3 : Int32) , jJ p l e (rmD 2) s m args below meth c 4 sb D ids shp St (fun r => MQ below (jQi sb D ids shp St n r) args s 0 0 (jA sb)) n 0 0 h 9 [(0, .ref tt), (1, .int x1), (2, .int x2), (3, .int x3)] [] (rec9 h x1 x2 x3)) (h : Hp) (x1 : Int32) (x2 : Int32) (x3 : Int32) , jJ p l e (rmD 2) s m args below meth c 4 sb D ids shp St (fun r => MQ below (jQi sb D ids shp St n r) args s 0 0 (jA sb)) n 0 0 h 25 [(0, .ref tt), (1, .int x1), (2, .int x2), (3, .int x3)] [] (fX0_standingCount_25 tt rec9 h x1 x2 x3) := by
    intro rec9 hrec9 h x1 x2 x3 
    unfold fX0_standingCount_25
    refine j_iinc hC (v := (x3 + (1 : Int32))) (lv' := [(3, .int (x3 + (1 : Int32))), (0, .ref tt), (1, .int x1), (2, .int x2)]) 3 rfl (congrArg (fun z => x3 + z) (show Int32.ofInt (1) = (1 : Int32) from by decide)) (by decide) rfl (dOk_at dt_X0_standingCount 15 rfl) ?_
    refine j_goto hC (tgt := 9) (by decide) (dOk_at dt_X0_standingCount 16 rfl) ?_
    refine j_sub [1, 2, 3, 0] rfl ?_
    exact hrec9 h x1 x2 (x3 + (1 : Int32)) 
  have b9 : ∀ (fu : Nat) (h : Hp) (x1 : Int32) (x2 : Int32) (x3 : Int32) , jJ p l e (rmD 2) s m args below meth c 4 sb D ids shp St (fun r => MQ below (jQi sb D ids shp St n r) args s 0 0 (jA sb)) n 0 0 h 9 [(0, .ref tt), (1, .int x1), (2, .int x2), (3, .int x3)] [] (fX0_standingCount_9 fu tt h x1 x2 x3) := by
    intro fu 
    induction fu with
    | zero => intro h x1 x2 x3 ; exact j_none
    | succ fu ih =>
    intro h x1 x2 x3 
    rw [fX0_standingCount_9]
    refine j_iload_n hC 3 rfl rfl (dOk_at dt_X0_standingCount 7 rfl) ?_
    refine j_iload_n hC 1 rfl rfl (dOk_at dt_X0_standingCount 8 rfl) ?_
    refine j_icmp_gt hC (tgt := 31) (by decide) (dOk_at dt_X0_standingCount 9 rfl) (fun q_3 => ?_) (fun q_3 => ?_)
    · refine j_iload_n hC 2 rfl rfl (dOk_at dt_X0_standingCount 17 rfl) ?_
      exact j_iret hC hret (dOk_at dt_X0_standingCount 18 rfl)
    · refine j_aload_n hC 0 rfl rfl (dOk_at dt_X0_standingCount 10 rfl) ?_
      refine j_iload_n hC 3 rfl rfl (dOk_at dt_X0_standingCount 11 rfl) ?_
      refine j_callVi hC clX0_80 (fun rz hrz => c_X0_isStanding hN (ht) _ _ rz hrz) ht (jlt hN ht (by decide)) (by decide) rfl rfl ⟨Nat.le_of_ble_eq_true rfl, Nat.le_of_ble_eq_true rfl⟩ ⟨Nat.le_refl 0, Nat.le_refl 0⟩ (As := [.int x3]) (st := []) rfl (Nat.le_of_ble_eq_true rfl) (dOk_at dt_X0_standingCount 12 rfl) (fun v_4 h_5 _ => ?_)
      refine j_if_eq hC (tgt := 25) (by decide) (dOk_at dt_X0_standingCount 13 rfl) (fun q_6 => ?_) (fun q_6 => ?_)
      · exact b25 (fX0_standingCount_9 fu tt) ih h_5 x1 x2 x3 
      · refine j_iinc hC (v := (x2 + (1 : Int32))) (lv' := [(2, .int (x2 + (1 : Int32))), (0, .ref tt), (1, .int x1), (3, .int x3)]) 2 rfl (congrArg (fun z => x2 + z) (show Int32.ofInt (1) = (1 : Int32) from by decide)) (by decide) rfl (dOk_at dt_X0_standingCount 14 rfl) ?_
        refine j_sub [1, 2, 0, 3] rfl ?_
        exact b25 (fX0_standingCount_9 fu tt) ih h_5 x1 (x2 + (1 : Int32)) x3 
  unfold fX0_standingCount
  refine j_aload_n hC 0 rfl rfl (dOk_at dt_X0_standingCount 0 rfl) ?_
  refine j_callVi hC clX0_73 (fun rz hrz => c_X0_all hN (ht) _ rz hrz) ht (jlt hN ht (by decide)) (by decide) rfl rfl ⟨Nat.le_of_ble_eq_true rfl, Nat.le_of_ble_eq_true rfl⟩ ⟨Nat.le_refl 0, Nat.le_refl 0⟩ (As := []) (st := []) rfl (Nat.le_of_ble_eq_true rfl) (dOk_at dt_X0_standingCount 1 rfl) (fun v_1 h_2 _ => ?_)
  refine j_istore_n hC rfl (lv' := [(1, .int v_1), (0, .ref tt)]) (by decide) rfl (dOk_at dt_X0_standingCount 2 rfl) ?_
  refine j_iconst hC (v := (0 : Int32)) rfl (dOk_at dt_X0_standingCount 3 rfl) ?_
  refine j_istore_n hC rfl (lv' := [(2, .int (0 : Int32)), (1, .int v_1), (0, .ref tt)]) (by decide) rfl (dOk_at dt_X0_standingCount 4 rfl) ?_
  refine j_iconst hC (v := (0 : Int32)) rfl (dOk_at dt_X0_standingCount 5 rfl) ?_
  refine j_istore_n hC rfl (lv' := [(3, .int (0 : Int32)), (2, .int (0 : Int32)), (1, .int v_1), (0, .ref tt)]) (by decide) rfl (dOk_at dt_X0_standingCount 6 rfl) ?_
  refine j_sub [3, 2, 1, 0] rfl ?_
  exact b9 FU h_2 v_1 (0 : Int32) (0 : Int32) 
def tb_X0_inAllStanding : List (Nat × Instr × Nat) := [(0, .aload_n 0, 1), (1, .invokevirtual 73, 3), (4, .istore_n 1, 1), (5, .iload_n 1, 1), (6, .istore_n 2, 1), (7, .iconst 0, 1), (8, .istore_n 3, 1), (9, .iconst 0, 1), (10, .istore 4, 2), (12, .iload 4, 2), (14, .iload_n 1, 1), (15, .if_icmp .gt 25, 3), (18, .aload_n 0, 1), (19, .iload 4, 2), (21, .invokevirtual 80, 3), (24, .ifCond .eq 10, 3), (27, .iload_n 2, 1), (28, .iload 4, 2), (30, .iand, 1), (31, .istore_n 2, 1), (32, .iconst 1, 1), (33, .istore_n 3, 1), (34, .iinc 4 1, 3), (37, .goto (-25), 3), (40, .iload_n 3, 1), (41, .ifCond .eq 7, 3), (44, .iload_n 2, 1), (45, .goto 4, 3), (48, .iconst 0, 1), (49, .ireturn, 1)]
theorem dt_X0_inAllStanding : dOk cX0_inAllStanding tb_X0_inAllStanding = true := by decide +kernel
def fX0_inAllStanding_34 (tt : Nat) (rec12 : Hp → Int32 → Int32 → Int32 → Int32 → Option (Int32 × Hp)) (h : Hp) (x1 : Int32) (x2 : Int32) (x3 : Int32) (x4 : Int32) : Option (Int32 × Hp) := rec12 h x1 x2 x3 (x4 + (1 : Int32))
def fX0_inAllStanding_12 : Nat → (Nat) → Hp → Int32 → Int32 → Int32 → Int32 → Option (Int32 × Hp)
  | 0, _, _, _, _, _, _ => none
  | fu + 1, tt, h, x1, x2, x3, x4 => if x1 < x4 then (if x3 = 0 then (some ((0 : Int32), h)) else (some (x2, h))) else (bnd (fX0_isStanding tt h x4) (fun v_5 h_6 => if v_5 = 0 then (fX0_inAllStanding_34 tt (fX0_inAllStanding_12 fu tt) h_6 x1 x2 x3 x4) else (fX0_inAllStanding_34 tt (fX0_inAllStanding_12 fu tt) h_6 x1 (x2 &&& x4) (1 : Int32) x4)))
def fX0_inAllStanding (tt : Nat) (h : Hp) : Option (Int32 × Hp) := bnd (fX0_all tt h) (fun v_1 h_2 => fX0_inAllStanding_12 FU tt h_2 v_1 v_1 (0 : Int32) (0 : Int32))
set_option maxRecDepth 100000 in
set_option maxHeartbeats 4000000 in
theorem c_X0_inAllStanding {l : Launch} {sb : State} {D : va_G} {ids : Nat → ClassId} {n : Nat} (hN : 152 ≤ n) {tt : Nat} (ht : shp tt = (0, 12)) (h : Hp) (r : Int32 × Hp) (hr : fX0_inAllStanding tt h = some r) : jM l yX0_inAllStanding cX0_inAllStanding 5 (some .int) 2 sb D ids shp St n [.ref tt] h (jQi sb D ids shp St n r) := by
  refine jM_of hr rfl (Nat.le_of_ble_eq_true rfl) ?_
  intro p e s m args below meth c hC hret
  have b34 : ∀ (rec12 : Hp → Int32 → Int32 → Int32 → Int32 → Option (Int32 × Hp)) (hrec12 : ∀ (h : Hp) (x1 : Int32) (x2 : Int32) (x3 : Int32) (x4 : Int32) , jJ p l e (rmD 2) s m args below meth c 5 sb D ids shp St (fun r => MQ below (jQi sb D ids shp St n r) args s 0 0 (jA sb)) n 0 0 h 12 [(0, .ref tt), (1, .int x1), (2, .int x2), (3, .int x3), (4, .int x4)] [] (rec12 h x1 x2 x3 x4)) (h : Hp) (x1 : Int32) (x2 : Int32) (x3 : Int32) (x4 : Int32) , jJ p l e (rmD 2) s m args below meth c 5 sb D ids shp St (fun r => MQ below (jQi sb D ids shp St n r) args s 0 0 (jA sb)) n 0 0 h 34 [(0, .ref tt), (1, .int x1), (2, .int x2), (3, .int x3), (4, .int x4)] [] (fX0_inAllStanding_34 tt rec12 h x1 x2 x3 x4) := by
    intro rec12 hrec12 h x1 x2 x3 x4 
    unfold fX0_inAllStanding_34
    refine j_iinc hC (v := (x4 + (1 : Int32))) (lv' := [(4, .int (x4 + (1 : Int32))), (0, .ref tt), (1, .int x1), (2, .int x2), (3, .int x3)]) 4 rfl (congrArg (fun z => x4 + z) (show Int32.ofInt (1) = (1 : Int32) from by decide)) (by decide) rfl (dOk_at dt_X0_inAllStanding 22 rfl) ?_
    refine j_goto hC (tgt := 12) (by decide) (dOk_at dt_X0_inAllStanding 23 rfl) ?_
    refine j_sub [1, 2, 3, 4, 0] rfl ?_
    exact hrec12 h x1 x2 x3 (x4 + (1 : Int32)) 
  have b12 : ∀ (fu : Nat) (h : Hp) (x1 : Int32) (x2 : Int32) (x3 : Int32) (x4 : Int32) , jJ p l e (rmD 2) s m args below meth c 5 sb D ids shp St (fun r => MQ below (jQi sb D ids shp St n r) args s 0 0 (jA sb)) n 0 0 h 12 [(0, .ref tt), (1, .int x1), (2, .int x2), (3, .int x3), (4, .int x4)] [] (fX0_inAllStanding_12 fu tt h x1 x2 x3 x4) := by
    intro fu 
    induction fu with
    | zero => intro h x1 x2 x3 x4 ; exact j_none
    | succ fu ih =>
    intro h x1 x2 x3 x4 
    rw [fX0_inAllStanding_12]
    refine j_iload hC 4 rfl (dOk_at dt_X0_inAllStanding 9 rfl) ?_
    refine j_iload_n hC 1 rfl rfl (dOk_at dt_X0_inAllStanding 10 rfl) ?_
    refine j_icmp_gt hC (tgt := 40) (by decide) (dOk_at dt_X0_inAllStanding 11 rfl) (fun q_3 => ?_) (fun q_3 => ?_)
    · refine j_iload_n hC 3 rfl rfl (dOk_at dt_X0_inAllStanding 24 rfl) ?_
      refine j_if_eq hC (tgt := 48) (by decide) (dOk_at dt_X0_inAllStanding 25 rfl) (fun q_4 => ?_) (fun q_4 => ?_)
      · refine j_iconst hC (v := (0 : Int32)) rfl (dOk_at dt_X0_inAllStanding 28 rfl) ?_
        exact j_iret hC hret (dOk_at dt_X0_inAllStanding 29 rfl)
      · refine j_iload_n hC 2 rfl rfl (dOk_at dt_X0_inAllStanding 26 rfl) ?_
        refine j_goto hC (tgt := 49) (by decide) (dOk_at dt_X0_inAllStanding 27 rfl) ?_
        exact j_iret hC hret (dOk_at dt_X0_inAllStanding 29 rfl)
    · refine j_aload_n hC 0 rfl rfl (dOk_at dt_X0_inAllStanding 12 rfl) ?_
      refine j_iload hC 4 rfl (dOk_at dt_X0_inAllStanding 13 rfl) ?_
      refine j_callVi hC clX0_80 (fun rz hrz => c_X0_isStanding hN (ht) _ _ rz hrz) ht (jlt hN ht (by decide)) (by decide) rfl rfl ⟨Nat.le_of_ble_eq_true rfl, Nat.le_of_ble_eq_true rfl⟩ ⟨Nat.le_refl 0, Nat.le_refl 0⟩ (As := [.int x4]) (st := []) rfl (Nat.le_of_ble_eq_true rfl) (dOk_at dt_X0_inAllStanding 14 rfl) (fun v_5 h_6 _ => ?_)
      refine j_if_eq hC (tgt := 34) (by decide) (dOk_at dt_X0_inAllStanding 15 rfl) (fun q_7 => ?_) (fun q_7 => ?_)
      · exact b34 (fX0_inAllStanding_12 fu tt) ih h_6 x1 x2 x3 x4 
      · refine j_iload_n hC 2 rfl rfl (dOk_at dt_X0_inAllStanding 16 rfl) ?_
        refine j_iload hC 4 rfl (dOk_at dt_X0_inAllStanding 17 rfl) ?_
        refine j_iand hC (dOk_at dt_X0_inAllStanding 18 rfl) ?_
        refine j_istore_n hC rfl (lv' := [(2, .int (x2 &&& x4)), (0, .ref tt), (1, .int x1), (3, .int x3), (4, .int x4)]) (by decide) rfl (dOk_at dt_X0_inAllStanding 19 rfl) ?_
        refine j_iconst hC (v := (1 : Int32)) rfl (dOk_at dt_X0_inAllStanding 20 rfl) ?_
        refine j_istore_n hC rfl (lv' := [(3, .int (1 : Int32)), (2, .int (x2 &&& x4)), (0, .ref tt), (1, .int x1), (4, .int x4)]) (by decide) rfl (dOk_at dt_X0_inAllStanding 21 rfl) ?_
        refine j_sub [2, 3, 1, 0, 4] rfl ?_
        exact b34 (fX0_inAllStanding_12 fu tt) ih h_6 x1 (x2 &&& x4) (1 : Int32) x4 
  unfold fX0_inAllStanding
  refine j_aload_n hC 0 rfl rfl (dOk_at dt_X0_inAllStanding 0 rfl) ?_
  refine j_callVi hC clX0_73 (fun rz hrz => c_X0_all hN (ht) _ rz hrz) ht (jlt hN ht (by decide)) (by decide) rfl rfl ⟨Nat.le_of_ble_eq_true rfl, Nat.le_of_ble_eq_true rfl⟩ ⟨Nat.le_refl 0, Nat.le_refl 0⟩ (As := []) (st := []) rfl (Nat.le_of_ble_eq_true rfl) (dOk_at dt_X0_inAllStanding 1 rfl) (fun v_1 h_2 _ => ?_)
  refine j_istore_n hC rfl (lv' := [(1, .int v_1), (0, .ref tt)]) (by decide) rfl (dOk_at dt_X0_inAllStanding 2 rfl) ?_
  refine j_iload_n hC 0 rfl rfl (dOk_at dt_X0_inAllStanding 3 rfl) ?_
  refine j_istore_n hC rfl (lv' := [(2, .int v_1), (1, .int v_1), (0, .ref tt)]) (by decide) rfl (dOk_at dt_X0_inAllStanding 4 rfl) ?_
  refine j_iconst hC (v := (0 : Int32)) rfl (dOk_at dt_X0_inAllStanding 5 rfl) ?_
  refine j_istore_n hC rfl (lv' := [(3, .int (0 : Int32)), (2, .int v_1), (1, .int v_1), (0, .ref tt)]) (by decide) rfl (dOk_at dt_X0_inAllStanding 6 rfl) ?_
  refine j_iconst hC (v := (0 : Int32)) rfl (dOk_at dt_X0_inAllStanding 7 rfl) ?_
  refine j_istore hC (lv' := [(4, .int (0 : Int32)), (3, .int (0 : Int32)), (2, .int v_1), (1, .int v_1), (0, .ref tt)]) (by decide) rfl (dOk_at dt_X0_inAllStanding 8 rfl) ?_
  refine j_sub [4, 3, 2, 1, 0] rfl ?_
  exact b12 FU h_2 v_1 v_1 (0 : Int32) (0 : Int32) 
def tb_X0_inAnyStanding : List (Nat × Instr × Nat) := [(0, .aload_n 0, 1), (1, .invokevirtual 73, 3), (4, .istore_n 1, 1), (5, .iconst 0, 1), (6, .istore_n 2, 1), (7, .iconst 0, 1), (8, .istore_n 3, 1), (9, .iload_n 3, 1), (10, .iload_n 1, 1), (11, .if_icmp .gt 21, 3), (14, .aload_n 0, 1), (15, .iload_n 3, 1), (16, .invokevirtual 80, 3), (19, .ifCond .eq 7, 3), (22, .iload_n 2, 1), (23, .iload_n 3, 1), (24, .ior, 1), (25, .istore_n 2, 1), (26, .iinc 3 1, 3), (29, .goto (-20), 3), (32, .iload_n 2, 1), (33, .ireturn, 1)]
theorem dt_X0_inAnyStanding : dOk cX0_inAnyStanding tb_X0_inAnyStanding = true := by decide +kernel
def fX0_inAnyStanding_26 (tt : Nat) (rec9 : Hp → Int32 → Int32 → Int32 → Option (Int32 × Hp)) (h : Hp) (x1 : Int32) (x2 : Int32) (x3 : Int32) : Option (Int32 × Hp) := rec9 h x1 x2 (x3 + (1 : Int32))
def fX0_inAnyStanding_9 : Nat → (Nat) → Hp → Int32 → Int32 → Int32 → Option (Int32 × Hp)
  | 0, _, _, _, _, _ => none
  | fu + 1, tt, h, x1, x2, x3 => if x1 < x3 then (some (x2, h)) else (bnd (fX0_isStanding tt h x3) (fun v_4 h_5 => if v_4 = 0 then (fX0_inAnyStanding_26 tt (fX0_inAnyStanding_9 fu tt) h_5 x1 x2 x3) else (fX0_inAnyStanding_26 tt (fX0_inAnyStanding_9 fu tt) h_5 x1 (x2 ||| x3) x3)))
def fX0_inAnyStanding (tt : Nat) (h : Hp) : Option (Int32 × Hp) := bnd (fX0_all tt h) (fun v_1 h_2 => fX0_inAnyStanding_9 FU tt h_2 v_1 (0 : Int32) (0 : Int32))
set_option maxRecDepth 100000 in
set_option maxHeartbeats 4000000 in
theorem c_X0_inAnyStanding {l : Launch} {sb : State} {D : va_G} {ids : Nat → ClassId} {n : Nat} (hN : 152 ≤ n) {tt : Nat} (ht : shp tt = (0, 12)) (h : Hp) (r : Int32 × Hp) (hr : fX0_inAnyStanding tt h = some r) : jM l yX0_inAnyStanding cX0_inAnyStanding 4 (some .int) 2 sb D ids shp St n [.ref tt] h (jQi sb D ids shp St n r) := by
  refine jM_of hr rfl (Nat.le_of_ble_eq_true rfl) ?_
  intro p e s m args below meth c hC hret
  have b26 : ∀ (rec9 : Hp → Int32 → Int32 → Int32 → Option (Int32 × Hp)) (hrec9 : ∀ (h : Hp) (x1 : Int32) (x2 : Int32) (x3 : Int32) , jJ p l e (rmD 2) s m args below meth c 4 sb D ids shp St (fun r => MQ below (jQi sb D ids shp St n r) args s 0 0 (jA sb)) n 0 0 h 9 [(0, .ref tt), (1, .int x1), (2, .int x2), (3, .int x3)] [] (rec9 h x1 x2 x3)) (h : Hp) (x1 : Int32) (x2 : Int32) (x3 : Int32) , jJ p l e (rmD 2) s m args below meth c 4 sb D ids shp St (fun r => MQ below (jQi sb D ids shp St n r) args s 0 0 (jA sb)) n 0 0 h 26 [(0, .ref tt), (1, .int x1), (2, .int x2), (3, .int x3)] [] (fX0_inAnyStanding_26 tt rec9 h x1 x2 x3) := by
    intro rec9 hrec9 h x1 x2 x3 
    unfold fX0_inAnyStanding_26
    refine j_iinc hC (v := (x3 + (1 : Int32))) (lv' := [(3, .int (x3 + (1 : Int32))), (0, .ref tt), (1, .int x1), (2, .int x2)]) 3 rfl (congrArg (fun z => x3 + z) (show Int32.ofInt (1) = (1 : Int32) from by decide)) (by decide) rfl (dOk_at dt_X0_inAnyStanding 18 rfl) ?_
    refine j_goto hC (tgt := 9) (by decide) (dOk_at dt_X0_inAnyStanding 19 rfl) ?_
    refine j_sub [1, 2, 3, 0] rfl ?_
    exact hrec9 h x1 x2 (x3 + (1 : Int32)) 
  have b9 : ∀ (fu : Nat) (h : Hp) (x1 : Int32) (x2 : Int32) (x3 : Int32) , jJ p l e (rmD 2) s m args below meth c 4 sb D ids shp St (fun r => MQ below (jQi sb D ids shp St n r) args s 0 0 (jA sb)) n 0 0 h 9 [(0, .ref tt), (1, .int x1), (2, .int x2), (3, .int x3)] [] (fX0_inAnyStanding_9 fu tt h x1 x2 x3) := by
    intro fu 
    induction fu with
    | zero => intro h x1 x2 x3 ; exact j_none
    | succ fu ih =>
    intro h x1 x2 x3 
    rw [fX0_inAnyStanding_9]
    refine j_iload_n hC 3 rfl rfl (dOk_at dt_X0_inAnyStanding 7 rfl) ?_
    refine j_iload_n hC 1 rfl rfl (dOk_at dt_X0_inAnyStanding 8 rfl) ?_
    refine j_icmp_gt hC (tgt := 32) (by decide) (dOk_at dt_X0_inAnyStanding 9 rfl) (fun q_3 => ?_) (fun q_3 => ?_)
    · refine j_iload_n hC 2 rfl rfl (dOk_at dt_X0_inAnyStanding 20 rfl) ?_
      exact j_iret hC hret (dOk_at dt_X0_inAnyStanding 21 rfl)
    · refine j_aload_n hC 0 rfl rfl (dOk_at dt_X0_inAnyStanding 10 rfl) ?_
      refine j_iload_n hC 3 rfl rfl (dOk_at dt_X0_inAnyStanding 11 rfl) ?_
      refine j_callVi hC clX0_80 (fun rz hrz => c_X0_isStanding hN (ht) _ _ rz hrz) ht (jlt hN ht (by decide)) (by decide) rfl rfl ⟨Nat.le_of_ble_eq_true rfl, Nat.le_of_ble_eq_true rfl⟩ ⟨Nat.le_refl 0, Nat.le_refl 0⟩ (As := [.int x3]) (st := []) rfl (Nat.le_of_ble_eq_true rfl) (dOk_at dt_X0_inAnyStanding 12 rfl) (fun v_4 h_5 _ => ?_)
      refine j_if_eq hC (tgt := 26) (by decide) (dOk_at dt_X0_inAnyStanding 13 rfl) (fun q_6 => ?_) (fun q_6 => ?_)
      · exact b26 (fX0_inAnyStanding_9 fu tt) ih h_5 x1 x2 x3 
      · refine j_iload_n hC 2 rfl rfl (dOk_at dt_X0_inAnyStanding 14 rfl) ?_
        refine j_iload_n hC 3 rfl rfl (dOk_at dt_X0_inAnyStanding 15 rfl) ?_
        refine j_ior hC (dOk_at dt_X0_inAnyStanding 16 rfl) ?_
        refine j_istore_n hC rfl (lv' := [(2, .int (x2 ||| x3)), (0, .ref tt), (1, .int x1), (3, .int x3)]) (by decide) rfl (dOk_at dt_X0_inAnyStanding 17 rfl) ?_
        refine j_sub [1, 2, 0, 3] rfl ?_
        exact b26 (fX0_inAnyStanding_9 fu tt) ih h_5 x1 (x2 ||| x3) x3 
  unfold fX0_inAnyStanding
  refine j_aload_n hC 0 rfl rfl (dOk_at dt_X0_inAnyStanding 0 rfl) ?_
  refine j_callVi hC clX0_73 (fun rz hrz => c_X0_all hN (ht) _ rz hrz) ht (jlt hN ht (by decide)) (by decide) rfl rfl ⟨Nat.le_of_ble_eq_true rfl, Nat.le_of_ble_eq_true rfl⟩ ⟨Nat.le_refl 0, Nat.le_refl 0⟩ (As := []) (st := []) rfl (Nat.le_of_ble_eq_true rfl) (dOk_at dt_X0_inAnyStanding 1 rfl) (fun v_1 h_2 _ => ?_)
  refine j_istore_n hC rfl (lv' := [(1, .int v_1), (0, .ref tt)]) (by decide) rfl (dOk_at dt_X0_inAnyStanding 2 rfl) ?_
  refine j_iconst hC (v := (0 : Int32)) rfl (dOk_at dt_X0_inAnyStanding 3 rfl) ?_
  refine j_istore_n hC rfl (lv' := [(2, .int (0 : Int32)), (1, .int v_1), (0, .ref tt)]) (by decide) rfl (dOk_at dt_X0_inAnyStanding 4 rfl) ?_
  refine j_iconst hC (v := (0 : Int32)) rfl (dOk_at dt_X0_inAnyStanding 5 rfl) ?_
  refine j_istore_n hC rfl (lv' := [(3, .int (0 : Int32)), (2, .int (0 : Int32)), (1, .int v_1), (0, .ref tt)]) (by decide) rfl (dOk_at dt_X0_inAnyStanding 6 rfl) ?_
  refine j_sub [3, 2, 1, 0] rfl ?_
  exact b9 FU h_2 v_1 (0 : Int32) (0 : Int32) 
def tb_X0_standingAt : List (Nat × Instr × Nat) := [(0, .aload_n 0, 1), (1, .invokevirtual 73, 3), (4, .istore_n 2, 1), (5, .iload_n 1, 1), (6, .istore_n 3, 1), (7, .iconst 0, 1), (8, .istore 4, 2), (10, .iload 4, 2), (12, .iload_n 2, 1), (13, .if_icmp .gt 28, 3), (16, .aload_n 0, 1), (17, .iload 4, 2), (19, .invokevirtual 80, 3), (22, .ifCond .eq 13, 3), (25, .iload_n 3, 1), (26, .ifCond .ne 6, 3), (29, .iload 4, 2), (31, .ireturn, 1), (32, .iinc 3 (-1), 3), (35, .iinc 4 1, 3), (38, .goto (-28), 3), (41, .bipush (-2), 2), (43, .ireturn, 1)]
theorem dt_X0_standingAt : dOk cX0_standingAt tb_X0_standingAt = true := by decide +kernel
def fX0_standingAt_35 (tt : Nat) (rec10 : Hp → Int32 → Int32 → Int32 → Option (Int32 × Hp)) (h : Hp) (x2 : Int32) (x3 : Int32) (x4 : Int32) : Option (Int32 × Hp) := rec10 h x2 x3 (x4 + (1 : Int32))
def fX0_standingAt_10 : Nat → (Nat) → Hp → Int32 → Int32 → Int32 → Option (Int32 × Hp)
  | 0, _, _, _, _, _ => none
  | fu + 1, tt, h, x2, x3, x4 => if x2 < x4 then (some ((-2 : Int32), h)) else (bnd (fX0_isStanding tt h x4) (fun v_4 h_5 => if v_4 = 0 then (fX0_standingAt_35 tt (fX0_standingAt_10 fu tt) h_5 x2 x3 x4) else (if x3 = 0 then (some (x4, h_5)) else (fX0_standingAt_35 tt (fX0_standingAt_10 fu tt) h_5 x2 (x3 + (-1 : Int32)) x4))))
def fX0_standingAt (tt : Nat) (h : Hp) (x1 : Int32) : Option (Int32 × Hp) := bnd (fX0_all tt h) (fun v_1 h_2 => fX0_standingAt_10 FU tt h_2 v_1 x1 (0 : Int32))
set_option maxRecDepth 100000 in
set_option maxHeartbeats 4000000 in
theorem c_X0_standingAt {l : Launch} {sb : State} {D : va_G} {ids : Nat → ClassId} {n : Nat} (hN : 152 ≤ n) {tt : Nat} (ht : shp tt = (0, 12)) (h : Hp) (x1 : Int32) (r : Int32 × Hp) (hr : fX0_standingAt tt h x1 = some r) : jM l yX0_standingAt cX0_standingAt 5 (some .int) 2 sb D ids shp St n [.ref tt, .int x1] h (jQi sb D ids shp St n r) := by
  refine jM_of hr rfl (Nat.le_of_ble_eq_true rfl) ?_
  intro p e s m args below meth c hC hret
  have b35 : ∀ (rec10 : Hp → Int32 → Int32 → Int32 → Option (Int32 × Hp)) (hrec10 : ∀ (h : Hp) (x2 : Int32) (x3 : Int32) (x4 : Int32) , jJ p l e (rmD 2) s m args below meth c 5 sb D ids shp St (fun r => MQ below (jQi sb D ids shp St n r) args s 0 0 (jA sb)) n 0 0 h 10 [(0, .ref tt), (2, .int x2), (3, .int x3), (4, .int x4)] [] (rec10 h x2 x3 x4)) (h : Hp) (x2 : Int32) (x3 : Int32) (x4 : Int32) , jJ p l e (rmD 2) s m args below meth c 5 sb D ids shp St (fun r => MQ below (jQi sb D ids shp St n r) args s 0 0 (jA sb)) n 0 0 h 35 [(0, .ref tt), (2, .int x2), (3, .int x3), (4, .int x4)] [] (fX0_standingAt_35 tt rec10 h x2 x3 x4) := by
    intro rec10 hrec10 h x2 x3 x4 
    unfold fX0_standingAt_35
    refine j_iinc hC (v := (x4 + (1 : Int32))) (lv' := [(4, .int (x4 + (1 : Int32))), (0, .ref tt), (2, .int x2), (3, .int x3)]) 3 rfl (congrArg (fun z => x4 + z) (show Int32.ofInt (1) = (1 : Int32) from by decide)) (by decide) rfl (dOk_at dt_X0_standingAt 19 rfl) ?_
    refine j_goto hC (tgt := 10) (by decide) (dOk_at dt_X0_standingAt 20 rfl) ?_
    refine j_sub [1, 2, 3, 0] rfl ?_
    exact hrec10 h x2 x3 (x4 + (1 : Int32)) 
  have b10 : ∀ (fu : Nat) (h : Hp) (x2 : Int32) (x3 : Int32) (x4 : Int32) , jJ p l e (rmD 2) s m args below meth c 5 sb D ids shp St (fun r => MQ below (jQi sb D ids shp St n r) args s 0 0 (jA sb)) n 0 0 h 10 [(0, .ref tt), (2, .int x2), (3, .int x3), (4, .int x4)] [] (fX0_standingAt_10 fu tt h x2 x3 x4) := by
    intro fu 
    induction fu with
    | zero => intro h x2 x3 x4 ; exact j_none
    | succ fu ih =>
    intro h x2 x3 x4 
    rw [fX0_standingAt_10]
    refine j_iload hC 3 rfl (dOk_at dt_X0_standingAt 7 rfl) ?_
    refine j_iload_n hC 1 rfl rfl (dOk_at dt_X0_standingAt 8 rfl) ?_
    refine j_icmp_gt hC (tgt := 41) (by decide) (dOk_at dt_X0_standingAt 9 rfl) (fun q_3 => ?_) (fun q_3 => ?_)
    · refine j_bipush hC (v := (-2 : Int32)) rfl (dOk_at dt_X0_standingAt 21 rfl) ?_
      exact j_iret hC hret (dOk_at dt_X0_standingAt 22 rfl)
    · refine j_aload_n hC 0 rfl rfl (dOk_at dt_X0_standingAt 10 rfl) ?_
      refine j_iload hC 3 rfl (dOk_at dt_X0_standingAt 11 rfl) ?_
      refine j_callVi hC clX0_80 (fun rz hrz => c_X0_isStanding hN (ht) _ _ rz hrz) ht (jlt hN ht (by decide)) (by decide) rfl rfl ⟨Nat.le_of_ble_eq_true rfl, Nat.le_of_ble_eq_true rfl⟩ ⟨Nat.le_refl 0, Nat.le_refl 0⟩ (As := [.int x4]) (st := []) rfl (Nat.le_of_ble_eq_true rfl) (dOk_at dt_X0_standingAt 12 rfl) (fun v_4 h_5 _ => ?_)
      refine j_if_eq hC (tgt := 35) (by decide) (dOk_at dt_X0_standingAt 13 rfl) (fun q_6 => ?_) (fun q_6 => ?_)
      · exact b35 (fX0_standingAt_10 fu tt) ih h_5 x2 x3 x4 
      · refine j_iload_n hC 2 rfl rfl (dOk_at dt_X0_standingAt 14 rfl) ?_
        refine j_if_ne hC (tgt := 32) (by decide) (dOk_at dt_X0_standingAt 15 rfl) (fun q_7 => ?_) (fun q_7 => ?_)
        · refine j_iinc hC (v := (x3 + (-1 : Int32))) (lv' := [(3, .int (x3 + (-1 : Int32))), (0, .ref tt), (2, .int x2), (4, .int x4)]) 2 rfl (congrArg (fun z => x3 + z) (show Int32.ofInt (-1) = (-1 : Int32) from by decide)) (by decide) rfl (dOk_at dt_X0_standingAt 18 rfl) ?_
          refine j_sub [1, 2, 0, 3] rfl ?_
          exact b35 (fX0_standingAt_10 fu tt) ih h_5 x2 (x3 + (-1 : Int32)) x4 
        · refine j_iload hC 3 rfl (dOk_at dt_X0_standingAt 16 rfl) ?_
          exact j_iret hC hret (dOk_at dt_X0_standingAt 17 rfl)
  unfold fX0_standingAt
  refine j_aload_n hC 0 rfl rfl (dOk_at dt_X0_standingAt 0 rfl) ?_
  refine j_callVi hC clX0_73 (fun rz hrz => c_X0_all hN (ht) _ rz hrz) ht (jlt hN ht (by decide)) (by decide) rfl rfl ⟨Nat.le_of_ble_eq_true rfl, Nat.le_of_ble_eq_true rfl⟩ ⟨Nat.le_refl 0, Nat.le_refl 0⟩ (As := []) (st := []) rfl (Nat.le_of_ble_eq_true rfl) (dOk_at dt_X0_standingAt 1 rfl) (fun v_1 h_2 _ => ?_)
  refine j_istore_n hC rfl (lv' := [(2, .int v_1), (0, .ref tt), (1, .int x1)]) (by decide) rfl (dOk_at dt_X0_standingAt 2 rfl) ?_
  refine j_iload_n hC 2 rfl rfl (dOk_at dt_X0_standingAt 3 rfl) ?_
  refine j_istore_n hC rfl (lv' := [(3, .int x1), (2, .int v_1), (0, .ref tt), (1, .int x1)]) (by decide) rfl (dOk_at dt_X0_standingAt 4 rfl) ?_
  refine j_iconst hC (v := (0 : Int32)) rfl (dOk_at dt_X0_standingAt 5 rfl) ?_
  refine j_istore hC (lv' := [(4, .int (0 : Int32)), (3, .int x1), (2, .int v_1), (0, .ref tt), (1, .int x1)]) (by decide) rfl (dOk_at dt_X0_standingAt 6 rfl) ?_
  refine j_sub [3, 2, 1, 0] rfl ?_
  exact b10 FU h_2 v_1 x1 (0 : Int32) 
def tb_J6_bitCount_0f7a4 : List (Nat × Instr × Nat) := [(0, .iload_n 0, 1), (1, .iload_n 0, 1), (2, .iconst 1, 1), (3, .iushr, 1), (4, .ldc_w 265, 3), (7, .iand, 1), (8, .isub, 1), (9, .istore_n 0, 1), (10, .iload_n 0, 1), (11, .ldc_w 266, 3), (14, .iand, 1), (15, .iload_n 0, 1), (16, .iconst 2, 1), (17, .iushr, 1), (18, .ldc_w 266, 3), (21, .iand, 1), (22, .iadd, 1), (23, .istore_n 0, 1), (24, .iload_n 0, 1), (25, .iload_n 0, 1), (26, .iconst 4, 1), (27, .iushr, 1), (28, .iadd, 1), (29, .ldc_w 267, 3), (32, .iand, 1), (33, .istore_n 0, 1), (34, .iload_n 0, 1), (35, .iload_n 0, 1), (36, .bipush 8, 2), (38, .iushr, 1), (39, .iadd, 1), (40, .istore_n 0, 1), (41, .iload_n 0, 1), (42, .iload_n 0, 1), (43, .bipush 16, 2), (45, .iushr, 1), (46, .iadd, 1), (47, .istore_n 0, 1), (48, .iload_n 0, 1), (49, .bipush 63, 2), (51, .iand, 1), (52, .ireturn, 1)]
theorem dt_J6_bitCount_0f7a4 : dOk cJ6_bitCount_0f7a4 tb_J6_bitCount_0f7a4 = true := by decide +kernel
def fJ6_bitCount_0f7a4 (h : Hp) (x0 : Int32) : Option (Int32 × Hp) := some (((((((((x0 - (((Int32.toUInt32 x0) >>> ((Int32.toUInt32 (1 : Int32)) &&& Int32.toUInt32 31)).toInt32 &&& (1431655765 : Int32))) &&& (858993459 : Int32)) + (((Int32.toUInt32 (x0 - (((Int32.toUInt32 x0) >>> ((Int32.toUInt32 (1 : Int32)) &&& Int32.toUInt32 31)).toInt32 &&& (1431655765 : Int32)))) >>> ((Int32.toUInt32 (2 : Int32)) &&& Int32.toUInt32 31)).toInt32 &&& (858993459 : Int32))) + ((Int32.toUInt32 (((x0 - (((Int32.toUInt32 x0) >>> ((Int32.toUInt32 (1 : Int32)) &&& Int32.toUInt32 31)).toInt32 &&& (1431655765 : Int32))) &&& (858993459 : Int32)) + (((Int32.toUInt32 (x0 - (((Int32.toUInt32 x0) >>> ((Int32.toUInt32 (1 : Int32)) &&& Int32.toUInt32 31)).toInt32 &&& (1431655765 : Int32)))) >>> ((Int32.toUInt32 (2 : Int32)) &&& Int32.toUInt32 31)).toInt32 &&& (858993459 : Int32)))) >>> ((Int32.toUInt32 (4 : Int32)) &&& Int32.toUInt32 31)).toInt32) &&& (252645135 : Int32)) + ((Int32.toUInt32 (((((x0 - (((Int32.toUInt32 x0) >>> ((Int32.toUInt32 (1 : Int32)) &&& Int32.toUInt32 31)).toInt32 &&& (1431655765 : Int32))) &&& (858993459 : Int32)) + (((Int32.toUInt32 (x0 - (((Int32.toUInt32 x0) >>> ((Int32.toUInt32 (1 : Int32)) &&& Int32.toUInt32 31)).toInt32 &&& (1431655765 : Int32)))) >>> ((Int32.toUInt32 (2 : Int32)) &&& Int32.toUInt32 31)).toInt32 &&& (858993459 : Int32))) + ((Int32.toUInt32 (((x0 - (((Int32.toUInt32 x0) >>> ((Int32.toUInt32 (1 : Int32)) &&& Int32.toUInt32 31)).toInt32 &&& (1431655765 : Int32))) &&& (858993459 : Int32)) + (((Int32.toUInt32 (x0 - (((Int32.toUInt32 x0) >>> ((Int32.toUInt32 (1 : Int32)) &&& Int32.toUInt32 31)).toInt32 &&& (1431655765 : Int32)))) >>> ((Int32.toUInt32 (2 : Int32)) &&& Int32.toUInt32 31)).toInt32 &&& (858993459 : Int32)))) >>> ((Int32.toUInt32 (4 : Int32)) &&& Int32.toUInt32 31)).toInt32) &&& (252645135 : Int32))) >>> ((Int32.toUInt32 (8 : Int32)) &&& Int32.toUInt32 31)).toInt32) + ((Int32.toUInt32 ((((((x0 - (((Int32.toUInt32 x0) >>> ((Int32.toUInt32 (1 : Int32)) &&& Int32.toUInt32 31)).toInt32 &&& (1431655765 : Int32))) &&& (858993459 : Int32)) + (((Int32.toUInt32 (x0 - (((Int32.toUInt32 x0) >>> ((Int32.toUInt32 (1 : Int32)) &&& Int32.toUInt32 31)).toInt32 &&& (1431655765 : Int32)))) >>> ((Int32.toUInt32 (2 : Int32)) &&& Int32.toUInt32 31)).toInt32 &&& (858993459 : Int32))) + ((Int32.toUInt32 (((x0 - (((Int32.toUInt32 x0) >>> ((Int32.toUInt32 (1 : Int32)) &&& Int32.toUInt32 31)).toInt32 &&& (1431655765 : Int32))) &&& (858993459 : Int32)) + (((Int32.toUInt32 (x0 - (((Int32.toUInt32 x0) >>> ((Int32.toUInt32 (1 : Int32)) &&& Int32.toUInt32 31)).toInt32 &&& (1431655765 : Int32)))) >>> ((Int32.toUInt32 (2 : Int32)) &&& Int32.toUInt32 31)).toInt32 &&& (858993459 : Int32)))) >>> ((Int32.toUInt32 (4 : Int32)) &&& Int32.toUInt32 31)).toInt32) &&& (252645135 : Int32)) + ((Int32.toUInt32 (((((x0 - (((Int32.toUInt32 x0) >>> ((Int32.toUInt32 (1 : Int32)) &&& Int32.toUInt32 31)).toInt32 &&& (1431655765 : Int32))) &&& (858993459 : Int32)) + (((Int32.toUInt32 (x0 - (((Int32.toUInt32 x0) >>> ((Int32.toUInt32 (1 : Int32)) &&& Int32.toUInt32 31)).toInt32 &&& (1431655765 : Int32)))) >>> ((Int32.toUInt32 (2 : Int32)) &&& Int32.toUInt32 31)).toInt32 &&& (858993459 : Int32))) + ((Int32.toUInt32 (((x0 - (((Int32.toUInt32 x0) >>> ((Int32.toUInt32 (1 : Int32)) &&& Int32.toUInt32 31)).toInt32 &&& (1431655765 : Int32))) &&& (858993459 : Int32)) + (((Int32.toUInt32 (x0 - (((Int32.toUInt32 x0) >>> ((Int32.toUInt32 (1 : Int32)) &&& Int32.toUInt32 31)).toInt32 &&& (1431655765 : Int32)))) >>> ((Int32.toUInt32 (2 : Int32)) &&& Int32.toUInt32 31)).toInt32 &&& (858993459 : Int32)))) >>> ((Int32.toUInt32 (4 : Int32)) &&& Int32.toUInt32 31)).toInt32) &&& (252645135 : Int32))) >>> ((Int32.toUInt32 (8 : Int32)) &&& Int32.toUInt32 31)).toInt32)) >>> ((Int32.toUInt32 (16 : Int32)) &&& Int32.toUInt32 31)).toInt32) &&& (63 : Int32)), h)
set_option maxRecDepth 100000 in
set_option maxHeartbeats 4000000 in
theorem c_J6_bitCount_0f7a4 {l : Launch} {sb : State} {D : va_G} {ids : Nat → ClassId} {n : Nat} (hN : 152 ≤ n) (h : Hp) (x0 : Int32) (r : Int32 × Hp) (hr : fJ6_bitCount_0f7a4 h x0 = some r) : jM l yJ6_bitCount_0f7a4 cJ6_bitCount_0f7a4 1 (some .int) 0 sb D ids shp St n [.int x0] h (jQi sb D ids shp St n r) := by
  refine jM_of hr rfl (Nat.le_of_ble_eq_true rfl) ?_
  intro p e s m args below meth c hC hret
  unfold fJ6_bitCount_0f7a4
  refine j_iload_n hC 0 rfl rfl (dOk_at dt_J6_bitCount_0f7a4 0 rfl) ?_
  refine j_iload_n hC 0 rfl rfl (dOk_at dt_J6_bitCount_0f7a4 1 rfl) ?_
  refine j_iconst hC (v := (1 : Int32)) rfl (dOk_at dt_J6_bitCount_0f7a4 2 rfl) ?_
  refine j_iushr hC (dOk_at dt_J6_bitCount_0f7a4 3 rfl) ?_
  refine j_ldcw hC kcJ6_265 (dOk_at dt_J6_bitCount_0f7a4 4 rfl) ?_
  refine j_iand hC (dOk_at dt_J6_bitCount_0f7a4 5 rfl) ?_
  refine j_isub hC (dOk_at dt_J6_bitCount_0f7a4 6 rfl) ?_
  refine j_istore_n hC rfl (lv' := [(0, .int (x0 - (((Int32.toUInt32 x0) >>> ((Int32.toUInt32 (1 : Int32)) &&& Int32.toUInt32 31)).toInt32 &&& (1431655765 : Int32))))]) (by decide) rfl (dOk_at dt_J6_bitCount_0f7a4 7 rfl) ?_
  refine j_iload_n hC 0 rfl rfl (dOk_at dt_J6_bitCount_0f7a4 8 rfl) ?_
  refine j_ldcw hC kcJ6_266 (dOk_at dt_J6_bitCount_0f7a4 9 rfl) ?_
  refine j_iand hC (dOk_at dt_J6_bitCount_0f7a4 10 rfl) ?_
  refine j_iload_n hC 0 rfl rfl (dOk_at dt_J6_bitCount_0f7a4 11 rfl) ?_
  refine j_iconst hC (v := (2 : Int32)) rfl (dOk_at dt_J6_bitCount_0f7a4 12 rfl) ?_
  refine j_iushr hC (dOk_at dt_J6_bitCount_0f7a4 13 rfl) ?_
  refine j_ldcw hC kcJ6_266 (dOk_at dt_J6_bitCount_0f7a4 14 rfl) ?_
  refine j_iand hC (dOk_at dt_J6_bitCount_0f7a4 15 rfl) ?_
  refine j_iadd hC (dOk_at dt_J6_bitCount_0f7a4 16 rfl) ?_
  refine j_istore_n hC rfl (lv' := [(0, .int (((x0 - (((Int32.toUInt32 x0) >>> ((Int32.toUInt32 (1 : Int32)) &&& Int32.toUInt32 31)).toInt32 &&& (1431655765 : Int32))) &&& (858993459 : Int32)) + (((Int32.toUInt32 (x0 - (((Int32.toUInt32 x0) >>> ((Int32.toUInt32 (1 : Int32)) &&& Int32.toUInt32 31)).toInt32 &&& (1431655765 : Int32)))) >>> ((Int32.toUInt32 (2 : Int32)) &&& Int32.toUInt32 31)).toInt32 &&& (858993459 : Int32))))]) (by decide) rfl (dOk_at dt_J6_bitCount_0f7a4 17 rfl) ?_
  refine j_iload_n hC 0 rfl rfl (dOk_at dt_J6_bitCount_0f7a4 18 rfl) ?_
  refine j_iload_n hC 0 rfl rfl (dOk_at dt_J6_bitCount_0f7a4 19 rfl) ?_
  refine j_iconst hC (v := (4 : Int32)) rfl (dOk_at dt_J6_bitCount_0f7a4 20 rfl) ?_
  refine j_iushr hC (dOk_at dt_J6_bitCount_0f7a4 21 rfl) ?_
  refine j_iadd hC (dOk_at dt_J6_bitCount_0f7a4 22 rfl) ?_
  refine j_ldcw hC kcJ6_267 (dOk_at dt_J6_bitCount_0f7a4 23 rfl) ?_
  refine j_iand hC (dOk_at dt_J6_bitCount_0f7a4 24 rfl) ?_
  refine j_istore_n hC rfl (lv' := [(0, .int (((((x0 - (((Int32.toUInt32 x0) >>> ((Int32.toUInt32 (1 : Int32)) &&& Int32.toUInt32 31)).toInt32 &&& (1431655765 : Int32))) &&& (858993459 : Int32)) + (((Int32.toUInt32 (x0 - (((Int32.toUInt32 x0) >>> ((Int32.toUInt32 (1 : Int32)) &&& Int32.toUInt32 31)).toInt32 &&& (1431655765 : Int32)))) >>> ((Int32.toUInt32 (2 : Int32)) &&& Int32.toUInt32 31)).toInt32 &&& (858993459 : Int32))) + ((Int32.toUInt32 (((x0 - (((Int32.toUInt32 x0) >>> ((Int32.toUInt32 (1 : Int32)) &&& Int32.toUInt32 31)).toInt32 &&& (1431655765 : Int32))) &&& (858993459 : Int32)) + (((Int32.toUInt32 (x0 - (((Int32.toUInt32 x0) >>> ((Int32.toUInt32 (1 : Int32)) &&& Int32.toUInt32 31)).toInt32 &&& (1431655765 : Int32)))) >>> ((Int32.toUInt32 (2 : Int32)) &&& Int32.toUInt32 31)).toInt32 &&& (858993459 : Int32)))) >>> ((Int32.toUInt32 (4 : Int32)) &&& Int32.toUInt32 31)).toInt32) &&& (252645135 : Int32)))]) (by decide) rfl (dOk_at dt_J6_bitCount_0f7a4 25 rfl) ?_
  refine j_iload_n hC 0 rfl rfl (dOk_at dt_J6_bitCount_0f7a4 26 rfl) ?_
  refine j_iload_n hC 0 rfl rfl (dOk_at dt_J6_bitCount_0f7a4 27 rfl) ?_
  refine j_bipush hC (v := (8 : Int32)) rfl (dOk_at dt_J6_bitCount_0f7a4 28 rfl) ?_
  refine j_iushr hC (dOk_at dt_J6_bitCount_0f7a4 29 rfl) ?_
  refine j_iadd hC (dOk_at dt_J6_bitCount_0f7a4 30 rfl) ?_
  refine j_istore_n hC rfl (lv' := [(0, .int ((((((x0 - (((Int32.toUInt32 x0) >>> ((Int32.toUInt32 (1 : Int32)) &&& Int32.toUInt32 31)).toInt32 &&& (1431655765 : Int32))) &&& (858993459 : Int32)) + (((Int32.toUInt32 (x0 - (((Int32.toUInt32 x0) >>> ((Int32.toUInt32 (1 : Int32)) &&& Int32.toUInt32 31)).toInt32 &&& (1431655765 : Int32)))) >>> ((Int32.toUInt32 (2 : Int32)) &&& Int32.toUInt32 31)).toInt32 &&& (858993459 : Int32))) + ((Int32.toUInt32 (((x0 - (((Int32.toUInt32 x0) >>> ((Int32.toUInt32 (1 : Int32)) &&& Int32.toUInt32 31)).toInt32 &&& (1431655765 : Int32))) &&& (858993459 : Int32)) + (((Int32.toUInt32 (x0 - (((Int32.toUInt32 x0) >>> ((Int32.toUInt32 (1 : Int32)) &&& Int32.toUInt32 31)).toInt32 &&& (1431655765 : Int32)))) >>> ((Int32.toUInt32 (2 : Int32)) &&& Int32.toUInt32 31)).toInt32 &&& (858993459 : Int32)))) >>> ((Int32.toUInt32 (4 : Int32)) &&& Int32.toUInt32 31)).toInt32) &&& (252645135 : Int32)) + ((Int32.toUInt32 (((((x0 - (((Int32.toUInt32 x0) >>> ((Int32.toUInt32 (1 : Int32)) &&& Int32.toUInt32 31)).toInt32 &&& (1431655765 : Int32))) &&& (858993459 : Int32)) + (((Int32.toUInt32 (x0 - (((Int32.toUInt32 x0) >>> ((Int32.toUInt32 (1 : Int32)) &&& Int32.toUInt32 31)).toInt32 &&& (1431655765 : Int32)))) >>> ((Int32.toUInt32 (2 : Int32)) &&& Int32.toUInt32 31)).toInt32 &&& (858993459 : Int32))) + ((Int32.toUInt32 (((x0 - (((Int32.toUInt32 x0) >>> ((Int32.toUInt32 (1 : Int32)) &&& Int32.toUInt32 31)).toInt32 &&& (1431655765 : Int32))) &&& (858993459 : Int32)) + (((Int32.toUInt32 (x0 - (((Int32.toUInt32 x0) >>> ((Int32.toUInt32 (1 : Int32)) &&& Int32.toUInt32 31)).toInt32 &&& (1431655765 : Int32)))) >>> ((Int32.toUInt32 (2 : Int32)) &&& Int32.toUInt32 31)).toInt32 &&& (858993459 : Int32)))) >>> ((Int32.toUInt32 (4 : Int32)) &&& Int32.toUInt32 31)).toInt32) &&& (252645135 : Int32))) >>> ((Int32.toUInt32 (8 : Int32)) &&& Int32.toUInt32 31)).toInt32))]) (by decide) rfl (dOk_at dt_J6_bitCount_0f7a4 31 rfl) ?_
  refine j_iload_n hC 0 rfl rfl (dOk_at dt_J6_bitCount_0f7a4 32 rfl) ?_
  refine j_iload_n hC 0 rfl rfl (dOk_at dt_J6_bitCount_0f7a4 33 rfl) ?_
  refine j_bipush hC (v := (16 : Int32)) rfl (dOk_at dt_J6_bitCount_0f7a4 34 rfl) ?_
  refine j_iushr hC (dOk_at dt_J6_bitCount_0f7a4 35 rfl) ?_
  refine j_iadd hC (dOk_at dt_J6_bitCount_0f7a4 36 rfl) ?_
  refine j_istore_n hC rfl (lv' := [(0, .int (((((((x0 - (((Int32.toUInt32 x0) >>> ((Int32.toUInt32 (1 : Int32)) &&& Int32.toUInt32 31)).toInt32 &&& (1431655765 : Int32))) &&& (858993459 : Int32)) + (((Int32.toUInt32 (x0 - (((Int32.toUInt32 x0) >>> ((Int32.toUInt32 (1 : Int32)) &&& Int32.toUInt32 31)).toInt32 &&& (1431655765 : Int32)))) >>> ((Int32.toUInt32 (2 : Int32)) &&& Int32.toUInt32 31)).toInt32 &&& (858993459 : Int32))) + ((Int32.toUInt32 (((x0 - (((Int32.toUInt32 x0) >>> ((Int32.toUInt32 (1 : Int32)) &&& Int32.toUInt32 31)).toInt32 &&& (1431655765 : Int32))) &&& (858993459 : Int32)) + (((Int32.toUInt32 (x0 - (((Int32.toUInt32 x0) >>> ((Int32.toUInt32 (1 : Int32)) &&& Int32.toUInt32 31)).toInt32 &&& (1431655765 : Int32)))) >>> ((Int32.toUInt32 (2 : Int32)) &&& Int32.toUInt32 31)).toInt32 &&& (858993459 : Int32)))) >>> ((Int32.toUInt32 (4 : Int32)) &&& Int32.toUInt32 31)).toInt32) &&& (252645135 : Int32)) + ((Int32.toUInt32 (((((x0 - (((Int32.toUInt32 x0) >>> ((Int32.toUInt32 (1 : Int32)) &&& Int32.toUInt32 31)).toInt32 &&& (1431655765 : Int32))) &&& (858993459 : Int32)) + (((Int32.toUInt32 (x0 - (((Int32.toUInt32 x0) >>> ((Int32.toUInt32 (1 : Int32)) &&& Int32.toUInt32 31)).toInt32 &&& (1431655765 : Int32)))) >>> ((Int32.toUInt32 (2 : Int32)) &&& Int32.toUInt32 31)).toInt32 &&& (858993459 : Int32))) + ((Int32.toUInt32 (((x0 - (((Int32.toUInt32 x0) >>> ((Int32.toUInt32 (1 : Int32)) &&& Int32.toUInt32 31)).toInt32 &&& (1431655765 : Int32))) &&& (858993459 : Int32)) + (((Int32.toUInt32 (x0 - (((Int32.toUInt32 x0) >>> ((Int32.toUInt32 (1 : Int32)) &&& Int32.toUInt32 31)).toInt32 &&& (1431655765 : Int32)))) >>> ((Int32.toUInt32 (2 : Int32)) &&& Int32.toUInt32 31)).toInt32 &&& (858993459 : Int32)))) >>> ((Int32.toUInt32 (4 : Int32)) &&& Int32.toUInt32 31)).toInt32) &&& (252645135 : Int32))) >>> ((Int32.toUInt32 (8 : Int32)) &&& Int32.toUInt32 31)).toInt32) + ((Int32.toUInt32 ((((((x0 - (((Int32.toUInt32 x0) >>> ((Int32.toUInt32 (1 : Int32)) &&& Int32.toUInt32 31)).toInt32 &&& (1431655765 : Int32))) &&& (858993459 : Int32)) + (((Int32.toUInt32 (x0 - (((Int32.toUInt32 x0) >>> ((Int32.toUInt32 (1 : Int32)) &&& Int32.toUInt32 31)).toInt32 &&& (1431655765 : Int32)))) >>> ((Int32.toUInt32 (2 : Int32)) &&& Int32.toUInt32 31)).toInt32 &&& (858993459 : Int32))) + ((Int32.toUInt32 (((x0 - (((Int32.toUInt32 x0) >>> ((Int32.toUInt32 (1 : Int32)) &&& Int32.toUInt32 31)).toInt32 &&& (1431655765 : Int32))) &&& (858993459 : Int32)) + (((Int32.toUInt32 (x0 - (((Int32.toUInt32 x0) >>> ((Int32.toUInt32 (1 : Int32)) &&& Int32.toUInt32 31)).toInt32 &&& (1431655765 : Int32)))) >>> ((Int32.toUInt32 (2 : Int32)) &&& Int32.toUInt32 31)).toInt32 &&& (858993459 : Int32)))) >>> ((Int32.toUInt32 (4 : Int32)) &&& Int32.toUInt32 31)).toInt32) &&& (252645135 : Int32)) + ((Int32.toUInt32 (((((x0 - (((Int32.toUInt32 x0) >>> ((Int32.toUInt32 (1 : Int32)) &&& Int32.toUInt32 31)).toInt32 &&& (1431655765 : Int32))) &&& (858993459 : Int32)) + (((Int32.toUInt32 (x0 - (((Int32.toUInt32 x0) >>> ((Int32.toUInt32 (1 : Int32)) &&& Int32.toUInt32 31)).toInt32 &&& (1431655765 : Int32)))) >>> ((Int32.toUInt32 (2 : Int32)) &&& Int32.toUInt32 31)).toInt32 &&& (858993459 : Int32))) + ((Int32.toUInt32 (((x0 - (((Int32.toUInt32 x0) >>> ((Int32.toUInt32 (1 : Int32)) &&& Int32.toUInt32 31)).toInt32 &&& (1431655765 : Int32))) &&& (858993459 : Int32)) + (((Int32.toUInt32 (x0 - (((Int32.toUInt32 x0) >>> ((Int32.toUInt32 (1 : Int32)) &&& Int32.toUInt32 31)).toInt32 &&& (1431655765 : Int32)))) >>> ((Int32.toUInt32 (2 : Int32)) &&& Int32.toUInt32 31)).toInt32 &&& (858993459 : Int32)))) >>> ((Int32.toUInt32 (4 : Int32)) &&& Int32.toUInt32 31)).toInt32) &&& (252645135 : Int32))) >>> ((Int32.toUInt32 (8 : Int32)) &&& Int32.toUInt32 31)).toInt32)) >>> ((Int32.toUInt32 (16 : Int32)) &&& Int32.toUInt32 31)).toInt32))]) (by decide) rfl (dOk_at dt_J6_bitCount_0f7a4 37 rfl) ?_
  refine j_iload_n hC 0 rfl rfl (dOk_at dt_J6_bitCount_0f7a4 38 rfl) ?_
  refine j_bipush hC (v := (63 : Int32)) rfl (dOk_at dt_J6_bitCount_0f7a4 39 rfl) ?_
  refine j_iand hC (dOk_at dt_J6_bitCount_0f7a4 40 rfl) ?_
  exact j_iret hC hret (dOk_at dt_J6_bitCount_0f7a4 41 rfl)
def tb_X0_largestDefended : List (Nat × Instr × Nat) := [(0, .aload_n 0, 1), (1, .invokevirtual 73, 3), (4, .istore_n 1, 1), (5, .iconst 0, 1), (6, .istore_n 2, 1), (7, .iconst 0, 1), (8, .istore_n 3, 1), (9, .iload_n 3, 1), (10, .iload_n 1, 1), (11, .if_icmp .gt 30, 3), (14, .iload_n 3, 1), (15, .invokestatic 83, 3), (18, .iload_n 2, 1), (19, .invokestatic 83, 3), (22, .if_icmp .le 13, 3), (25, .aload_n 0, 1), (26, .iload_n 3, 1), (27, .invokevirtual 88, 3), (30, .ifCond .eq 5, 3), (33, .iload_n 3, 1), (34, .istore_n 2, 1), (35, .iinc 3 1, 3), (38, .goto (-29), 3), (41, .iload_n 2, 1), (42, .ireturn, 1)]
theorem dt_X0_largestDefended : dOk cX0_largestDefended tb_X0_largestDefended = true := by decide +kernel
def fX0_largestDefended_35 (tt : Nat) (rec9 : Hp → Int32 → Int32 → Int32 → Option (Int32 × Hp)) (h : Hp) (x1 : Int32) (x2 : Int32) (x3 : Int32) : Option (Int32 × Hp) := rec9 h x1 x2 (x3 + (1 : Int32))
def fX0_largestDefended_9 : Nat → (Nat) → Hp → Int32 → Int32 → Int32 → Option (Int32 × Hp)
  | 0, _, _, _, _, _ => none
  | fu + 1, tt, h, x1, x2, x3 => if x1 < x3 then (some (x2, h)) else (bnd (fJ6_bitCount_0f7a4 h x3) (fun v_4 h_5 => bnd (fJ6_bitCount_0f7a4 h_5 x2) (fun v_6 h_7 => if v_4 ≤ v_6 then (fX0_largestDefended_35 tt (fX0_largestDefended_9 fu tt) h_7 x1 x2 x3) else (bnd (fX0_isDefended tt h_7 x3) (fun v_9 h_10 => if v_9 = 0 then (fX0_largestDefended_35 tt (fX0_largestDefended_9 fu tt) h_10 x1 x2 x3) else (fX0_largestDefended_35 tt (fX0_largestDefended_9 fu tt) h_10 x1 x3 x3))))))
def fX0_largestDefended (tt : Nat) (h : Hp) : Option (Int32 × Hp) := bnd (fX0_all tt h) (fun v_1 h_2 => fX0_largestDefended_9 FU tt h_2 v_1 (0 : Int32) (0 : Int32))
set_option maxRecDepth 100000 in
set_option maxHeartbeats 4000000 in
theorem c_X0_largestDefended {l : Launch} {sb : State} {D : va_G} {ids : Nat → ClassId} {n : Nat} (hN : 152 ≤ n) {tt : Nat} (ht : shp tt = (0, 12)) (h : Hp) (r : Int32 × Hp) (hr : fX0_largestDefended tt h = some r) : jM l yX0_largestDefended cX0_largestDefended 4 (some .int) 2 sb D ids shp St n [.ref tt] h (jQi sb D ids shp St n r) := by
  refine jM_of hr rfl (Nat.le_of_ble_eq_true rfl) ?_
  intro p e s m args below meth c hC hret
  have b35 : ∀ (rec9 : Hp → Int32 → Int32 → Int32 → Option (Int32 × Hp)) (hrec9 : ∀ (h : Hp) (x1 : Int32) (x2 : Int32) (x3 : Int32) , jJ p l e (rmD 2) s m args below meth c 4 sb D ids shp St (fun r => MQ below (jQi sb D ids shp St n r) args s 0 0 (jA sb)) n 0 0 h 9 [(0, .ref tt), (1, .int x1), (2, .int x2), (3, .int x3)] [] (rec9 h x1 x2 x3)) (h : Hp) (x1 : Int32) (x2 : Int32) (x3 : Int32) , jJ p l e (rmD 2) s m args below meth c 4 sb D ids shp St (fun r => MQ below (jQi sb D ids shp St n r) args s 0 0 (jA sb)) n 0 0 h 35 [(0, .ref tt), (1, .int x1), (2, .int x2), (3, .int x3)] [] (fX0_largestDefended_35 tt rec9 h x1 x2 x3) := by
    intro rec9 hrec9 h x1 x2 x3 
    unfold fX0_largestDefended_35
    refine j_iinc hC (v := (x3 + (1 : Int32))) (lv' := [(3, .int (x3 + (1 : Int32))), (0, .ref tt), (1, .int x1), (2, .int x2)]) 3 rfl (congrArg (fun z => x3 + z) (show Int32.ofInt (1) = (1 : Int32) from by decide)) (by decide) rfl (dOk_at dt_X0_largestDefended 21 rfl) ?_
    refine j_goto hC (tgt := 9) (by decide) (dOk_at dt_X0_largestDefended 22 rfl) ?_
    refine j_sub [1, 2, 3, 0] rfl ?_
    exact hrec9 h x1 x2 (x3 + (1 : Int32)) 
  have b9 : ∀ (fu : Nat) (h : Hp) (x1 : Int32) (x2 : Int32) (x3 : Int32) , jJ p l e (rmD 2) s m args below meth c 4 sb D ids shp St (fun r => MQ below (jQi sb D ids shp St n r) args s 0 0 (jA sb)) n 0 0 h 9 [(0, .ref tt), (1, .int x1), (2, .int x2), (3, .int x3)] [] (fX0_largestDefended_9 fu tt h x1 x2 x3) := by
    intro fu 
    induction fu with
    | zero => intro h x1 x2 x3 ; exact j_none
    | succ fu ih =>
    intro h x1 x2 x3 
    rw [fX0_largestDefended_9]
    refine j_iload_n hC 3 rfl rfl (dOk_at dt_X0_largestDefended 7 rfl) ?_
    refine j_iload_n hC 1 rfl rfl (dOk_at dt_X0_largestDefended 8 rfl) ?_
    refine j_icmp_gt hC (tgt := 41) (by decide) (dOk_at dt_X0_largestDefended 9 rfl) (fun q_3 => ?_) (fun q_3 => ?_)
    · refine j_iload_n hC 2 rfl rfl (dOk_at dt_X0_largestDefended 23 rfl) ?_
      exact j_iret hC hret (dOk_at dt_X0_largestDefended 24 rfl)
    · refine j_iload_n hC 3 rfl rfl (dOk_at dt_X0_largestDefended 10 rfl) ?_
      refine j_callSi hC clX0_83 (fun rz hrz => c_J6_bitCount_0f7a4 hN _ _ rz hrz) rfl ⟨Nat.le_of_ble_eq_true rfl, Nat.le_of_ble_eq_true rfl⟩ ⟨Nat.le_refl 0, Nat.le_refl 0⟩ (As := [.int x3]) (st := []) rfl (Nat.le_of_ble_eq_true rfl) (dOk_at dt_X0_largestDefended 11 rfl) (fun v_4 h_5 _ => ?_)
      refine j_iload_n hC 2 rfl rfl (dOk_at dt_X0_largestDefended 12 rfl) ?_
      refine j_callSi hC clX0_83 (fun rz hrz => c_J6_bitCount_0f7a4 hN _ _ rz hrz) rfl ⟨Nat.le_of_ble_eq_true rfl, Nat.le_of_ble_eq_true rfl⟩ ⟨Nat.le_refl 0, Nat.le_refl 0⟩ (As := [.int x2]) (st := [.int v_4]) rfl (Nat.le_of_ble_eq_true rfl) (dOk_at dt_X0_largestDefended 13 rfl) (fun v_6 h_7 _ => ?_)
      refine j_icmp_le hC (tgt := 35) (by decide) (dOk_at dt_X0_largestDefended 14 rfl) (fun q_8 => ?_) (fun q_8 => ?_)
      · exact b35 (fX0_largestDefended_9 fu tt) ih h_7 x1 x2 x3 
      · refine j_aload_n hC 0 rfl rfl (dOk_at dt_X0_largestDefended 15 rfl) ?_
        refine j_iload_n hC 3 rfl rfl (dOk_at dt_X0_largestDefended 16 rfl) ?_
        refine j_callVi hC clX0_88 (fun rz hrz => c_X0_isDefended hN (ht) _ _ rz hrz) ht (jlt hN ht (by decide)) (by decide) rfl rfl ⟨Nat.le_of_ble_eq_true rfl, Nat.le_of_ble_eq_true rfl⟩ ⟨Nat.le_refl 0, Nat.le_refl 0⟩ (As := [.int x3]) (st := []) rfl (Nat.le_of_ble_eq_true rfl) (dOk_at dt_X0_largestDefended 17 rfl) (fun v_9 h_10 _ => ?_)
        refine j_if_eq hC (tgt := 35) (by decide) (dOk_at dt_X0_largestDefended 18 rfl) (fun q_11 => ?_) (fun q_11 => ?_)
        · exact b35 (fX0_largestDefended_9 fu tt) ih h_10 x1 x2 x3 
        · refine j_iload_n hC 3 rfl rfl (dOk_at dt_X0_largestDefended 19 rfl) ?_
          refine j_istore_n hC rfl (lv' := [(2, .int x3), (0, .ref tt), (1, .int x1), (3, .int x3)]) (by decide) rfl (dOk_at dt_X0_largestDefended 20 rfl) ?_
          refine j_sub [1, 2, 0, 3] rfl ?_
          exact b35 (fX0_largestDefended_9 fu tt) ih h_10 x1 x3 x3 
  unfold fX0_largestDefended
  refine j_aload_n hC 0 rfl rfl (dOk_at dt_X0_largestDefended 0 rfl) ?_
  refine j_callVi hC clX0_73 (fun rz hrz => c_X0_all hN (ht) _ rz hrz) ht (jlt hN ht (by decide)) (by decide) rfl rfl ⟨Nat.le_of_ble_eq_true rfl, Nat.le_of_ble_eq_true rfl⟩ ⟨Nat.le_refl 0, Nat.le_refl 0⟩ (As := []) (st := []) rfl (Nat.le_of_ble_eq_true rfl) (dOk_at dt_X0_largestDefended 1 rfl) (fun v_1 h_2 _ => ?_)
  refine j_istore_n hC rfl (lv' := [(1, .int v_1), (0, .ref tt)]) (by decide) rfl (dOk_at dt_X0_largestDefended 2 rfl) ?_
  refine j_iconst hC (v := (0 : Int32)) rfl (dOk_at dt_X0_largestDefended 3 rfl) ?_
  refine j_istore_n hC rfl (lv' := [(2, .int (0 : Int32)), (1, .int v_1), (0, .ref tt)]) (by decide) rfl (dOk_at dt_X0_largestDefended 4 rfl) ?_
  refine j_iconst hC (v := (0 : Int32)) rfl (dOk_at dt_X0_largestDefended 5 rfl) ?_
  refine j_istore_n hC rfl (lv' := [(3, .int (0 : Int32)), (2, .int (0 : Int32)), (1, .int v_1), (0, .ref tt)]) (by decide) rfl (dOk_at dt_X0_largestDefended 6 rfl) ?_
  refine j_sub [3, 2, 1, 0] rfl ?_
  exact b9 FU h_2 v_1 (0 : Int32) (0 : Int32) 
def tb_X0_keepWithout : List (Nat × Instr × Nat) := [(0, .iconst 0, 1), (1, .istore_n 3, 1), (2, .iload_n 3, 1), (3, .bipush 8, 2), (5, .if_icmp .ge 23, 3), (8, .aload_n 0, 1), (9, .getfield 43, 3), (12, .iload_n 3, 1), (13, .iconst 0, 1), (14, .iastore, 1), (15, .aload_n 0, 1), (16, .getfield 46, 3), (19, .iload_n 3, 1), (20, .iconst 0, 1), (21, .iastore, 1), (22, .iinc 3 1, 3), (25, .goto (-23), 3), (28, .iconst 0, 1), (29, .istore_n 3, 1), (30, .iload_n 3, 1), (31, .aload_n 0, 1), (32, .getfield 33, 3), (35, .if_icmp .ge 87, 3), (38, .iload_n 3, 1), (39, .bipush 16, 2), (41, .if_icmp .ge 81, 3), (44, .aload_n 0, 1), (45, .getfield 37, 3), (48, .iload_n 3, 1), (49, .iaload, 1), (50, .istore 4, 2), (52, .aload_n 0, 1), (53, .getfield 40, 3), (56, .iload_n 3, 1), (57, .iaload, 1), (58, .istore 5, 2), (60, .iload_n 3, 1), (61, .iload_n 1, 1), (62, .if_icmp .eq 54, 3), (65, .iload_n 3, 1), (66, .iload_n 2, 1), (67, .if_icmp .eq 49, 3), (70, .aload_n 0, 1), (71, .iload 4, 2), (73, .invokevirtual 65, 3), (76, .ifCond .eq 40, 3), (79, .aload_n 0, 1), (80, .iload 5, 2), (82, .invokevirtual 65, 3), (85, .ifCond .eq 31, 3), (88, .aload_n 0, 1), (89, .getfield 43, 3), (92, .iload 4, 2), (94, .dup2, 1), (95, .iaload, 1), (96, .iconst 1, 1), (97, .iload 5, 2), (99, .ishl, 1), (100, .ior, 1), (101, .iastore, 1), (102, .aload_n 0, 1), (103, .getfield 46, 3), (106, .iload 5, 2), (108, .dup2, 1), (109, .iaload, 1), (110, .iconst 1, 1), (111, .iload 4, 2), (113, .ishl, 1), (114, .ior, 1), (115, .iastore, 1), (116, .iinc 3 1, 3), (119, .goto (-89), 3), (122, .return_, 1)]
theorem dt_X0_keepWithout : dOk cX0_keepWithout tb_X0_keepWithout = true := by decide +kernel
def fX0_keepWithout_116 (tt : Nat) (rec30 : Hp → Int32 → Int32 → Int32 → Option (Hp)) (h : Hp) (x1 : Int32) (x2 : Int32) (x3 : Int32) : Option (Hp) := rec30 h x1 x2 (x3 + (1 : Int32))
def fX0_keepWithout_30 : Nat → (Nat) → Hp → Int32 → Int32 → Int32 → Option (Hp)
  | 0, _, _, _, _, _ => none
  | fu + 1, tt, h, x1, x2, x3 => if (hI h tt 5) ≤ x3 then (some h) else (if (16 : Int32) ≤ x3 then (some h) else (if inb x3 16 then (if inb x3 16 then (if x3 = x1 then (fX0_keepWithout_116 tt (fX0_keepWithout_30 fu tt) h x1 x2 x3) else (if x3 = x2 then (fX0_keepWithout_116 tt (fX0_keepWithout_30 fu tt) h x1 x2 x3) else (bnd (fX0_isOne tt h (hI h (rf tt 6) (Int32.toNatClampNeg x3))) (fun v_6 h_7 => if v_6 = 0 then (fX0_keepWithout_116 tt (fX0_keepWithout_30 fu tt) h_7 x1 x2 x3) else (bnd (fX0_isOne tt h_7 (hI h (rf tt 7) (Int32.toNatClampNeg x3))) (fun v_9 h_10 => if v_9 = 0 then (fX0_keepWithout_116 tt (fX0_keepWithout_30 fu tt) h_10 x1 x2 x3) else (if inb (hI h (rf tt 6) (Int32.toNatClampNeg x3)) 8 then (if inb (hI h (rf tt 6) (Int32.toNatClampNeg x3)) 8 then (if inb (hI h (rf tt 7) (Int32.toNatClampNeg x3)) 8 then (if inb (hI h (rf tt 7) (Int32.toNatClampNeg x3)) 8 then (fX0_keepWithout_116 tt (fX0_keepWithout_30 fu tt) (uI (uI h_10 (rf tt 8) (Int32.toNatClampNeg (hI h (rf tt 6) (Int32.toNatClampNeg x3))) ((hI h_10 (rf tt 8) (Int32.toNatClampNeg (hI h (rf tt 6) (Int32.toNatClampNeg x3)))) ||| ((1 : Int32) <<< ((hI h (rf tt 7) (Int32.toNatClampNeg x3)) &&& 31)))) (rf tt 9) (Int32.toNatClampNeg (hI h (rf tt 7) (Int32.toNatClampNeg x3))) ((hI (uI h_10 (rf tt 8) (Int32.toNatClampNeg (hI h (rf tt 6) (Int32.toNatClampNeg x3))) ((hI h_10 (rf tt 8) (Int32.toNatClampNeg (hI h (rf tt 6) (Int32.toNatClampNeg x3)))) ||| ((1 : Int32) <<< ((hI h (rf tt 7) (Int32.toNatClampNeg x3)) &&& 31)))) (rf tt 9) (Int32.toNatClampNeg (hI h (rf tt 7) (Int32.toNatClampNeg x3)))) ||| ((1 : Int32) <<< ((hI h (rf tt 6) (Int32.toNatClampNeg x3)) &&& 31)))) x1 x2 x3) else none) else none) else none) else none))))))) else none) else none))
def fX0_keepWithout_2 : Nat → (Nat) → Hp → Int32 → Int32 → Int32 → Option (Hp)
  | 0, _, _, _, _, _ => none
  | fu + 1, tt, h, x1, x2, x3 => if (8 : Int32) ≤ x3 then (fX0_keepWithout_30 FU tt h x1 x2 (0 : Int32)) else (if inb x3 8 then (if inb x3 8 then ((fX0_keepWithout_2 fu tt) (uI (uI h (rf tt 8) (Int32.toNatClampNeg x3) (0 : Int32)) (rf tt 9) (Int32.toNatClampNeg x3) (0 : Int32)) x1 x2 (x3 + (1 : Int32))) else none) else none)
def fX0_keepWithout (tt : Nat) (h : Hp) (x1 : Int32) (x2 : Int32) : Option (Hp) := fX0_keepWithout_2 FU tt h x1 x2 (0 : Int32)
set_option maxRecDepth 100000 in
set_option maxHeartbeats 4000000 in
theorem c_X0_keepWithout {l : Launch} {sb : State} {D : va_G} {ids : Nat → ClassId} {n : Nat} (hN : 152 ≤ n) {tt : Nat} (ht : shp tt = (0, 12)) (h : Hp) (x1 : Int32) (x2 : Int32) (r : Hp) (hr : fX0_keepWithout tt h x1 x2 = some r) : jM l yX0_keepWithout cX0_keepWithout 6 none 1 sb D ids shp St n [.ref tt, .int x1, .int x2] h (jQv sb D ids shp St n r) := by
  refine jM_of hr rfl (Nat.le_of_ble_eq_true rfl) ?_
  intro p e s m args below meth c hC hret
  have b116 : ∀ (rec30 : Hp → Int32 → Int32 → Int32 → Option (Hp)) (hrec30 : ∀ (h : Hp) (x1 : Int32) (x2 : Int32) (x3 : Int32) , jJ p l e (rmD 1) s m args below meth c 6 sb D ids shp St (fun r => MQ below (jQv sb D ids shp St n r) args s 0 0 (jA sb)) n 0 0 h 30 [(0, .ref tt), (1, .int x1), (2, .int x2), (3, .int x3)] [] (rec30 h x1 x2 x3)) (h : Hp) (x1 : Int32) (x2 : Int32) (x3 : Int32) , jJ p l e (rmD 1) s m args below meth c 6 sb D ids shp St (fun r => MQ below (jQv sb D ids shp St n r) args s 0 0 (jA sb)) n 0 0 h 116 [(0, .ref tt), (1, .int x1), (2, .int x2), (3, .int x3)] [] (fX0_keepWithout_116 tt rec30 h x1 x2 x3) := by
    intro rec30 hrec30 h x1 x2 x3 
    unfold fX0_keepWithout_116
    refine j_iinc hC (v := (x3 + (1 : Int32))) (lv' := [(3, .int (x3 + (1 : Int32))), (0, .ref tt), (1, .int x1), (2, .int x2)]) 3 rfl (congrArg (fun z => x3 + z) (show Int32.ofInt (1) = (1 : Int32) from by decide)) (by decide) rfl (dOk_at dt_X0_keepWithout 70 rfl) ?_
    refine j_goto hC (tgt := 30) (by decide) (dOk_at dt_X0_keepWithout 71 rfl) ?_
    refine j_sub [1, 2, 3, 0] rfl ?_
    exact hrec30 h x1 x2 (x3 + (1 : Int32)) 
  have b30 : ∀ (fu : Nat) (h : Hp) (x1 : Int32) (x2 : Int32) (x3 : Int32) , jJ p l e (rmD 1) s m args below meth c 6 sb D ids shp St (fun r => MQ below (jQv sb D ids shp St n r) args s 0 0 (jA sb)) n 0 0 h 30 [(0, .ref tt), (1, .int x1), (2, .int x2), (3, .int x3)] [] (fX0_keepWithout_30 fu tt h x1 x2 x3) := by
    intro fu 
    induction fu with
    | zero => intro h x1 x2 x3 ; exact j_none
    | succ fu ih =>
    intro h x1 x2 x3 
    rw [fX0_keepWithout_30]
    refine j_iload_n hC 3 rfl rfl (dOk_at dt_X0_keepWithout 19 rfl) ?_
    refine j_aload_n hC 0 rfl rfl (dOk_at dt_X0_keepWithout 20 rfl) ?_
    refine j_getI hC flX0_33 ht (jlt hN ht (by decide)) (by decide) (by decide) (fun _ _ _ => rfl) (dOk_at dt_X0_keepWithout 21 rfl) ?_
    refine j_icmp_ge hC (tgt := 122) (by decide) (dOk_at dt_X0_keepWithout 22 rfl) (fun q_2 => ?_) (fun q_2 => ?_)
    · exact j_vret hC hret (dOk_at dt_X0_keepWithout 72 rfl)
    · refine j_iload_n hC 3 rfl rfl (dOk_at dt_X0_keepWithout 23 rfl) ?_
      refine j_bipush hC (v := (16 : Int32)) rfl (dOk_at dt_X0_keepWithout 24 rfl) ?_
      refine j_icmp_ge hC (tgt := 122) (by decide) (dOk_at dt_X0_keepWithout 25 rfl) (fun q_3 => ?_) (fun q_3 => ?_)
      · exact j_vret hC hret (dOk_at dt_X0_keepWithout 72 rfl)
      · refine j_aload_n hC 0 rfl rfl (dOk_at dt_X0_keepWithout 26 rfl) ?_
        refine j_getR hC flX0_37 ht (jlt hN ht (by decide)) (by decide) (by decide) (fun _ _ _ => rfl) (fun hs => hs _ _ _ (sf_0_6 ht).1) (dOk_at dt_X0_keepWithout 27 rfl) ?_
        refine j_iload_n hC 3 rfl rfl (dOk_at dt_X0_keepWithout 28 rfl) ?_
        refine j_iald hC (sf_0_6 ht).2.1 (Nat.lt_of_lt_of_le (sf_0_6 ht).2.2 hN) (dOk_at dt_X0_keepWithout 29 rfl) ?_
        refine j_istore hC (lv' := [(4, .int (hI h (rf tt 6) (Int32.toNatClampNeg x3))), (0, .ref tt), (1, .int x1), (2, .int x2), (3, .int x3)]) (by decide) rfl (dOk_at dt_X0_keepWithout 30 rfl) ?_
        refine j_aload_n hC 1 rfl rfl (dOk_at dt_X0_keepWithout 31 rfl) ?_
        refine j_getR hC flX0_40 ht (jlt hN ht (by decide)) (by decide) (by decide) (fun _ _ _ => rfl) (fun hs => hs _ _ _ (sf_0_7 ht).1) (dOk_at dt_X0_keepWithout 32 rfl) ?_
        refine j_iload_n hC 4 rfl rfl (dOk_at dt_X0_keepWithout 33 rfl) ?_
        refine j_iald hC (sf_0_7 ht).2.1 (Nat.lt_of_lt_of_le (sf_0_7 ht).2.2 hN) (dOk_at dt_X0_keepWithout 34 rfl) ?_
        refine j_istore hC (lv' := [(5, .int (hI h (rf tt 7) (Int32.toNatClampNeg x3))), (4, .int (hI h (rf tt 6) (Int32.toNatClampNeg x3))), (0, .ref tt), (1, .int x1), (2, .int x2), (3, .int x3)]) (by decide) rfl (dOk_at dt_X0_keepWithout 35 rfl) ?_
        refine j_iload_n hC 5 rfl rfl (dOk_at dt_X0_keepWithout 36 rfl) ?_
        refine j_iload_n hC 3 rfl rfl (dOk_at dt_X0_keepWithout 37 rfl) ?_
        refine j_icmp_eq hC (tgt := 116) (by decide) (dOk_at dt_X0_keepWithout 38 rfl) (fun q_4 => ?_) (fun q_4 => ?_)
        · refine j_sub [2, 3, 4, 5] rfl ?_
          exact b116 (fX0_keepWithout_30 fu tt) ih h x1 x2 x3 
        · refine j_iload_n hC 5 rfl rfl (dOk_at dt_X0_keepWithout 39 rfl) ?_
          refine j_iload_n hC 4 rfl rfl (dOk_at dt_X0_keepWithout 40 rfl) ?_
          refine j_icmp_eq hC (tgt := 116) (by decide) (dOk_at dt_X0_keepWithout 41 rfl) (fun q_5 => ?_) (fun q_5 => ?_)
          · refine j_sub [2, 3, 4, 5] rfl ?_
            exact b116 (fX0_keepWithout_30 fu tt) ih h x1 x2 x3 
          · refine j_aload_n hC 2 rfl rfl (dOk_at dt_X0_keepWithout 42 rfl) ?_
            refine j_iload hC 1 rfl (dOk_at dt_X0_keepWithout 43 rfl) ?_
            refine j_callVi hC clX0_65 (fun rz hrz => c_X0_isOne hN (ht) _ _ rz hrz) ht (jlt hN ht (by decide)) (by decide) rfl rfl ⟨Nat.le_of_ble_eq_true rfl, Nat.le_of_ble_eq_true rfl⟩ ⟨Nat.le_refl 0, Nat.le_refl 0⟩ (As := [.int (hI h (rf tt 6) (Int32.toNatClampNeg x3))]) (st := []) rfl (Nat.le_of_ble_eq_true rfl) (dOk_at dt_X0_keepWithout 44 rfl) (fun v_6 h_7 _ => ?_)
            refine j_if_eq hC (tgt := 116) (by decide) (dOk_at dt_X0_keepWithout 45 rfl) (fun q_8 => ?_) (fun q_8 => ?_)
            · refine j_sub [2, 3, 4, 5] rfl ?_
              exact b116 (fX0_keepWithout_30 fu tt) ih h_7 x1 x2 x3 
            · refine j_aload_n hC 2 rfl rfl (dOk_at dt_X0_keepWithout 46 rfl) ?_
              refine j_iload hC 0 rfl (dOk_at dt_X0_keepWithout 47 rfl) ?_
              refine j_callVi hC clX0_65 (fun rz hrz => c_X0_isOne hN (ht) _ _ rz hrz) ht (jlt hN ht (by decide)) (by decide) rfl rfl ⟨Nat.le_of_ble_eq_true rfl, Nat.le_of_ble_eq_true rfl⟩ ⟨Nat.le_refl 0, Nat.le_refl 0⟩ (As := [.int (hI h (rf tt 7) (Int32.toNatClampNeg x3))]) (st := []) rfl (Nat.le_of_ble_eq_true rfl) (dOk_at dt_X0_keepWithout 48 rfl) (fun v_9 h_10 _ => ?_)
              refine j_if_eq hC (tgt := 116) (by decide) (dOk_at dt_X0_keepWithout 49 rfl) (fun q_11 => ?_) (fun q_11 => ?_)
              · refine j_sub [2, 3, 4, 5] rfl ?_
                exact b116 (fX0_keepWithout_30 fu tt) ih h_10 x1 x2 x3 
              · refine j_aload_n hC 2 rfl rfl (dOk_at dt_X0_keepWithout 50 rfl) ?_
                refine j_getR hC flX0_43 ht (jlt hN ht (by decide)) (by decide) (by decide) (fun _ _ _ => rfl) (fun hs => hs _ _ _ (sf_0_8 ht).1) (dOk_at dt_X0_keepWithout 51 rfl) ?_
                refine j_iload hC 1 rfl (dOk_at dt_X0_keepWithout 52 rfl) ?_
                refine j_dup2 hC (dOk_at dt_X0_keepWithout 53 rfl) ?_
                refine j_iald hC (sf_0_8 ht).2.1 (Nat.lt_of_lt_of_le (sf_0_8 ht).2.2 hN) (dOk_at dt_X0_keepWithout 54 rfl) ?_
                refine j_iconst hC (v := (1 : Int32)) rfl (dOk_at dt_X0_keepWithout 55 rfl) ?_
                refine j_iload hC 0 rfl (dOk_at dt_X0_keepWithout 56 rfl) ?_
                refine j_ishl hC (dOk_at dt_X0_keepWithout 57 rfl) ?_
                refine j_ior hC (dOk_at dt_X0_keepWithout 58 rfl) ?_
                refine j_iast hC St_SP (sf_0_8 ht).2.1 (Nat.lt_of_lt_of_le (sf_0_8 ht).2.2 hN) (dOk_at dt_X0_keepWithout 59 rfl) ?_
                refine j_aload_n hC 2 rfl rfl (dOk_at dt_X0_keepWithout 60 rfl) ?_
                refine j_getR hC flX0_46 ht (jlt hN ht (by decide)) (by decide) (by decide) (fun _ _ _ => rfl) (fun hs => hs _ _ _ (sf_0_9 ht).1) (dOk_at dt_X0_keepWithout 61 rfl) ?_
                refine j_iload hC 0 rfl (dOk_at dt_X0_keepWithout 62 rfl) ?_
                refine j_dup2 hC (dOk_at dt_X0_keepWithout 63 rfl) ?_
                refine j_iald hC (sf_0_9 ht).2.1 (Nat.lt_of_lt_of_le (sf_0_9 ht).2.2 hN) (dOk_at dt_X0_keepWithout 64 rfl) ?_
                refine j_iconst hC (v := (1 : Int32)) rfl (dOk_at dt_X0_keepWithout 65 rfl) ?_
                refine j_iload hC 1 rfl (dOk_at dt_X0_keepWithout 66 rfl) ?_
                refine j_ishl hC (dOk_at dt_X0_keepWithout 67 rfl) ?_
                refine j_ior hC (dOk_at dt_X0_keepWithout 68 rfl) ?_
                refine j_iast hC St_SP (sf_0_9 ht).2.1 (Nat.lt_of_lt_of_le (sf_0_9 ht).2.2 hN) (dOk_at dt_X0_keepWithout 69 rfl) ?_
                refine j_sub [2, 3, 4, 5] rfl ?_
                exact b116 (fX0_keepWithout_30 fu tt) ih (uI (uI h_10 (rf tt 8) (Int32.toNatClampNeg (hI h (rf tt 6) (Int32.toNatClampNeg x3))) ((hI h_10 (rf tt 8) (Int32.toNatClampNeg (hI h (rf tt 6) (Int32.toNatClampNeg x3)))) ||| ((1 : Int32) <<< ((hI h (rf tt 7) (Int32.toNatClampNeg x3)) &&& 31)))) (rf tt 9) (Int32.toNatClampNeg (hI h (rf tt 7) (Int32.toNatClampNeg x3))) ((hI (uI h_10 (rf tt 8) (Int32.toNatClampNeg (hI h (rf tt 6) (Int32.toNatClampNeg x3))) ((hI h_10 (rf tt 8) (Int32.toNatClampNeg (hI h (rf tt 6) (Int32.toNatClampNeg x3)))) ||| ((1 : Int32) <<< ((hI h (rf tt 7) (Int32.toNatClampNeg x3)) &&& 31)))) (rf tt 9) (Int32.toNatClampNeg (hI h (rf tt 7) (Int32.toNatClampNeg x3)))) ||| ((1 : Int32) <<< ((hI h (rf tt 6) (Int32.toNatClampNeg x3)) &&& 31)))) x1 x2 x3 
  have b2 : ∀ (fu : Nat) (h : Hp) (x1 : Int32) (x2 : Int32) (x3 : Int32) , jJ p l e (rmD 1) s m args below meth c 6 sb D ids shp St (fun r => MQ below (jQv sb D ids shp St n r) args s 0 0 (jA sb)) n 0 0 h 2 [(0, .ref tt), (1, .int x1), (2, .int x2), (3, .int x3)] [] (fX0_keepWithout_2 fu tt h x1 x2 x3) := by
    intro fu 
    induction fu with
    | zero => intro h x1 x2 x3 ; exact j_none
    | succ fu ih =>
    intro h x1 x2 x3 
    rw [fX0_keepWithout_2]
    refine j_iload_n hC 3 rfl rfl (dOk_at dt_X0_keepWithout 2 rfl) ?_
    refine j_bipush hC (v := (8 : Int32)) rfl (dOk_at dt_X0_keepWithout 3 rfl) ?_
    refine j_icmp_ge hC (tgt := 28) (by decide) (dOk_at dt_X0_keepWithout 4 rfl) (fun q_1 => ?_) (fun q_1 => ?_)
    · refine j_iconst hC (v := (0 : Int32)) rfl (dOk_at dt_X0_keepWithout 17 rfl) ?_
      refine j_istore_n hC rfl (lv' := [(3, .int (0 : Int32)), (0, .ref tt), (1, .int x1), (2, .int x2)]) (by decide) rfl (dOk_at dt_X0_keepWithout 18 rfl) ?_
      refine j_sub [1, 2, 3, 0] rfl ?_
      exact b30 FU h x1 x2 (0 : Int32) 
    · refine j_aload_n hC 0 rfl rfl (dOk_at dt_X0_keepWithout 5 rfl) ?_
      refine j_getR hC flX0_43 ht (jlt hN ht (by decide)) (by decide) (by decide) (fun _ _ _ => rfl) (fun hs => hs _ _ _ (sf_0_8 ht).1) (dOk_at dt_X0_keepWithout 6 rfl) ?_
      refine j_iload_n hC 3 rfl rfl (dOk_at dt_X0_keepWithout 7 rfl) ?_
      refine j_iconst hC (v := (0 : Int32)) rfl (dOk_at dt_X0_keepWithout 8 rfl) ?_
      refine j_iast hC St_SP (sf_0_8 ht).2.1 (Nat.lt_of_lt_of_le (sf_0_8 ht).2.2 hN) (dOk_at dt_X0_keepWithout 9 rfl) ?_
      refine j_aload_n hC 0 rfl rfl (dOk_at dt_X0_keepWithout 10 rfl) ?_
      refine j_getR hC flX0_46 ht (jlt hN ht (by decide)) (by decide) (by decide) (fun _ _ _ => rfl) (fun hs => hs _ _ _ (sf_0_9 ht).1) (dOk_at dt_X0_keepWithout 11 rfl) ?_
      refine j_iload_n hC 3 rfl rfl (dOk_at dt_X0_keepWithout 12 rfl) ?_
      refine j_iconst hC (v := (0 : Int32)) rfl (dOk_at dt_X0_keepWithout 13 rfl) ?_
      refine j_iast hC St_SP (sf_0_9 ht).2.1 (Nat.lt_of_lt_of_le (sf_0_9 ht).2.2 hN) (dOk_at dt_X0_keepWithout 14 rfl) ?_
      refine j_iinc hC (v := (x3 + (1 : Int32))) (lv' := [(3, .int (x3 + (1 : Int32))), (0, .ref tt), (1, .int x1), (2, .int x2)]) 3 rfl (congrArg (fun z => x3 + z) (show Int32.ofInt (1) = (1 : Int32) from by decide)) (by decide) rfl (dOk_at dt_X0_keepWithout 15 rfl) ?_
      refine j_goto hC (tgt := 2) (by decide) (dOk_at dt_X0_keepWithout 16 rfl) ?_
      refine j_sub [1, 2, 3, 0] rfl ?_
      exact ih (uI (uI h (rf tt 8) (Int32.toNatClampNeg x3) (0 : Int32)) (rf tt 9) (Int32.toNatClampNeg x3) (0 : Int32)) x1 x2 (x3 + (1 : Int32)) 
  unfold fX0_keepWithout
  refine j_iconst hC (v := (0 : Int32)) rfl (dOk_at dt_X0_keepWithout 0 rfl) ?_
  refine j_istore_n hC rfl (lv' := [(3, .int (0 : Int32)), (0, .ref tt), (1, .int x1), (2, .int x2)]) (by decide) rfl (dOk_at dt_X0_keepWithout 1 rfl) ?_
  refine j_sub [1, 2, 3, 0] rfl ?_
  exact b2 FU h x1 x2 (0 : Int32) 
def tb_X0_defendedBy : List (Nat × Instr × Nat) := [(0, .iconst 0, 1), (1, .istore_n 2, 1), (2, .iconst 0, 1), (3, .istore_n 3, 1), (4, .iload_n 3, 1), (5, .bipush 8, 2), (7, .if_icmp .ge 27, 3), (10, .iload_n 1, 1), (11, .iload_n 3, 1), (12, .ishr, 1), (13, .iconst 1, 1), (14, .iand, 1), (15, .iconst 1, 1), (16, .if_icmp .ne 12, 3), (19, .iload_n 2, 1), (20, .aload_n 0, 1), (21, .getfield 43, 3), (24, .iload_n 3, 1), (25, .iaload, 1), (26, .ior, 1), (27, .istore_n 2, 1), (28, .iinc 3 1, 3), (31, .goto (-27), 3), (34, .iconst 0, 1), (35, .istore_n 3, 1), (36, .iconst 0, 1), (37, .istore 4, 2), (39, .iload 4, 2), (41, .aload_n 0, 1), (42, .getfield 14, 3), (45, .getfield 55, 3), (48, .if_icmp .ge 37, 3), (51, .iload 4, 2), (53, .bipush 8, 2), (55, .if_icmp .ge 30, 3), (58, .aload_n 0, 1), (59, .getfield 46, 3), (62, .iload 4, 2), (64, .iaload, 1), (65, .iload_n 2, 1), (66, .iconst (-1), 1), (67, .ixor, 1), (68, .iand, 1), (69, .ifCond .ne 10, 3), (72, .iload_n 3, 1), (73, .iconst 1, 1), (74, .iload 4, 2), (76, .ishl, 1), (77, .ior, 1), (78, .istore_n 3, 1), (79, .iinc 4 1, 3), (82, .goto (-43), 3), (85, .iload_n 3, 1), (86, .ireturn, 1)]
theorem dt_X0_defendedBy : dOk cX0_defendedBy tb_X0_defendedBy = true := by decide +kernel
def fX0_defendedBy_79 (tt : Nat) (rec39 : Hp → Int32 → Int32 → Int32 → Option (Int32 × Hp)) (h : Hp) (x2 : Int32) (x3 : Int32) (x4 : Int32) : Option (Int32 × Hp) := rec39 h x2 x3 (x4 + (1 : Int32))
def fX0_defendedBy_39 : Nat → (Nat) → Hp → Int32 → Int32 → Int32 → Option (Int32 × Hp)
  | 0, _, _, _, _, _ => none
  | fu + 1, tt, h, x2, x3, x4 => if (hI h (rf tt 0) 2) ≤ x4 then (some (x3, h)) else (if (8 : Int32) ≤ x4 then (some (x3, h)) else (if inb x4 8 then (if ((hI h (rf tt 9) (Int32.toNatClampNeg x4)) &&& (x2 ^^^ (-1 : Int32))) = 0 then (fX0_defendedBy_79 tt (fX0_defendedBy_39 fu tt) h x2 (x3 ||| ((1 : Int32) <<< (x4 &&& 31))) x4) else (fX0_defendedBy_79 tt (fX0_defendedBy_39 fu tt) h x2 x3 x4)) else none))
def fX0_defendedBy_28 (tt : Nat) (rec4 : Hp → Int32 → Int32 → Int32 → Option (Int32 × Hp)) (h : Hp) (x1 : Int32) (x2 : Int32) (x3 : Int32) : Option (Int32 × Hp) := rec4 h x1 x2 (x3 + (1 : Int32))
def fX0_defendedBy_4 : Nat → (Nat) → Hp → Int32 → Int32 → Int32 → Option (Int32 × Hp)
  | 0, _, _, _, _, _ => none
  | fu + 1, tt, h, x1, x2, x3 => if (8 : Int32) ≤ x3 then (fX0_defendedBy_39 FU tt h x2 (0 : Int32) (0 : Int32)) else (if ((x1 >>> (x3 &&& 31)) &&& (1 : Int32)) = (1 : Int32) then (if inb x3 8 then (fX0_defendedBy_28 tt (fX0_defendedBy_4 fu tt) h x1 (x2 ||| (hI h (rf tt 8) (Int32.toNatClampNeg x3))) x3) else none) else (fX0_defendedBy_28 tt (fX0_defendedBy_4 fu tt) h x1 x2 x3))
def fX0_defendedBy (tt : Nat) (h : Hp) (x1 : Int32) : Option (Int32 × Hp) := fX0_defendedBy_4 FU tt h x1 (0 : Int32) (0 : Int32)
set_option maxRecDepth 100000 in
set_option maxHeartbeats 4000000 in
theorem c_X0_defendedBy {l : Launch} {sb : State} {D : va_G} {ids : Nat → ClassId} {n : Nat} (hN : 152 ≤ n) {tt : Nat} (ht : shp tt = (0, 12)) (h : Hp) (x1 : Int32) (r : Int32 × Hp) (hr : fX0_defendedBy tt h x1 = some r) : jM l yX0_defendedBy cX0_defendedBy 5 (some .int) 0 sb D ids shp St n [.ref tt, .int x1] h (jQi sb D ids shp St n r) := by
  refine jM_of hr rfl (Nat.le_of_ble_eq_true rfl) ?_
  intro p e s m args below meth c hC hret
  have b79 : ∀ (rec39 : Hp → Int32 → Int32 → Int32 → Option (Int32 × Hp)) (hrec39 : ∀ (h : Hp) (x2 : Int32) (x3 : Int32) (x4 : Int32) , jJ p l e (rmD 0) s m args below meth c 5 sb D ids shp St (fun r => MQ below (jQi sb D ids shp St n r) args s 0 0 (jA sb)) n 0 0 h 39 [(0, .ref tt), (2, .int x2), (3, .int x3), (4, .int x4)] [] (rec39 h x2 x3 x4)) (h : Hp) (x2 : Int32) (x3 : Int32) (x4 : Int32) , jJ p l e (rmD 0) s m args below meth c 5 sb D ids shp St (fun r => MQ below (jQi sb D ids shp St n r) args s 0 0 (jA sb)) n 0 0 h 79 [(0, .ref tt), (2, .int x2), (3, .int x3), (4, .int x4)] [] (fX0_defendedBy_79 tt rec39 h x2 x3 x4) := by
    intro rec39 hrec39 h x2 x3 x4 
    unfold fX0_defendedBy_79
    refine j_iinc hC (v := (x4 + (1 : Int32))) (lv' := [(4, .int (x4 + (1 : Int32))), (0, .ref tt), (2, .int x2), (3, .int x3)]) 3 rfl (congrArg (fun z => x4 + z) (show Int32.ofInt (1) = (1 : Int32) from by decide)) (by decide) rfl (dOk_at dt_X0_defendedBy 50 rfl) ?_
    refine j_goto hC (tgt := 39) (by decide) (dOk_at dt_X0_defendedBy 51 rfl) ?_
    refine j_sub [1, 2, 3, 0] rfl ?_
    exact hrec39 h x2 x3 (x4 + (1 : Int32)) 
  have b39 : ∀ (fu : Nat) (h : Hp) (x2 : Int32) (x3 : Int32) (x4 : Int32) , jJ p l e (rmD 0) s m args below meth c 5 sb D ids shp St (fun r => MQ below (jQi sb D ids shp St n r) args s 0 0 (jA sb)) n 0 0 h 39 [(0, .ref tt), (2, .int x2), (3, .int x3), (4, .int x4)] [] (fX0_defendedBy_39 fu tt h x2 x3 x4) := by
    intro fu 
    induction fu with
    | zero => intro h x2 x3 x4 ; exact j_none
    | succ fu ih =>
    intro h x2 x3 x4 
    rw [fX0_defendedBy_39]
    refine j_iload hC 3 rfl (dOk_at dt_X0_defendedBy 27 rfl) ?_
    refine j_aload_n hC 0 rfl rfl (dOk_at dt_X0_defendedBy 28 rfl) ?_
    refine j_getR hC flX0_14 ht (jlt hN ht (by decide)) (by decide) (by decide) (fun _ _ _ => rfl) (fun hs => hs _ _ _ (sf_0_0 ht).1) (dOk_at dt_X0_defendedBy 29 rfl) ?_
    refine j_getI hC flX0_55 (sf_0_0 ht).2.1 (Nat.lt_of_lt_of_le (sf_0_0 ht).2.2 hN) (by decide) (by decide) (fun _ _ _ => rfl) (dOk_at dt_X0_defendedBy 30 rfl) ?_
    refine j_icmp_ge hC (tgt := 85) (by decide) (dOk_at dt_X0_defendedBy 31 rfl) (fun q_3 => ?_) (fun q_3 => ?_)
    · refine j_iload_n hC 2 rfl rfl (dOk_at dt_X0_defendedBy 52 rfl) ?_
      exact j_iret hC hret (dOk_at dt_X0_defendedBy 53 rfl)
    · refine j_iload hC 3 rfl (dOk_at dt_X0_defendedBy 32 rfl) ?_
      refine j_bipush hC (v := (8 : Int32)) rfl (dOk_at dt_X0_defendedBy 33 rfl) ?_
      refine j_icmp_ge hC (tgt := 85) (by decide) (dOk_at dt_X0_defendedBy 34 rfl) (fun q_4 => ?_) (fun q_4 => ?_)
      · refine j_iload_n hC 2 rfl rfl (dOk_at dt_X0_defendedBy 52 rfl) ?_
        exact j_iret hC hret (dOk_at dt_X0_defendedBy 53 rfl)
      · refine j_aload_n hC 0 rfl rfl (dOk_at dt_X0_defendedBy 35 rfl) ?_
        refine j_getR hC flX0_46 ht (jlt hN ht (by decide)) (by decide) (by decide) (fun _ _ _ => rfl) (fun hs => hs _ _ _ (sf_0_9 ht).1) (dOk_at dt_X0_defendedBy 36 rfl) ?_
        refine j_iload hC 3 rfl (dOk_at dt_X0_defendedBy 37 rfl) ?_
        refine j_iald hC (sf_0_9 ht).2.1 (Nat.lt_of_lt_of_le (sf_0_9 ht).2.2 hN) (dOk_at dt_X0_defendedBy 38 rfl) ?_
        refine j_iload_n hC 1 rfl rfl (dOk_at dt_X0_defendedBy 39 rfl) ?_
        refine j_iconst hC (v := (-1 : Int32)) rfl (dOk_at dt_X0_defendedBy 40 rfl) ?_
        refine j_ixor hC (dOk_at dt_X0_defendedBy 41 rfl) ?_
        refine j_iand hC (dOk_at dt_X0_defendedBy 42 rfl) ?_
        refine j_if_ne hC (tgt := 79) (by decide) (dOk_at dt_X0_defendedBy 43 rfl) (fun q_5 => ?_) (fun q_5 => ?_)
        · exact b79 (fX0_defendedBy_39 fu tt) ih h x2 x3 x4 
        · refine j_iload_n hC 2 rfl rfl (dOk_at dt_X0_defendedBy 44 rfl) ?_
          refine j_iconst hC (v := (1 : Int32)) rfl (dOk_at dt_X0_defendedBy 45 rfl) ?_
          refine j_iload hC 3 rfl (dOk_at dt_X0_defendedBy 46 rfl) ?_
          refine j_ishl hC (dOk_at dt_X0_defendedBy 47 rfl) ?_
          refine j_ior hC (dOk_at dt_X0_defendedBy 48 rfl) ?_
          refine j_istore_n hC rfl (lv' := [(3, .int (x3 ||| ((1 : Int32) <<< (x4 &&& 31)))), (0, .ref tt), (2, .int x2), (4, .int x4)]) (by decide) rfl (dOk_at dt_X0_defendedBy 49 rfl) ?_
          refine j_sub [1, 2, 0, 3] rfl ?_
          exact b79 (fX0_defendedBy_39 fu tt) ih h x2 (x3 ||| ((1 : Int32) <<< (x4 &&& 31))) x4 
  have b28 : ∀ (rec4 : Hp → Int32 → Int32 → Int32 → Option (Int32 × Hp)) (hrec4 : ∀ (h : Hp) (x1 : Int32) (x2 : Int32) (x3 : Int32) , jJ p l e (rmD 0) s m args below meth c 5 sb D ids shp St (fun r => MQ below (jQi sb D ids shp St n r) args s 0 0 (jA sb)) n 0 0 h 4 [(0, .ref tt), (1, .int x1), (2, .int x2), (3, .int x3)] [] (rec4 h x1 x2 x3)) (h : Hp) (x1 : Int32) (x2 : Int32) (x3 : Int32) , jJ p l e (rmD 0) s m args below meth c 5 sb D ids shp St (fun r => MQ below (jQi sb D ids shp St n r) args s 0 0 (jA sb)) n 0 0 h 28 [(0, .ref tt), (1, .int x1), (2, .int x2), (3, .int x3)] [] (fX0_defendedBy_28 tt rec4 h x1 x2 x3) := by
    intro rec4 hrec4 h x1 x2 x3 
    unfold fX0_defendedBy_28
    refine j_iinc hC (v := (x3 + (1 : Int32))) (lv' := [(3, .int (x3 + (1 : Int32))), (0, .ref tt), (1, .int x1), (2, .int x2)]) 3 rfl (congrArg (fun z => x3 + z) (show Int32.ofInt (1) = (1 : Int32) from by decide)) (by decide) rfl (dOk_at dt_X0_defendedBy 21 rfl) ?_
    refine j_goto hC (tgt := 4) (by decide) (dOk_at dt_X0_defendedBy 22 rfl) ?_
    refine j_sub [1, 2, 3, 0] rfl ?_
    exact hrec4 h x1 x2 (x3 + (1 : Int32)) 
  have b4 : ∀ (fu : Nat) (h : Hp) (x1 : Int32) (x2 : Int32) (x3 : Int32) , jJ p l e (rmD 0) s m args below meth c 5 sb D ids shp St (fun r => MQ below (jQi sb D ids shp St n r) args s 0 0 (jA sb)) n 0 0 h 4 [(0, .ref tt), (1, .int x1), (2, .int x2), (3, .int x3)] [] (fX0_defendedBy_4 fu tt h x1 x2 x3) := by
    intro fu 
    induction fu with
    | zero => intro h x1 x2 x3 ; exact j_none
    | succ fu ih =>
    intro h x1 x2 x3 
    rw [fX0_defendedBy_4]
    refine j_iload_n hC 3 rfl rfl (dOk_at dt_X0_defendedBy 4 rfl) ?_
    refine j_bipush hC (v := (8 : Int32)) rfl (dOk_at dt_X0_defendedBy 5 rfl) ?_
    refine j_icmp_ge hC (tgt := 34) (by decide) (dOk_at dt_X0_defendedBy 6 rfl) (fun q_1 => ?_) (fun q_1 => ?_)
    · refine j_iconst hC (v := (0 : Int32)) rfl (dOk_at dt_X0_defendedBy 23 rfl) ?_
      refine j_istore_n hC rfl (lv' := [(3, .int (0 : Int32)), (0, .ref tt), (1, .int x1), (2, .int x2)]) (by decide) rfl (dOk_at dt_X0_defendedBy 24 rfl) ?_
      refine j_iconst hC (v := (0 : Int32)) rfl (dOk_at dt_X0_defendedBy 25 rfl) ?_
      refine j_istore hC (lv' := [(4, .int (0 : Int32)), (3, .int (0 : Int32)), (0, .ref tt), (1, .int x1), (2, .int x2)]) (by decide) rfl (dOk_at dt_X0_defendedBy 26 rfl) ?_
      refine j_sub [2, 4, 1, 0] rfl ?_
      exact b39 FU h x2 (0 : Int32) (0 : Int32) 
    · refine j_iload_n hC 1 rfl rfl (dOk_at dt_X0_defendedBy 7 rfl) ?_
      refine j_iload_n hC 3 rfl rfl (dOk_at dt_X0_defendedBy 8 rfl) ?_
      refine j_ishr hC (dOk_at dt_X0_defendedBy 9 rfl) ?_
      refine j_iconst hC (v := (1 : Int32)) rfl (dOk_at dt_X0_defendedBy 10 rfl) ?_
      refine j_iand hC (dOk_at dt_X0_defendedBy 11 rfl) ?_
      refine j_iconst hC (v := (1 : Int32)) rfl (dOk_at dt_X0_defendedBy 12 rfl) ?_
      refine j_icmp_ne hC (tgt := 28) (by decide) (dOk_at dt_X0_defendedBy 13 rfl) (fun q_2 => ?_) (fun q_2 => ?_)
      · exact b28 (fX0_defendedBy_4 fu tt) ih h x1 x2 x3 
      · refine j_iload_n hC 2 rfl rfl (dOk_at dt_X0_defendedBy 14 rfl) ?_
        refine j_aload_n hC 0 rfl rfl (dOk_at dt_X0_defendedBy 15 rfl) ?_
        refine j_getR hC flX0_43 ht (jlt hN ht (by decide)) (by decide) (by decide) (fun _ _ _ => rfl) (fun hs => hs _ _ _ (sf_0_8 ht).1) (dOk_at dt_X0_defendedBy 16 rfl) ?_
        refine j_iload_n hC 3 rfl rfl (dOk_at dt_X0_defendedBy 17 rfl) ?_
        refine j_iald hC (sf_0_8 ht).2.1 (Nat.lt_of_lt_of_le (sf_0_8 ht).2.2 hN) (dOk_at dt_X0_defendedBy 18 rfl) ?_
        refine j_ior hC (dOk_at dt_X0_defendedBy 19 rfl) ?_
        refine j_istore_n hC rfl (lv' := [(2, .int (x2 ||| (hI h (rf tt 8) (Int32.toNatClampNeg x3)))), (0, .ref tt), (1, .int x1), (3, .int x3)]) (by decide) rfl (dOk_at dt_X0_defendedBy 20 rfl) ?_
        refine j_sub [1, 2, 0, 3] rfl ?_
        exact b28 (fX0_defendedBy_4 fu tt) ih h x1 (x2 ||| (hI h (rf tt 8) (Int32.toNatClampNeg x3))) x3 
  unfold fX0_defendedBy
  refine j_iconst hC (v := (0 : Int32)) rfl (dOk_at dt_X0_defendedBy 0 rfl) ?_
  refine j_istore_n hC rfl (lv' := [(2, .int (0 : Int32)), (0, .ref tt), (1, .int x1)]) (by decide) rfl (dOk_at dt_X0_defendedBy 1 rfl) ?_
  refine j_iconst hC (v := (0 : Int32)) rfl (dOk_at dt_X0_defendedBy 2 rfl) ?_
  refine j_istore_n hC rfl (lv' := [(3, .int (0 : Int32)), (2, .int (0 : Int32)), (0, .ref tt), (1, .int x1)]) (by decide) rfl (dOk_at dt_X0_defendedBy 3 rfl) ?_
  refine j_sub [2, 3, 1, 0] rfl ?_
  exact b4 FU h x1 (0 : Int32) (0 : Int32) 
def tb_X0_groundWithout : List (Nat × Instr × Nat) := [(0, .aload_n 0, 1), (1, .iload_n 1, 1), (2, .iload_n 2, 1), (3, .invokevirtual 91, 3), (6, .iconst 0, 1), (7, .istore_n 3, 1), (8, .aload_n 0, 1), (9, .iload_n 3, 1), (10, .invokevirtual 95, 3), (13, .istore 4, 2), (15, .iconst 0, 1), (16, .istore 5, 2), (18, .iload 5, 2), (20, .bipush 8, 2), (22, .if_icmp .ge 25, 3), (25, .iload 4, 2), (27, .iload_n 3, 1), (28, .if_icmp .eq 19, 3), (31, .iload 4, 2), (33, .istore_n 3, 1), (34, .aload_n 0, 1), (35, .iload_n 3, 1), (36, .invokevirtual 95, 3), (39, .istore 4, 2), (41, .iinc 5 1, 3), (44, .goto (-26), 3), (47, .iload_n 3, 1), (48, .ireturn, 1)]
theorem dt_X0_groundWithout : dOk cX0_groundWithout tb_X0_groundWithout = true := by decide +kernel
def fX0_groundWithout_18 : Nat → (Nat) → Hp → Int32 → Int32 → Int32 → Option (Int32 × Hp)
  | 0, _, _, _, _, _ => none
  | fu + 1, tt, h, x3, x4, x5 => if (8 : Int32) ≤ x5 then (some (x3, h)) else (if x4 = x3 then (some (x3, h)) else (bnd (fX0_defendedBy tt h x4) (fun v_7 h_8 => (fX0_groundWithout_18 fu tt) h_8 x4 v_7 (x5 + (1 : Int32)))))
def fX0_groundWithout (tt : Nat) (h : Hp) (x1 : Int32) (x2 : Int32) : Option (Int32 × Hp) := (fX0_keepWithout tt h x1 x2).bind (fun h_2 => bnd (fX0_defendedBy tt h_2 (0 : Int32)) (fun v_3 h_4 => fX0_groundWithout_18 FU tt h_4 (0 : Int32) v_3 (0 : Int32)))
set_option maxRecDepth 100000 in
set_option maxHeartbeats 4000000 in
theorem c_X0_groundWithout {l : Launch} {sb : State} {D : va_G} {ids : Nat → ClassId} {n : Nat} (hN : 152 ≤ n) {tt : Nat} (ht : shp tt = (0, 12)) (h : Hp) (x1 : Int32) (x2 : Int32) (r : Int32 × Hp) (hr : fX0_groundWithout tt h x1 x2 = some r) : jM l yX0_groundWithout cX0_groundWithout 6 (some .int) 2 sb D ids shp St n [.ref tt, .int x1, .int x2] h (jQi sb D ids shp St n r) := by
  refine jM_of hr rfl (Nat.le_of_ble_eq_true rfl) ?_
  intro p e s m args below meth c hC hret
  have b18 : ∀ (fu : Nat) (h : Hp) (x3 : Int32) (x4 : Int32) (x5 : Int32) , jJ p l e (rmD 2) s m args below meth c 6 sb D ids shp St (fun r => MQ below (jQi sb D ids shp St n r) args s 0 0 (jA sb)) n 0 0 h 18 [(0, .ref tt), (3, .int x3), (4, .int x4), (5, .int x5)] [] (fX0_groundWithout_18 fu tt h x3 x4 x5) := by
    intro fu 
    induction fu with
    | zero => intro h x3 x4 x5 ; exact j_none
    | succ fu ih =>
    intro h x3 x4 x5 
    rw [fX0_groundWithout_18]
    refine j_iload hC 3 rfl (dOk_at dt_X0_groundWithout 12 rfl) ?_
    refine j_bipush hC (v := (8 : Int32)) rfl (dOk_at dt_X0_groundWithout 13 rfl) ?_
    refine j_icmp_ge hC (tgt := 47) (by decide) (dOk_at dt_X0_groundWithout 14 rfl) (fun q_5 => ?_) (fun q_5 => ?_)
    · refine j_iload_n hC 1 rfl rfl (dOk_at dt_X0_groundWithout 26 rfl) ?_
      exact j_iret hC hret (dOk_at dt_X0_groundWithout 27 rfl)
    · refine j_iload hC 2 rfl (dOk_at dt_X0_groundWithout 15 rfl) ?_
      refine j_iload_n hC 1 rfl rfl (dOk_at dt_X0_groundWithout 16 rfl) ?_
      refine j_icmp_eq hC (tgt := 47) (by decide) (dOk_at dt_X0_groundWithout 17 rfl) (fun q_6 => ?_) (fun q_6 => ?_)
      · refine j_iload_n hC 1 rfl rfl (dOk_at dt_X0_groundWithout 26 rfl) ?_
        exact j_iret hC hret (dOk_at dt_X0_groundWithout 27 rfl)
      · refine j_iload hC 2 rfl (dOk_at dt_X0_groundWithout 18 rfl) ?_
        refine j_istore_n hC rfl (lv' := [(3, .int x4), (0, .ref tt), (4, .int x4), (5, .int x5)]) (by decide) rfl (dOk_at dt_X0_groundWithout 19 rfl) ?_
        refine j_aload_n hC 1 rfl rfl (dOk_at dt_X0_groundWithout 20 rfl) ?_
        refine j_iload_n hC 0 rfl rfl (dOk_at dt_X0_groundWithout 21 rfl) ?_
        refine j_callVi hC clX0_95 (fun rz hrz => c_X0_defendedBy hN (ht) _ _ rz hrz) ht (jlt hN ht (by decide)) (by decide) rfl rfl ⟨Nat.le_of_ble_eq_true rfl, Nat.le_of_ble_eq_true rfl⟩ ⟨Nat.le_refl 0, Nat.le_refl 0⟩ (As := [.int x4]) (st := []) rfl (Nat.le_of_ble_eq_true rfl) (dOk_at dt_X0_groundWithout 22 rfl) (fun v_7 h_8 _ => ?_)
        refine j_istore hC (lv' := [(4, .int v_7), (3, .int x4), (0, .ref tt), (5, .int x5)]) (by decide) rfl (dOk_at dt_X0_groundWithout 23 rfl) ?_
        refine j_iinc hC (v := (x5 + (1 : Int32))) (lv' := [(5, .int (x5 + (1 : Int32))), (4, .int v_7), (3, .int x4), (0, .ref tt)]) 3 rfl (congrArg (fun z => x5 + z) (show Int32.ofInt (1) = (1 : Int32) from by decide)) (by decide) rfl (dOk_at dt_X0_groundWithout 24 rfl) ?_
        refine j_goto hC (tgt := 18) (by decide) (dOk_at dt_X0_groundWithout 25 rfl) ?_
        refine j_sub [3, 2, 1, 0] rfl ?_
        exact ih h_8 x4 v_7 (x5 + (1 : Int32)) 
  unfold fX0_groundWithout
  refine j_aload_n hC 0 rfl rfl (dOk_at dt_X0_groundWithout 0 rfl) ?_
  refine j_iload_n hC 1 rfl rfl (dOk_at dt_X0_groundWithout 1 rfl) ?_
  refine j_iload_n hC 2 rfl rfl (dOk_at dt_X0_groundWithout 2 rfl) ?_
  refine j_callVv hC clX0_91 (fun rz hrz => c_X0_keepWithout hN (ht) _ _ _ rz hrz) ht (jlt hN ht (by decide)) (by decide) rfl rfl ⟨Nat.le_of_ble_eq_true rfl, Nat.le_of_ble_eq_true rfl⟩ ⟨Nat.le_refl 0, Nat.le_refl 0⟩ (As := [.int x1, .int x2]) (st := []) rfl (Nat.le_of_ble_eq_true rfl) (dOk_at dt_X0_groundWithout 3 rfl) (fun h_2 _ => ?_)
  refine j_iconst hC (v := (0 : Int32)) rfl (dOk_at dt_X0_groundWithout 4 rfl) ?_
  refine j_istore_n hC rfl (lv' := [(3, .int (0 : Int32)), (0, .ref tt), (1, .int x1), (2, .int x2)]) (by decide) rfl (dOk_at dt_X0_groundWithout 5 rfl) ?_
  refine j_aload_n hC 1 rfl rfl (dOk_at dt_X0_groundWithout 6 rfl) ?_
  refine j_iload_n hC 0 rfl rfl (dOk_at dt_X0_groundWithout 7 rfl) ?_
  refine j_callVi hC clX0_95 (fun rz hrz => c_X0_defendedBy hN (ht) _ _ rz hrz) ht (jlt hN ht (by decide)) (by decide) rfl rfl ⟨Nat.le_of_ble_eq_true rfl, Nat.le_of_ble_eq_true rfl⟩ ⟨Nat.le_refl 0, Nat.le_refl 0⟩ (As := [.int (0 : Int32)]) (st := []) rfl (Nat.le_of_ble_eq_true rfl) (dOk_at dt_X0_groundWithout 8 rfl) (fun v_3 h_4 _ => ?_)
  refine j_istore hC (lv' := [(4, .int v_3), (3, .int (0 : Int32)), (0, .ref tt), (1, .int x1), (2, .int x2)]) (by decide) rfl (dOk_at dt_X0_groundWithout 9 rfl) ?_
  refine j_iconst hC (v := (0 : Int32)) rfl (dOk_at dt_X0_groundWithout 10 rfl) ?_
  refine j_istore hC (lv' := [(5, .int (0 : Int32)), (4, .int v_3), (3, .int (0 : Int32)), (0, .ref tt), (1, .int x1), (2, .int x2)]) (by decide) rfl (dOk_at dt_X0_groundWithout 11 rfl) ?_
  refine j_sub [3, 2, 1, 0] rfl ?_
  exact b18 FU h_4 (0 : Int32) v_3 (0 : Int32) 
def tb_X0_replyTo : List (Nat × Instr × Nat) := [(0, .iload_n 3, 1), (1, .bipush 8, 2), (3, .if_icmp .gt 13, 3), (6, .iload_n 1, 1), (7, .ifCond .lt 9, 3), (10, .iload_n 1, 1), (11, .aload_n 0, 1), (12, .arraylength, 1), (13, .if_icmp .lt 5, 3), (16, .iconst (-1), 1), (17, .ireturn, 1), (18, .aload_n 0, 1), (19, .iload_n 1, 1), (20, .iaload, 1), (21, .iload_n 2, 1), (22, .iconst (-1), 1), (23, .ixor, 1), (24, .iand, 1), (25, .istore 4, 2), (27, .iconst 0, 1), (28, .istore 5, 2), (30, .iload 5, 2), (32, .bipush 8, 2), (34, .if_icmp .ge 42, 3), (37, .iload 4, 2), (39, .iload 5, 2), (41, .ishr, 1), (42, .iconst 1, 1), (43, .iand, 1), (44, .iconst 1, 1), (45, .if_icmp .ne 25, 3), (48, .aload_n 0, 1), (49, .iload 5, 2), (51, .iload_n 2, 1), (52, .iconst 1, 1), (53, .iload 5, 2), (55, .ishl, 1), (56, .ior, 1), (57, .iload_n 3, 1), (58, .iconst 1, 1), (59, .iadd, 1), (60, .invokestatic 98, 3), (63, .iconst (-1), 1), (64, .if_icmp .ne 6, 3), (67, .iload 5, 2), (69, .ireturn, 1), (70, .iinc 5 1, 3), (73, .goto (-43), 3), (76, .iconst (-1), 1), (77, .ireturn, 1)]
theorem dt_X0_replyTo : dOk cX0_replyTo tb_X0_replyTo = true := by decide +kernel
def fX0_replyTo_70 (slf : Hp → Int32 → Int32 → Int32 → Option (Int32 × Hp)) (r0 : Nat) (n0 : Nat) (rec30 : Hp → Int32 → Int32 → Int32 → Int32 → Option (Int32 × Hp)) (h : Hp) (x2 : Int32) (x3 : Int32) (x4 : Int32) (x5 : Int32) : Option (Int32 × Hp) := rec30 h x2 x3 x4 (x5 + (1 : Int32))
def fX0_replyTo_30 : Nat → (Hp → Int32 → Int32 → Int32 → Option (Int32 × Hp)) → (Nat) → (Nat) → Hp → Int32 → Int32 → Int32 → Int32 → Option (Int32 × Hp)
  | 0, _, _, _, _, _, _, _, _ => none
  | fu + 1, slf, r0, n0, h, x2, x3, x4, x5 => if (8 : Int32) ≤ x5 then (some ((-1 : Int32), h)) else (if ((x4 >>> (x5 &&& 31)) &&& (1 : Int32)) = (1 : Int32) then (bnd (slf h x5 (x2 ||| ((1 : Int32) <<< (x5 &&& 31))) (x3 + (1 : Int32))) (fun v_6 h_7 => if v_6 = (-1 : Int32) then (some (x5, h_7)) else (fX0_replyTo_70 slf r0 n0 (fX0_replyTo_30 fu slf r0 n0) h_7 x2 x3 x4 x5))) else (fX0_replyTo_70 slf r0 n0 (fX0_replyTo_30 fu slf r0 n0) h x2 x3 x4 x5))
def fX0_replyTo_s (slf : Hp → Int32 → Int32 → Int32 → Option (Int32 × Hp)) (r0 : Nat) (n0 : Nat) (h : Hp) (x1 : Int32) (x2 : Int32) (x3 : Int32) : Option (Int32 × Hp) := if (8 : Int32) < x3 then (some ((-1 : Int32), h)) else (if x1 < 0 then (some ((-1 : Int32), h)) else (if x1 < (Int32.ofNat n0) then (if inb x1 n0 then (fX0_replyTo_30 FU slf r0 n0 h x2 x3 ((hI h r0 (Int32.toNatClampNeg x1)) &&& (x2 ^^^ (-1 : Int32))) (0 : Int32)) else none) else (some ((-1 : Int32), h))))
set_option maxRecDepth 100000 in
set_option maxHeartbeats 4000000 in
theorem c_X0_replyTo_s {l : Launch} {sb : State} {D : va_G} {ids : Nat → ClassId} {n : Nat} (hN : 152 ≤ n) {slf : Hp → Int32 → Int32 → Int32 → Option (Int32 × Hp)} {r0 : Nat} {n0 : Nat} {d : Nat} (hd : 0 ≤ d) (hslf : ∀ (h : Hp) (x1 : Int32) (x2 : Int32) (x3 : Int32) (rz : Int32 × Hp), slf h x1 x2 x3 = some rz → jM l yX0_replyTo cX0_replyTo 6 (some .int) d sb D ids shp St n [.ref r0, .int x1, .int x2, .int x3] h (jQi sb D ids shp St n rz)) (h0 : shp r0 = (21, n0)) (h : Hp) (x1 : Int32) (x2 : Int32) (x3 : Int32) (r : Int32 × Hp) (hr : fX0_replyTo_s slf r0 n0 h x1 x2 x3 = some r) : jM l yX0_replyTo cX0_replyTo 6 (some .int) (d + 1) sb D ids shp St n [.ref r0, .int x1, .int x2, .int x3] h (jQi sb D ids shp St n r) := by
  refine jM_of hr rfl (Nat.le_of_ble_eq_true rfl) ?_
  intro p e s m args below meth c hC hret
  have b70 : ∀ (rec30 : Hp → Int32 → Int32 → Int32 → Int32 → Option (Int32 × Hp)) (hrec30 : ∀ (h : Hp) (x2 : Int32) (x3 : Int32) (x4 : Int32) (x5 : Int32) , jJ p l e (rmD (d + 1)) s m args below meth c 6 sb D ids shp St (fun r => MQ below (jQi sb D ids shp St n r) args s 0 0 (jA sb)) n 0 0 h 30 [(0, .ref r0), (2, .int x2), (3, .int x3), (4, .int x4), (5, .int x5)] [] (rec30 h x2 x3 x4 x5)) (h : Hp) (x2 : Int32) (x3 : Int32) (x4 : Int32) (x5 : Int32) , jJ p l e (rmD (d + 1)) s m args below meth c 6 sb D ids shp St (fun r => MQ below (jQi sb D ids shp St n r) args s 0 0 (jA sb)) n 0 0 h 70 [(0, .ref r0), (2, .int x2), (3, .int x3), (4, .int x4), (5, .int x5)] [] (fX0_replyTo_70 slf r0 n0 rec30 h x2 x3 x4 x5) := by
    intro rec30 hrec30 h x2 x3 x4 x5 
    unfold fX0_replyTo_70
    refine j_iinc hC (v := (x5 + (1 : Int32))) (lv' := [(5, .int (x5 + (1 : Int32))), (0, .ref r0), (2, .int x2), (3, .int x3), (4, .int x4)]) 4 rfl (congrArg (fun z => x5 + z) (show Int32.ofInt (1) = (1 : Int32) from by decide)) (by decide) rfl (dOk_at dt_X0_replyTo 46 rfl) ?_
    refine j_goto hC (tgt := 30) (by decide) (dOk_at dt_X0_replyTo 47 rfl) ?_
    refine j_sub [1, 2, 3, 4, 0] rfl ?_
    exact hrec30 h x2 x3 x4 (x5 + (1 : Int32)) 
  have b30 : ∀ (fu : Nat) (h : Hp) (x2 : Int32) (x3 : Int32) (x4 : Int32) (x5 : Int32) , jJ p l e (rmD (d + 1)) s m args below meth c 6 sb D ids shp St (fun r => MQ below (jQi sb D ids shp St n r) args s 0 0 (jA sb)) n 0 0 h 30 [(0, .ref r0), (2, .int x2), (3, .int x3), (4, .int x4), (5, .int x5)] [] (fX0_replyTo_30 fu slf r0 n0 h x2 x3 x4 x5) := by
    intro fu 
    induction fu with
    | zero => intro h x2 x3 x4 x5 ; exact j_none
    | succ fu ih =>
    intro h x2 x3 x4 x5 
    rw [fX0_replyTo_30]
    refine j_iload hC 4 rfl (dOk_at dt_X0_replyTo 21 rfl) ?_
    refine j_bipush hC (v := (8 : Int32)) rfl (dOk_at dt_X0_replyTo 22 rfl) ?_
    refine j_icmp_ge hC (tgt := 76) (by decide) (dOk_at dt_X0_replyTo 23 rfl) (fun q_4 => ?_) (fun q_4 => ?_)
    · refine j_iconst hC (v := (-1 : Int32)) rfl (dOk_at dt_X0_replyTo 48 rfl) ?_
      exact j_iret hC hret (dOk_at dt_X0_replyTo 49 rfl)
    · refine j_iload hC 3 rfl (dOk_at dt_X0_replyTo 24 rfl) ?_
      refine j_iload hC 4 rfl (dOk_at dt_X0_replyTo 25 rfl) ?_
      refine j_ishr hC (dOk_at dt_X0_replyTo 26 rfl) ?_
      refine j_iconst hC (v := (1 : Int32)) rfl (dOk_at dt_X0_replyTo 27 rfl) ?_
      refine j_iand hC (dOk_at dt_X0_replyTo 28 rfl) ?_
      refine j_iconst hC (v := (1 : Int32)) rfl (dOk_at dt_X0_replyTo 29 rfl) ?_
      refine j_icmp_ne hC (tgt := 70) (by decide) (dOk_at dt_X0_replyTo 30 rfl) (fun q_5 => ?_) (fun q_5 => ?_)
      · exact b70 (fX0_replyTo_30 fu slf r0 n0) ih h x2 x3 x4 x5 
      · refine j_aload_n hC 0 rfl rfl (dOk_at dt_X0_replyTo 31 rfl) ?_
        refine j_iload hC 4 rfl (dOk_at dt_X0_replyTo 32 rfl) ?_
        refine j_iload_n hC 1 rfl rfl (dOk_at dt_X0_replyTo 33 rfl) ?_
        refine j_iconst hC (v := (1 : Int32)) rfl (dOk_at dt_X0_replyTo 34 rfl) ?_
        refine j_iload hC 4 rfl (dOk_at dt_X0_replyTo 35 rfl) ?_
        refine j_ishl hC (dOk_at dt_X0_replyTo 36 rfl) ?_
        refine j_ior hC (dOk_at dt_X0_replyTo 37 rfl) ?_
        refine j_iload_n hC 2 rfl rfl (dOk_at dt_X0_replyTo 38 rfl) ?_
        refine j_iconst hC (v := (1 : Int32)) rfl (dOk_at dt_X0_replyTo 39 rfl) ?_
        refine j_iadd hC (dOk_at dt_X0_replyTo 40 rfl) ?_
        refine j_callSi hC clX0_98 (fun rz hrz => hslf _ _ _ _ rz hrz) rfl (rm_ok (by omega) (by decide)) ⟨Nat.le_refl 0, Nat.le_refl 0⟩ (As := [.ref r0, .int x5, .int (x2 ||| ((1 : Int32) <<< (x5 &&& 31))), .int (x3 + (1 : Int32))]) (st := []) rfl (Nat.le_of_ble_eq_true rfl) (dOk_at dt_X0_replyTo 41 rfl) (fun v_6 h_7 _ => ?_)
        refine j_iconst hC (v := (-1 : Int32)) rfl (dOk_at dt_X0_replyTo 42 rfl) ?_
        refine j_icmp_ne hC (tgt := 70) (by decide) (dOk_at dt_X0_replyTo 43 rfl) (fun q_8 => ?_) (fun q_8 => ?_)
        · exact b70 (fX0_replyTo_30 fu slf r0 n0) ih h_7 x2 x3 x4 x5 
        · refine j_iload hC 4 rfl (dOk_at dt_X0_replyTo 44 rfl) ?_
          exact j_iret hC hret (dOk_at dt_X0_replyTo 45 rfl)
  unfold fX0_replyTo_s
  refine j_iload_n hC 3 rfl rfl (dOk_at dt_X0_replyTo 0 rfl) ?_
  refine j_bipush hC (v := (8 : Int32)) rfl (dOk_at dt_X0_replyTo 1 rfl) ?_
  refine j_icmp_gt hC (tgt := 16) (by decide) (dOk_at dt_X0_replyTo 2 rfl) (fun q_1 => ?_) (fun q_1 => ?_)
  · refine j_iconst hC (v := (-1 : Int32)) rfl (dOk_at dt_X0_replyTo 9 rfl) ?_
    exact j_iret hC hret (dOk_at dt_X0_replyTo 10 rfl)
  · refine j_iload_n hC 1 rfl rfl (dOk_at dt_X0_replyTo 3 rfl) ?_
    refine j_if_lt hC (tgt := 16) (by decide) (dOk_at dt_X0_replyTo 4 rfl) (fun q_2 => ?_) (fun q_2 => ?_)
    · refine j_iconst hC (v := (-1 : Int32)) rfl (dOk_at dt_X0_replyTo 9 rfl) ?_
      exact j_iret hC hret (dOk_at dt_X0_replyTo 10 rfl)
    · refine j_iload_n hC 1 rfl rfl (dOk_at dt_X0_replyTo 5 rfl) ?_
      refine j_aload_n hC 0 rfl rfl (dOk_at dt_X0_replyTo 6 rfl) ?_
      refine j_alen hC (v := Int32.ofNat n0) h0 (jlt hN h0 (by decide)) (by decide) rfl (dOk_at dt_X0_replyTo 7 rfl) ?_
      refine j_icmp_lt hC (tgt := 18) (by decide) (dOk_at dt_X0_replyTo 8 rfl) (fun q_3 => ?_) (fun q_3 => ?_)
      · refine j_aload_n hC 0 rfl rfl (dOk_at dt_X0_replyTo 11 rfl) ?_
        refine j_iload_n hC 1 rfl rfl (dOk_at dt_X0_replyTo 12 rfl) ?_
        refine j_iald hC h0 (jlt hN h0 (by decide)) (dOk_at dt_X0_replyTo 13 rfl) ?_
        refine j_iload_n hC 2 rfl rfl (dOk_at dt_X0_replyTo 14 rfl) ?_
        refine j_iconst hC (v := (-1 : Int32)) rfl (dOk_at dt_X0_replyTo 15 rfl) ?_
        refine j_ixor hC (dOk_at dt_X0_replyTo 16 rfl) ?_
        refine j_iand hC (dOk_at dt_X0_replyTo 17 rfl) ?_
        refine j_istore hC (lv' := [(4, .int ((hI h r0 (Int32.toNatClampNeg x1)) &&& (x2 ^^^ (-1 : Int32)))), (0, .ref r0), (1, .int x1), (2, .int x2), (3, .int x3)]) (by decide) rfl (dOk_at dt_X0_replyTo 18 rfl) ?_
        refine j_iconst hC (v := (0 : Int32)) rfl (dOk_at dt_X0_replyTo 19 rfl) ?_
        refine j_istore hC (lv' := [(5, .int (0 : Int32)), (4, .int ((hI h r0 (Int32.toNatClampNeg x1)) &&& (x2 ^^^ (-1 : Int32)))), (0, .ref r0), (1, .int x1), (2, .int x2), (3, .int x3)]) (by decide) rfl (dOk_at dt_X0_replyTo 20 rfl) ?_
        refine j_sub [2, 4, 5, 1, 0] rfl ?_
        exact b30 FU h x2 x3 ((hI h r0 (Int32.toNatClampNeg x1)) &&& (x2 ^^^ (-1 : Int32))) (0 : Int32) 
      · refine j_iconst hC (v := (-1 : Int32)) rfl (dOk_at dt_X0_replyTo 9 rfl) ?_
        exact j_iret hC hret (dOk_at dt_X0_replyTo 10 rfl)
def fX0_replyTo_d : Nat → Nat → Nat → Hp → Int32 → Int32 → Int32 → Option (Int32 × Hp)
  | 0, _, _, _, _, _, _ => none
  | dp + 1, r0, n0, h, x1, x2, x3 => fX0_replyTo_s (fX0_replyTo_d dp r0 n0) r0 n0 h x1 x2 x3
theorem c_X0_replyTo_d {l : Launch} {sb : State} {D : va_G} {ids : Nat → ClassId} {n : Nat} (hN : 152 ≤ n) {r0 : Nat} {n0 : Nat} (h0 : shp r0 = (21, n0)) : ∀ (dp : Nat) (h : Hp) (x1 : Int32) (x2 : Int32) (x3 : Int32) (r : Int32 × Hp), fX0_replyTo_d dp r0 n0 h x1 x2 x3 = some r → jM l yX0_replyTo cX0_replyTo 6 (some .int) (1 * dp + 0) sb D ids shp St n [.ref r0, .int x1, .int x2, .int x3] h (jQi sb D ids shp St n r)
  | 0, h, x1, x2, x3, r, hr => by cases hr
  | dp + 1, h, x1, x2, x3, r, hr => by
    have ih := c_X0_replyTo_d (l := l) (sb := sb) (D := D) (ids := ids) hN h0 dp
    have k := c_X0_replyTo_s (l := l) (sb := sb) (D := D) (ids := ids) hN (d := 1 * dp + 0) (by omega) ih h0 h x1 x2 x3 r hr
    rw [show 1 * (dp + 1) + 0 = 1 * dp + 0 + 1 by omega]
    exact k
def fX0_replyTo (r0 : Nat) (n0 : Nat) (h : Hp) (x1 : Int32) (x2 : Int32) (x3 : Int32) : Option (Int32 × Hp) := fX0_replyTo_d 12 r0 n0 h x1 x2 x3
theorem c_X0_replyTo {l : Launch} {sb : State} {D : va_G} {ids : Nat → ClassId} {n : Nat} (hN : 152 ≤ n) {r0 : Nat} {n0 : Nat} (h0 : shp r0 = (21, n0)) (h : Hp) (x1 : Int32) (x2 : Int32) (x3 : Int32) (r : Int32 × Hp) (hr : fX0_replyTo r0 n0 h x1 x2 x3 = some r) : jM l yX0_replyTo cX0_replyTo 6 (some .int) 12 sb D ids shp St n [.ref r0, .int x1, .int x2, .int x3] h (jQi sb D ids shp St n r) := c_X0_replyTo_d hN h0 12 h x1 x2 x3 r hr
def tb_X0_winningReply : List (Nat × Instr × Nat) := [(0, .aload_n 0, 1), (1, .getfield 30, 3), (4, .iload_n 1, 1), (5, .iconst 1, 1), (6, .iload_n 1, 1), (7, .ishl, 1), (8, .iconst 0, 1), (9, .invokestatic 98, 3), (12, .ireturn, 1)]
theorem dt_X0_winningReply : dOk cX0_winningReply tb_X0_winningReply = true := by decide +kernel
def fX0_winningReply (tt : Nat) (h : Hp) (x1 : Int32) : Option (Int32 × Hp) := bnd (fX0_replyTo (rf tt 4) 8 h x1 ((1 : Int32) <<< (x1 &&& 31)) (0 : Int32)) (fun v_1 h_2 => some (v_1, h_2))
set_option maxRecDepth 100000 in
set_option maxHeartbeats 4000000 in
theorem c_X0_winningReply {l : Launch} {sb : State} {D : va_G} {ids : Nat → ClassId} {n : Nat} (hN : 152 ≤ n) {tt : Nat} (ht : shp tt = (0, 12)) (h : Hp) (x1 : Int32) (r : Int32 × Hp) (hr : fX0_winningReply tt h x1 = some r) : jM l yX0_winningReply cX0_winningReply 2 (some .int) 13 sb D ids shp St n [.ref tt, .int x1] h (jQi sb D ids shp St n r) := by
  refine jM_of hr rfl (Nat.le_of_ble_eq_true rfl) ?_
  intro p e s m args below meth c hC hret
  unfold fX0_winningReply
  refine j_aload_n hC 0 rfl rfl (dOk_at dt_X0_winningReply 0 rfl) ?_
  refine j_getR hC flX0_30 ht (jlt hN ht (by decide)) (by decide) (by decide) (fun _ _ _ => rfl) (fun hs => hs _ _ _ (sf_0_4 ht).1) (dOk_at dt_X0_winningReply 1 rfl) ?_
  refine j_iload_n hC 1 rfl rfl (dOk_at dt_X0_winningReply 2 rfl) ?_
  refine j_iconst hC (v := (1 : Int32)) rfl (dOk_at dt_X0_winningReply 3 rfl) ?_
  refine j_iload_n hC 1 rfl rfl (dOk_at dt_X0_winningReply 4 rfl) ?_
  refine j_ishl hC (dOk_at dt_X0_winningReply 5 rfl) ?_
  refine j_iconst hC (v := (0 : Int32)) rfl (dOk_at dt_X0_winningReply 6 rfl) ?_
  refine j_callSi hC clX0_98 (fun rz hrz => c_X0_replyTo hN ((sf_0_4 ht).2.1) _ _ _ _ rz hrz) rfl ⟨Nat.le_of_ble_eq_true rfl, Nat.le_of_ble_eq_true rfl⟩ ⟨Nat.le_refl 0, Nat.le_refl 0⟩ (As := [.ref (rf tt 4), .int x1, .int ((1 : Int32) <<< (x1 &&& 31)), .int (0 : Int32)]) (st := []) rfl (Nat.le_of_ble_eq_true rfl) (dOk_at dt_X0_winningReply 7 rfl) (fun v_1 h_2 _ => ?_)
  exact j_iret hC hret (dOk_at dt_X0_winningReply 8 rfl)
def tb_X0_weakerThan : List (Nat × Instr × Nat) := [(0, .bipush (-2), 2), (2, .istore_n 2, 1), (3, .aload_n 0, 1), (4, .iload_n 1, 1), (5, .invokevirtual 102, 3), (8, .istore_n 3, 1), (9, .iconst 0, 1), (10, .istore 4, 2), (12, .iload 4, 2), (14, .aload_n 0, 1), (15, .getfield 14, 3), (18, .getfield 55, 3), (21, .if_icmp .ge 72, 3), (24, .iload 4, 2), (26, .bipush 8, 2), (28, .if_icmp .ge 65, 3), (31, .iload 4, 2), (33, .iload_n 1, 1), (34, .if_icmp .eq 21, 3), (37, .iload_n 3, 1), (38, .aload_n 0, 1), (39, .getfield 27, 3), (42, .iload 4, 2), (44, .iaload, 1), (45, .iconst (-1), 1), (46, .ixor, 1), (47, .iand, 1), (48, .ifCond .ne 7, 3), (51, .iconst 1, 1), (52, .goto 4, 3), (55, .iconst 0, 1), (56, .istore 5, 2), (58, .iload 5, 2), (60, .ifCond .eq 27, 3), (63, .iload_n 2, 1), (64, .bipush (-2), 2), (66, .if_icmp .eq 18, 3), (69, .aload_n 0, 1), (70, .getfield 20, 3), (73, .iload 4, 2), (75, .iaload, 1), (76, .aload_n 0, 1), (77, .iload_n 2, 1), (78, .invokevirtual 105, 3), (81, .if_icmp .ge 6, 3), (84, .iload 4, 2), (86, .istore_n 2, 1), (87, .iinc 4 1, 3), (90, .goto (-78), 3), (93, .iload_n 2, 1), (94, .ireturn, 1)]
theorem dt_X0_weakerThan : dOk cX0_weakerThan tb_X0_weakerThan = true := by decide +kernel
def fX0_weakerThan_87 (tt : Nat) (rec12 : Hp → Int32 → Int32 → Int32 → Int32 → Option (Int32 × Hp)) (h : Hp) (x1 : Int32) (x2 : Int32) (x3 : Int32) (x4 : Int32) : Option (Int32 × Hp) := rec12 h x1 x2 x3 (x4 + (1 : Int32))
def fX0_weakerThan_84 (tt : Nat) (rec12 : Hp → Int32 → Int32 → Int32 → Int32 → Option (Int32 × Hp)) (h : Hp) (x1 : Int32) (x3 : Int32) (x4 : Int32) : Option (Int32 × Hp) := fX0_weakerThan_87 tt rec12 h x1 x4 x3 x4
def fX0_weakerThan_56 (tt : Nat) (rec12 : Hp → Int32 → Int32 → Int32 → Int32 → Option (Int32 × Hp)) (h : Hp) (x1 : Int32) (x2 : Int32) (x3 : Int32) (x4 : Int32) (s0 : Int32) : Option (Int32 × Hp) := if s0 = 0 then (fX0_weakerThan_87 tt rec12 h x1 x2 x3 x4) else (if x2 = (-2 : Int32) then (fX0_weakerThan_84 tt rec12 h x1 x3 x4) else (if inb x4 8 then (bnd (fX0_weightOf tt h x2) (fun v_9 h_10 => if v_9 ≤ (hI h (rf tt 1) (Int32.toNatClampNeg x4)) then (fX0_weakerThan_87 tt rec12 h_10 x1 x2 x3 x4) else (fX0_weakerThan_84 tt rec12 h_10 x1 x3 x4))) else none))
def fX0_weakerThan_55 (tt : Nat) (rec12 : Hp → Int32 → Int32 → Int32 → Int32 → Option (Int32 × Hp)) (h : Hp) (x1 : Int32) (x2 : Int32) (x3 : Int32) (x4 : Int32) : Option (Int32 × Hp) := fX0_weakerThan_56 tt rec12 h x1 x2 x3 x4 (0 : Int32)
def fX0_weakerThan_12 : Nat → (Nat) → Hp → Int32 → Int32 → Int32 → Int32 → Option (Int32 × Hp)
  | 0, _, _, _, _, _, _ => none
  | fu + 1, tt, h, x1, x2, x3, x4 => if (hI h (rf tt 0) 2) ≤ x4 then (some (x2, h)) else (if (8 : Int32) ≤ x4 then (some (x2, h)) else (if x4 = x1 then (fX0_weakerThan_55 tt (fX0_weakerThan_12 fu tt) h x1 x2 x3 x4) else (if inb x4 8 then (if (x3 &&& ((hI h (rf tt 3) (Int32.toNatClampNeg x4)) ^^^ (-1 : Int32))) = 0 then (fX0_weakerThan_56 tt (fX0_weakerThan_12 fu tt) h x1 x2 x3 x4 (1 : Int32)) else (fX0_weakerThan_55 tt (fX0_weakerThan_12 fu tt) h x1 x2 x3 x4)) else none)))
def fX0_weakerThan (tt : Nat) (h : Hp) (x1 : Int32) : Option (Int32 × Hp) := bnd (fX0_hitBy tt h x1) (fun v_1 h_2 => fX0_weakerThan_12 FU tt h_2 x1 (-2 : Int32) v_1 (0 : Int32))
set_option maxRecDepth 100000 in
set_option maxHeartbeats 4000000 in
theorem c_X0_weakerThan {l : Launch} {sb : State} {D : va_G} {ids : Nat → ClassId} {n : Nat} (hN : 152 ≤ n) {tt : Nat} (ht : shp tt = (0, 12)) (h : Hp) (x1 : Int32) (r : Int32 × Hp) (hr : fX0_weakerThan tt h x1 = some r) : jM l yX0_weakerThan cX0_weakerThan 6 (some .int) 1 sb D ids shp St n [.ref tt, .int x1] h (jQi sb D ids shp St n r) := by
  refine jM_of hr rfl (Nat.le_of_ble_eq_true rfl) ?_
  intro p e s m args below meth c hC hret
  have b87 : ∀ (rec12 : Hp → Int32 → Int32 → Int32 → Int32 → Option (Int32 × Hp)) (hrec12 : ∀ (h : Hp) (x1 : Int32) (x2 : Int32) (x3 : Int32) (x4 : Int32) , jJ p l e (rmD 1) s m args below meth c 6 sb D ids shp St (fun r => MQ below (jQi sb D ids shp St n r) args s 0 0 (jA sb)) n 0 0 h 12 [(0, .ref tt), (1, .int x1), (2, .int x2), (3, .int x3), (4, .int x4)] [] (rec12 h x1 x2 x3 x4)) (h : Hp) (x1 : Int32) (x2 : Int32) (x3 : Int32) (x4 : Int32) , jJ p l e (rmD 1) s m args below meth c 6 sb D ids shp St (fun r => MQ below (jQi sb D ids shp St n r) args s 0 0 (jA sb)) n 0 0 h 87 [(0, .ref tt), (1, .int x1), (2, .int x2), (3, .int x3), (4, .int x4)] [] (fX0_weakerThan_87 tt rec12 h x1 x2 x3 x4) := by
    intro rec12 hrec12 h x1 x2 x3 x4 
    unfold fX0_weakerThan_87
    refine j_iinc hC (v := (x4 + (1 : Int32))) (lv' := [(4, .int (x4 + (1 : Int32))), (0, .ref tt), (1, .int x1), (2, .int x2), (3, .int x3)]) 4 rfl (congrArg (fun z => x4 + z) (show Int32.ofInt (1) = (1 : Int32) from by decide)) (by decide) rfl (dOk_at dt_X0_weakerThan 47 rfl) ?_
    refine j_goto hC (tgt := 12) (by decide) (dOk_at dt_X0_weakerThan 48 rfl) ?_
    refine j_sub [1, 2, 3, 4, 0] rfl ?_
    exact hrec12 h x1 x2 x3 (x4 + (1 : Int32)) 
  have b84 : ∀ (rec12 : Hp → Int32 → Int32 → Int32 → Int32 → Option (Int32 × Hp)) (hrec12 : ∀ (h : Hp) (x1 : Int32) (x2 : Int32) (x3 : Int32) (x4 : Int32) , jJ p l e (rmD 1) s m args below meth c 6 sb D ids shp St (fun r => MQ below (jQi sb D ids shp St n r) args s 0 0 (jA sb)) n 0 0 h 12 [(0, .ref tt), (1, .int x1), (2, .int x2), (3, .int x3), (4, .int x4)] [] (rec12 h x1 x2 x3 x4)) (h : Hp) (x1 : Int32) (x3 : Int32) (x4 : Int32) , jJ p l e (rmD 1) s m args below meth c 6 sb D ids shp St (fun r => MQ below (jQi sb D ids shp St n r) args s 0 0 (jA sb)) n 0 0 h 84 [(0, .ref tt), (1, .int x1), (3, .int x3), (4, .int x4)] [] (fX0_weakerThan_84 tt rec12 h x1 x3 x4) := by
    intro rec12 hrec12 h x1 x3 x4 
    unfold fX0_weakerThan_84
    refine j_iload hC 3 rfl (dOk_at dt_X0_weakerThan 45 rfl) ?_
    refine j_istore_n hC rfl (lv' := [(2, .int x4), (0, .ref tt), (1, .int x1), (3, .int x3), (4, .int x4)]) (by decide) rfl (dOk_at dt_X0_weakerThan 46 rfl) ?_
    refine j_sub [1, 2, 0, 3, 4] rfl ?_
    exact b87 rec12 hrec12 h x1 x4 x3 x4 
  have b56 : ∀ (rec12 : Hp → Int32 → Int32 → Int32 → Int32 → Option (Int32 × Hp)) (hrec12 : ∀ (h : Hp) (x1 : Int32) (x2 : Int32) (x3 : Int32) (x4 : Int32) , jJ p l e (rmD 1) s m args below meth c 6 sb D ids shp St (fun r => MQ below (jQi sb D ids shp St n r) args s 0 0 (jA sb)) n 0 0 h 12 [(0, .ref tt), (1, .int x1), (2, .int x2), (3, .int x3), (4, .int x4)] [] (rec12 h x1 x2 x3 x4)) (h : Hp) (x1 : Int32) (x2 : Int32) (x3 : Int32) (x4 : Int32) (s0 : Int32) , jJ p l e (rmD 1) s m args below meth c 6 sb D ids shp St (fun r => MQ below (jQi sb D ids shp St n r) args s 0 0 (jA sb)) n 0 0 h 56 [(0, .ref tt), (1, .int x1), (2, .int x2), (3, .int x3), (4, .int x4)] [.int s0] (fX0_weakerThan_56 tt rec12 h x1 x2 x3 x4 s0) := by
    intro rec12 hrec12 h x1 x2 x3 x4 s0 
    unfold fX0_weakerThan_56
    refine j_istore hC (lv' := [(5, .int s0), (0, .ref tt), (1, .int x1), (2, .int x2), (3, .int x3), (4, .int x4)]) (by decide) rfl (dOk_at dt_X0_weakerThan 31 rfl) ?_
    refine j_iload hC 0 rfl (dOk_at dt_X0_weakerThan 32 rfl) ?_
    refine j_if_eq hC (tgt := 87) (by decide) (dOk_at dt_X0_weakerThan 33 rfl) (fun q_7 => ?_) (fun q_7 => ?_)
    · refine j_sub [1, 2, 3, 4, 5] rfl ?_
      exact b87 rec12 hrec12 h x1 x2 x3 x4 
    · refine j_iload_n hC 3 rfl rfl (dOk_at dt_X0_weakerThan 34 rfl) ?_
      refine j_bipush hC (v := (-2 : Int32)) rfl (dOk_at dt_X0_weakerThan 35 rfl) ?_
      refine j_icmp_eq hC (tgt := 84) (by decide) (dOk_at dt_X0_weakerThan 36 rfl) (fun q_8 => ?_) (fun q_8 => ?_)
      · refine j_sub [1, 2, 4, 5] rfl ?_
        exact b84 rec12 hrec12 h x1 x3 x4 
      · refine j_aload_n hC 1 rfl rfl (dOk_at dt_X0_weakerThan 37 rfl) ?_
        refine j_getR hC flX0_20 ht (jlt hN ht (by decide)) (by decide) (by decide) (fun _ _ _ => rfl) (fun hs => hs _ _ _ (sf_0_1 ht).1) (dOk_at dt_X0_weakerThan 38 rfl) ?_
        refine j_iload hC 5 rfl (dOk_at dt_X0_weakerThan 39 rfl) ?_
        refine j_iald hC (sf_0_1 ht).2.1 (Nat.lt_of_lt_of_le (sf_0_1 ht).2.2 hN) (dOk_at dt_X0_weakerThan 40 rfl) ?_
        refine j_aload_n hC 1 rfl rfl (dOk_at dt_X0_weakerThan 41 rfl) ?_
        refine j_iload_n hC 3 rfl rfl (dOk_at dt_X0_weakerThan 42 rfl) ?_
        refine j_callVi hC clX0_105 (fun rz hrz => c_X0_weightOf hN (ht) _ _ rz hrz) ht (jlt hN ht (by decide)) (by decide) rfl rfl ⟨Nat.le_of_ble_eq_true rfl, Nat.le_of_ble_eq_true rfl⟩ ⟨Nat.le_refl 0, Nat.le_refl 0⟩ (As := [.int x2]) (st := [.int (hI h (rf tt 1) (Int32.toNatClampNeg x4))]) rfl (Nat.le_of_ble_eq_true rfl) (dOk_at dt_X0_weakerThan 43 rfl) (fun v_9 h_10 _ => ?_)
        refine j_icmp_ge hC (tgt := 87) (by decide) (dOk_at dt_X0_weakerThan 44 rfl) (fun q_11 => ?_) (fun q_11 => ?_)
        · refine j_sub [1, 2, 3, 4, 5] rfl ?_
          exact b87 rec12 hrec12 h_10 x1 x2 x3 x4 
        · refine j_sub [1, 2, 4, 5] rfl ?_
          exact b84 rec12 hrec12 h_10 x1 x3 x4 
  have b55 : ∀ (rec12 : Hp → Int32 → Int32 → Int32 → Int32 → Option (Int32 × Hp)) (hrec12 : ∀ (h : Hp) (x1 : Int32) (x2 : Int32) (x3 : Int32) (x4 : Int32) , jJ p l e (rmD 1) s m args below meth c 6 sb D ids shp St (fun r => MQ below (jQi sb D ids shp St n r) args s 0 0 (jA sb)) n 0 0 h 12 [(0, .ref tt), (1, .int x1), (2, .int x2), (3, .int x3), (4, .int x4)] [] (rec12 h x1 x2 x3 x4)) (h : Hp) (x1 : Int32) (x2 : Int32) (x3 : Int32) (x4 : Int32) , jJ p l e (rmD 1) s m args below meth c 6 sb D ids shp St (fun r => MQ below (jQi sb D ids shp St n r) args s 0 0 (jA sb)) n 0 0 h 55 [(0, .ref tt), (1, .int x1), (2, .int x2), (3, .int x3), (4, .int x4)] [] (fX0_weakerThan_55 tt rec12 h x1 x2 x3 x4) := by
    intro rec12 hrec12 h x1 x2 x3 x4 
    unfold fX0_weakerThan_55
    refine j_iconst hC (v := (0 : Int32)) rfl (dOk_at dt_X0_weakerThan 30 rfl) ?_
    exact b56 rec12 hrec12 h x1 x2 x3 x4 (0 : Int32) 
  have b12 : ∀ (fu : Nat) (h : Hp) (x1 : Int32) (x2 : Int32) (x3 : Int32) (x4 : Int32) , jJ p l e (rmD 1) s m args below meth c 6 sb D ids shp St (fun r => MQ below (jQi sb D ids shp St n r) args s 0 0 (jA sb)) n 0 0 h 12 [(0, .ref tt), (1, .int x1), (2, .int x2), (3, .int x3), (4, .int x4)] [] (fX0_weakerThan_12 fu tt h x1 x2 x3 x4) := by
    intro fu 
    induction fu with
    | zero => intro h x1 x2 x3 x4 ; exact j_none
    | succ fu ih =>
    intro h x1 x2 x3 x4 
    rw [fX0_weakerThan_12]
    refine j_iload hC 4 rfl (dOk_at dt_X0_weakerThan 8 rfl) ?_
    refine j_aload_n hC 0 rfl rfl (dOk_at dt_X0_weakerThan 9 rfl) ?_
    refine j_getR hC flX0_14 ht (jlt hN ht (by decide)) (by decide) (by decide) (fun _ _ _ => rfl) (fun hs => hs _ _ _ (sf_0_0 ht).1) (dOk_at dt_X0_weakerThan 10 rfl) ?_
    refine j_getI hC flX0_55 (sf_0_0 ht).2.1 (Nat.lt_of_lt_of_le (sf_0_0 ht).2.2 hN) (by decide) (by decide) (fun _ _ _ => rfl) (dOk_at dt_X0_weakerThan 11 rfl) ?_
    refine j_icmp_ge hC (tgt := 93) (by decide) (dOk_at dt_X0_weakerThan 12 rfl) (fun q_3 => ?_) (fun q_3 => ?_)
    · refine j_iload_n hC 2 rfl rfl (dOk_at dt_X0_weakerThan 49 rfl) ?_
      exact j_iret hC hret (dOk_at dt_X0_weakerThan 50 rfl)
    · refine j_iload hC 4 rfl (dOk_at dt_X0_weakerThan 13 rfl) ?_
      refine j_bipush hC (v := (8 : Int32)) rfl (dOk_at dt_X0_weakerThan 14 rfl) ?_
      refine j_icmp_ge hC (tgt := 93) (by decide) (dOk_at dt_X0_weakerThan 15 rfl) (fun q_4 => ?_) (fun q_4 => ?_)
      · refine j_iload_n hC 2 rfl rfl (dOk_at dt_X0_weakerThan 49 rfl) ?_
        exact j_iret hC hret (dOk_at dt_X0_weakerThan 50 rfl)
      · refine j_iload hC 4 rfl (dOk_at dt_X0_weakerThan 16 rfl) ?_
        refine j_iload_n hC 1 rfl rfl (dOk_at dt_X0_weakerThan 17 rfl) ?_
        refine j_icmp_eq hC (tgt := 55) (by decide) (dOk_at dt_X0_weakerThan 18 rfl) (fun q_5 => ?_) (fun q_5 => ?_)
        · exact b55 (fX0_weakerThan_12 fu tt) ih h x1 x2 x3 x4 
        · refine j_iload_n hC 3 rfl rfl (dOk_at dt_X0_weakerThan 19 rfl) ?_
          refine j_aload_n hC 0 rfl rfl (dOk_at dt_X0_weakerThan 20 rfl) ?_
          refine j_getR hC flX0_27 ht (jlt hN ht (by decide)) (by decide) (by decide) (fun _ _ _ => rfl) (fun hs => hs _ _ _ (sf_0_3 ht).1) (dOk_at dt_X0_weakerThan 21 rfl) ?_
          refine j_iload hC 4 rfl (dOk_at dt_X0_weakerThan 22 rfl) ?_
          refine j_iald hC (sf_0_3 ht).2.1 (Nat.lt_of_lt_of_le (sf_0_3 ht).2.2 hN) (dOk_at dt_X0_weakerThan 23 rfl) ?_
          refine j_iconst hC (v := (-1 : Int32)) rfl (dOk_at dt_X0_weakerThan 24 rfl) ?_
          refine j_ixor hC (dOk_at dt_X0_weakerThan 25 rfl) ?_
          refine j_iand hC (dOk_at dt_X0_weakerThan 26 rfl) ?_
          refine j_if_ne hC (tgt := 55) (by decide) (dOk_at dt_X0_weakerThan 27 rfl) (fun q_6 => ?_) (fun q_6 => ?_)
          · exact b55 (fX0_weakerThan_12 fu tt) ih h x1 x2 x3 x4 
          · refine j_iconst hC (v := (1 : Int32)) rfl (dOk_at dt_X0_weakerThan 28 rfl) ?_
            refine j_goto hC (tgt := 56) (by decide) (dOk_at dt_X0_weakerThan 29 rfl) ?_
            exact b56 (fX0_weakerThan_12 fu tt) ih h x1 x2 x3 x4 (1 : Int32) 
  unfold fX0_weakerThan
  refine j_bipush hC (v := (-2 : Int32)) rfl (dOk_at dt_X0_weakerThan 0 rfl) ?_
  refine j_istore_n hC rfl (lv' := [(2, .int (-2 : Int32)), (0, .ref tt), (1, .int x1)]) (by decide) rfl (dOk_at dt_X0_weakerThan 1 rfl) ?_
  refine j_aload_n hC 1 rfl rfl (dOk_at dt_X0_weakerThan 2 rfl) ?_
  refine j_iload_n hC 2 rfl rfl (dOk_at dt_X0_weakerThan 3 rfl) ?_
  refine j_callVi hC clX0_102 (fun rz hrz => c_X0_hitBy hN (ht) _ _ rz hrz) ht (jlt hN ht (by decide)) (by decide) rfl rfl ⟨Nat.le_of_ble_eq_true rfl, Nat.le_of_ble_eq_true rfl⟩ ⟨Nat.le_refl 0, Nat.le_refl 0⟩ (As := [.int x1]) (st := []) rfl (Nat.le_of_ble_eq_true rfl) (dOk_at dt_X0_weakerThan 4 rfl) (fun v_1 h_2 _ => ?_)
  refine j_istore_n hC rfl (lv' := [(3, .int v_1), (2, .int (-2 : Int32)), (0, .ref tt), (1, .int x1)]) (by decide) rfl (dOk_at dt_X0_weakerThan 5 rfl) ?_
  refine j_iconst hC (v := (0 : Int32)) rfl (dOk_at dt_X0_weakerThan 6 rfl) ?_
  refine j_istore hC (lv' := [(4, .int (0 : Int32)), (3, .int v_1), (2, .int (-2 : Int32)), (0, .ref tt), (1, .int x1)]) (by decide) rfl (dOk_at dt_X0_weakerThan 7 rfl) ?_
  refine j_sub [3, 4, 2, 1, 0] rfl ?_
  exact b12 FU h_2 x1 (-2 : Int32) v_1 (0 : Int32) 
def tb_X0_isGround : List (Nat × Instr × Nat) := [(0, .aload_n 0, 1), (1, .iload_n 2, 1), (2, .iload_n 3, 1), (3, .invokevirtual 118, 3), (6, .iload_n 1, 1), (7, .ishr, 1), (8, .iconst 1, 1), (9, .iand, 1), (10, .iconst 1, 1), (11, .if_icmp .ne 7, 3), (14, .iconst 1, 1), (15, .goto 4, 3), (18, .iconst 0, 1), (19, .ireturn, 1)]
theorem dt_X0_isGround : dOk cX0_isGround tb_X0_isGround = true := by decide +kernel
def fX0_isGround (tt : Nat) (h : Hp) (x1 : Int32) (x2 : Int32) (x3 : Int32) : Option (Int32 × Hp) := bnd (fX0_groundWithout tt h x2 x3) (fun v_1 h_2 => if ((v_1 >>> (x1 &&& 31)) &&& (1 : Int32)) = (1 : Int32) then (some ((1 : Int32), h_2)) else (some ((0 : Int32), h_2)))
set_option maxRecDepth 100000 in
set_option maxHeartbeats 4000000 in
theorem c_X0_isGround {l : Launch} {sb : State} {D : va_G} {ids : Nat → ClassId} {n : Nat} (hN : 152 ≤ n) {tt : Nat} (ht : shp tt = (0, 12)) (h : Hp) (x1 : Int32) (x2 : Int32) (x3 : Int32) (r : Int32 × Hp) (hr : fX0_isGround tt h x1 x2 x3 = some r) : jM l yX0_isGround cX0_isGround 4 (some .boolean) 3 sb D ids shp St n [.ref tt, .int x1, .int x2, .int x3] h (jQi sb D ids shp St n r) := by
  refine jM_of hr rfl (Nat.le_of_ble_eq_true rfl) ?_
  intro p e s m args below meth c hC hret
  unfold fX0_isGround
  refine j_aload_n hC 0 rfl rfl (dOk_at dt_X0_isGround 0 rfl) ?_
  refine j_iload_n hC 2 rfl rfl (dOk_at dt_X0_isGround 1 rfl) ?_
  refine j_iload_n hC 3 rfl rfl (dOk_at dt_X0_isGround 2 rfl) ?_
  refine j_callVi hC clX0_118 (fun rz hrz => c_X0_groundWithout hN (ht) _ _ _ rz hrz) ht (jlt hN ht (by decide)) (by decide) rfl rfl ⟨Nat.le_of_ble_eq_true rfl, Nat.le_of_ble_eq_true rfl⟩ ⟨Nat.le_refl 0, Nat.le_refl 0⟩ (As := [.int x2, .int x3]) (st := []) rfl (Nat.le_of_ble_eq_true rfl) (dOk_at dt_X0_isGround 3 rfl) (fun v_1 h_2 _ => ?_)
  refine j_iload_n hC 1 rfl rfl (dOk_at dt_X0_isGround 4 rfl) ?_
  refine j_ishr hC (dOk_at dt_X0_isGround 5 rfl) ?_
  refine j_iconst hC (v := (1 : Int32)) rfl (dOk_at dt_X0_isGround 6 rfl) ?_
  refine j_iand hC (dOk_at dt_X0_isGround 7 rfl) ?_
  refine j_iconst hC (v := (1 : Int32)) rfl (dOk_at dt_X0_isGround 8 rfl) ?_
  refine j_icmp_ne hC (tgt := 18) (by decide) (dOk_at dt_X0_isGround 9 rfl) (fun q_3 => ?_) (fun q_3 => ?_)
  · refine j_iconst hC (v := (0 : Int32)) rfl (dOk_at dt_X0_isGround 12 rfl) ?_
    exact j_zretK hC hret rfl (dOk_at dt_X0_isGround 13 rfl)
  · refine j_iconst hC (v := (1 : Int32)) rfl (dOk_at dt_X0_isGround 10 rfl) ?_
    refine j_goto hC (tgt := 19) (by decide) (dOk_at dt_X0_isGround 11 rfl) ?_
    exact j_zretK hC hret rfl (dOk_at dt_X0_isGround 13 rfl)
def tb_X0_dropsOne : List (Nat × Instr × Nat) := [(0, .iconst 0, 1), (1, .istore_n 2, 1), (2, .iload_n 2, 1), (3, .aload_n 0, 1), (4, .getfield 33, 3), (7, .if_icmp .ge 26, 3), (10, .aload_n 0, 1), (11, .iload_n 1, 1), (12, .iload_n 2, 1), (13, .iconst (-1), 1), (14, .invokevirtual 108, 3), (17, .ifCond .eq 10, 3), (20, .aload_n 0, 1), (21, .iload_n 2, 1), (22, .putfield 49, 3), (25, .iconst 1, 1), (26, .ireturn, 1), (27, .iinc 2 1, 3), (30, .goto (-28), 3), (33, .iconst 0, 1), (34, .ireturn, 1)]
theorem dt_X0_dropsOne : dOk cX0_dropsOne tb_X0_dropsOne = true := by decide +kernel
def fX0_dropsOne_2 : Nat → (Nat) → Hp → Int32 → Int32 → Option (Int32 × Hp)
  | 0, _, _, _, _ => none
  | fu + 1, tt, h, x1, x2 => if (hI h tt 5) ≤ x2 then (some ((0 : Int32), h)) else (bnd (fX0_isGround tt h x1 x2 (-1 : Int32)) (fun v_2 h_3 => if v_2 = 0 then ((fX0_dropsOne_2 fu tt) h_3 x1 (x2 + (1 : Int32))) else (some ((1 : Int32), (uI h_3 tt 10 x2)))))
def fX0_dropsOne (tt : Nat) (h : Hp) (x1 : Int32) : Option (Int32 × Hp) := fX0_dropsOne_2 FU tt h x1 (0 : Int32)
set_option maxRecDepth 100000 in
set_option maxHeartbeats 4000000 in
theorem c_X0_dropsOne {l : Launch} {sb : State} {D : va_G} {ids : Nat → ClassId} {n : Nat} (hN : 152 ≤ n) {tt : Nat} (ht : shp tt = (0, 12)) (h : Hp) (x1 : Int32) (r : Int32 × Hp) (hr : fX0_dropsOne tt h x1 = some r) : jM l yX0_dropsOne cX0_dropsOne 3 (some .boolean) 4 sb D ids shp St n [.ref tt, .int x1] h (jQi sb D ids shp St n r) := by
  refine jM_of hr rfl (Nat.le_of_ble_eq_true rfl) ?_
  intro p e s m args below meth c hC hret
  have b2 : ∀ (fu : Nat) (h : Hp) (x1 : Int32) (x2 : Int32) , jJ p l e (rmD 4) s m args below meth c 3 sb D ids shp St (fun r => MQ below (jQi sb D ids shp St n r) args s 0 0 (jA sb)) n 0 0 h 2 [(0, .ref tt), (1, .int x1), (2, .int x2)] [] (fX0_dropsOne_2 fu tt h x1 x2) := by
    intro fu 
    induction fu with
    | zero => intro h x1 x2 ; exact j_none
    | succ fu ih =>
    intro h x1 x2 
    rw [fX0_dropsOne_2]
    refine j_iload_n hC 2 rfl rfl (dOk_at dt_X0_dropsOne 2 rfl) ?_
    refine j_aload_n hC 0 rfl rfl (dOk_at dt_X0_dropsOne 3 rfl) ?_
    refine j_getI hC flX0_33 ht (jlt hN ht (by decide)) (by decide) (by decide) (fun _ _ _ => rfl) (dOk_at dt_X0_dropsOne 4 rfl) ?_
    refine j_icmp_ge hC (tgt := 33) (by decide) (dOk_at dt_X0_dropsOne 5 rfl) (fun q_1 => ?_) (fun q_1 => ?_)
    · refine j_iconst hC (v := (0 : Int32)) rfl (dOk_at dt_X0_dropsOne 19 rfl) ?_
      exact j_zretK hC hret rfl (dOk_at dt_X0_dropsOne 20 rfl)
    · refine j_aload_n hC 0 rfl rfl (dOk_at dt_X0_dropsOne 6 rfl) ?_
      refine j_iload_n hC 1 rfl rfl (dOk_at dt_X0_dropsOne 7 rfl) ?_
      refine j_iload_n hC 2 rfl rfl (dOk_at dt_X0_dropsOne 8 rfl) ?_
      refine j_iconst hC (v := (-1 : Int32)) rfl (dOk_at dt_X0_dropsOne 9 rfl) ?_
      refine j_callVi hC clX0_108 (fun rz hrz => c_X0_isGround hN (ht) _ _ _ _ rz hrz) ht (jlt hN ht (by decide)) (by decide) rfl rfl ⟨Nat.le_of_ble_eq_true rfl, Nat.le_of_ble_eq_true rfl⟩ ⟨Nat.le_refl 0, Nat.le_refl 0⟩ (As := [.int x1, .int x2, .int (-1 : Int32)]) (st := []) rfl (Nat.le_of_ble_eq_true rfl) (dOk_at dt_X0_dropsOne 10 rfl) (fun v_2 h_3 _ => ?_)
      refine j_if_eq hC (tgt := 27) (by decide) (dOk_at dt_X0_dropsOne 11 rfl) (fun q_4 => ?_) (fun q_4 => ?_)
      · refine j_iinc hC (v := (x2 + (1 : Int32))) (lv' := [(2, .int (x2 + (1 : Int32))), (0, .ref tt), (1, .int x1)]) 2 rfl (congrArg (fun z => x2 + z) (show Int32.ofInt (1) = (1 : Int32) from by decide)) (by decide) rfl (dOk_at dt_X0_dropsOne 17 rfl) ?_
        refine j_goto hC (tgt := 2) (by decide) (dOk_at dt_X0_dropsOne 18 rfl) ?_
        refine j_sub [1, 2, 0] rfl ?_
        exact ih h_3 x1 (x2 + (1 : Int32)) 
      · refine j_aload_n hC 0 rfl rfl (dOk_at dt_X0_dropsOne 12 rfl) ?_
        refine j_iload_n hC 2 rfl rfl (dOk_at dt_X0_dropsOne 13 rfl) ?_
        refine j_putI hC St_SP flX0_49 ht (jlt hN ht (by decide)) (by decide) (by decide) rfl rfl (dOk_at dt_X0_dropsOne 14 rfl) ?_
        refine j_iconst hC (v := (1 : Int32)) rfl (dOk_at dt_X0_dropsOne 15 rfl) ?_
        exact j_zretK hC hret rfl (dOk_at dt_X0_dropsOne 16 rfl)
  unfold fX0_dropsOne
  refine j_iconst hC (v := (0 : Int32)) rfl (dOk_at dt_X0_dropsOne 0 rfl) ?_
  refine j_istore_n hC rfl (lv' := [(2, .int (0 : Int32)), (0, .ref tt), (1, .int x1)]) (by decide) rfl (dOk_at dt_X0_dropsOne 1 rfl) ?_
  refine j_sub [1, 2, 0] rfl ?_
  exact b2 FU h x1 (0 : Int32) 
