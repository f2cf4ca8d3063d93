def tb_X8_stuffTold : List (Nat × Instr × Nat) := [(0, .iconst 0, 1), (1, .istore_n 1, 1), (2, .iload_n 1, 1), (3, .aload_n 0, 1), (4, .getfield 9, 3), (7, .getfield 208, 3), (10, .if_icmp .ge 71, 3), (13, .iload_n 1, 1), (14, .bipush 6, 2), (16, .if_icmp .ge 65, 3), (19, .aload_n 0, 1), (20, .getfield 9, 3), (23, .getfield 211, 3), (26, .iload_n 1, 1), (27, .iaload, 1), (28, .istore_n 2, 1), (29, .aload_n 0, 1), (30, .getfield 9, 3), (33, .getfield 214, 3), (36, .iload_n 1, 1), (37, .iaload, 1), (38, .aload_n 0, 1), (39, .getfield 40, 3), (42, .if_icmp .ne 33, 3), (45, .aload_n 0, 1), (46, .iload_n 2, 1), (47, .invokevirtual 161, 3), (50, .ifCond .eq 25, 3), (53, .aload_n 0, 1), (54, .getfield 15, 3), (57, .iload_n 2, 1), (58, .bipush 99, 2), (60, .iastore, 1), (61, .aload_n 0, 1), (62, .dup, 1), (63, .getfield 43, 3), (66, .iconst 1, 1), (67, .iload_n 2, 1), (68, .ishl, 1), (69, .iconst (-1), 1), (70, .ixor, 1), (71, .iand, 1), (72, .putfield 43, 3), (75, .iinc 1 1, 3), (78, .goto (-76), 3), (81, .return_, 1)]
theorem dt_X8_stuffTold : dOk cX8_stuffTold tb_X8_stuffTold = true := by decide +kernel
def fX8_stuffTold_75 (tt : Nat) (rec2 : Hp → Int32 → Option (Hp)) (h : Hp) (x1 : Int32) : Option (Hp) := rec2 h (x1 + (1 : Int32))
def fX8_stuffTold_2 : Nat → Nat → Hp → Int32 → Option (Hp)
  | 0, _, _, _ => none
  | fu + 1, tt, h, x1 => (dref shp h tt 0 (7, 20)).bind (fun z_1 => if (hI h z_1 10) ≤ x1 then (some h) else (if (6 : Int32) ≤ x1 then (some h) else ((dref shp h tt 0 (7, 20)).bind (fun z_5 => if inb x1 6 then ((dref shp h tt 0 (7, 20)).bind (fun z_7 => if inb x1 6 then (if (hI h (rf z_7 12) (Int32.toNatClampNeg x1)) = (hI h tt 1) then (bnd (fX8_isStraw tt h (hI h (rf z_5 11) (Int32.toNatClampNeg x1))) (fun v_10 h_11 => if v_10 = 0 then (fX8_stuffTold_75 tt (fX8_stuffTold_2 fu tt) h_11 x1) else (if inb (hI h (rf z_5 11) (Int32.toNatClampNeg x1)) 5 then (fX8_stuffTold_75 tt (fX8_stuffTold_2 fu tt) (uI (uI h_11 (rf tt 5) (Int32.toNatClampNeg (hI h (rf z_5 11) (Int32.toNatClampNeg x1))) (99 : Int32)) tt 2 ((hI (uI h_11 (rf tt 5) (Int32.toNatClampNeg (hI h (rf z_5 11) (Int32.toNatClampNeg x1))) (99 : Int32)) tt 2) &&& (((1 : Int32) <<< ((hI h (rf z_5 11) (Int32.toNatClampNeg x1)) &&& 31)) ^^^ (-1 : Int32)))) x1) else none))) else (fX8_stuffTold_75 tt (fX8_stuffTold_2 fu tt) h x1)) else none)) else none))))
def fX8_stuffTold (tt : Nat) (h : Hp) : Option (Hp) := fX8_stuffTold_2 FU tt h (0 : Int32)
set_option maxRecDepth 100000 in
set_option maxHeartbeats 4000000 in
theorem c_X8_stuffTold {l : Launch} {sb : State} {D : va_G} {ids : Nat → ClassId} {n : Nat} (hN : 152 ≤ n) {tt : Nat} (ht : shp tt = (8, 15)) (h : Hp) (r : Hp) (hr : fX8_stuffTold tt h = some r) : jM l yX8_stuffTold cX8_stuffTold 3 none 1 sb D ids shp St n [.ref tt] h (jQv sb D ids shp St n r) := by
  refine jM_of hr rfl (Nat.le_of_ble_eq_true rfl) ?_
  intro p e s m args below meth c hC hret
  have b75 : ∀ (rec2 : Hp → Int32 → Option (Hp)) (hrec2 : ∀ (h : Hp) (x1 : Int32) , jJ p l e (rmD 1) s m args below meth c 3 sb D ids shp St (fun r => MQ below (jQv sb D ids shp St n r) args s 0 0 (jA sb)) n 0 0 h 2 [(0, .ref tt), (1, .int x1)] [] (rec2 h x1)) (h : Hp) (x1 : Int32) , jJ p l e (rmD 1) s m args below meth c 3 sb D ids shp St (fun r => MQ below (jQv sb D ids shp St n r) args s 0 0 (jA sb)) n 0 0 h 75 [(0, .ref tt), (1, .int x1)] [] (fX8_stuffTold_75 tt rec2 h x1) := by
    intro rec2 hrec2 h x1 
    unfold fX8_stuffTold_75
    refine j_iinc hC (v := (x1 + (1 : Int32))) (lv' := [(1, .int (x1 + (1 : Int32))), (0, .ref tt)]) 1 rfl (congrArg (fun z => x1 + z) (show Int32.ofInt (1) = (1 : Int32) from by decide)) (by decide) rfl (dOk_at dt_X8_stuffTold 43 rfl) ?_
    refine j_goto hC (tgt := 2) (by decide) (dOk_at dt_X8_stuffTold 44 rfl) ?_
    refine j_sub [1, 0] rfl ?_
    exact hrec2 h (x1 + (1 : Int32)) 
  have b2 : ∀ (fu : Nat) (h : Hp) (x1 : Int32) , jJ p l e (rmD 1) s m args below meth c 3 sb D ids shp St (fun r => MQ below (jQv sb D ids shp St n r) args s 0 0 (jA sb)) n 0 0 h 2 [(0, .ref tt), (1, .int x1)] [] (fX8_stuffTold_2 fu tt h x1) := by
    intro fu 
    induction fu with
    | zero => intro h x1 ; exact j_none
    | succ fu ih =>
    intro h x1 
    rw [fX8_stuffTold_2]
    refine j_iload_n hC 1 rfl rfl (dOk_at dt_X8_stuffTold 2 rfl) ?_
    refine j_aload_n hC 0 rfl rfl (dOk_at dt_X8_stuffTold 3 rfl) ?_
    refine j_getD (q := (7, 20)) hC flX8_9 ht (jlt hN ht (by decide)) (by decide) (by decide) (fun _ _ _ => rfl) (dOk_at dt_X8_stuffTold 4 rfl) (fun z_1 _ g_2 => ?_)
    refine j_getI hC flX8_208 g_2 (jlt hN g_2 (by decide)) (by decide) (by decide) (fun _ _ _ => rfl) (dOk_at dt_X8_stuffTold 5 rfl) ?_
    refine j_icmp_ge hC (tgt := 81) (by decide) (dOk_at dt_X8_stuffTold 6 rfl) (fun q_3 => ?_) (fun q_3 => ?_)
    · exact j_vret hC hret (dOk_at dt_X8_stuffTold 45 rfl)
    · refine j_iload_n hC 1 rfl rfl (dOk_at dt_X8_stuffTold 7 rfl) ?_
      refine j_bipush hC (v := (6 : Int32)) rfl (dOk_at dt_X8_stuffTold 8 rfl) ?_
      refine j_icmp_ge hC (tgt := 81) (by decide) (dOk_at dt_X8_stuffTold 9 rfl) (fun q_4 => ?_) (fun q_4 => ?_)
      · exact j_vret hC hret (dOk_at dt_X8_stuffTold 45 rfl)
      · refine j_aload_n hC 0 rfl rfl (dOk_at dt_X8_stuffTold 10 rfl) ?_
        refine j_getD (q := (7, 20)) hC flX8_9 ht (jlt hN ht (by decide)) (by decide) (by decide) (fun _ _ _ => rfl) (dOk_at dt_X8_stuffTold 11 rfl) (fun z_5 _ g_6 => ?_)
        refine j_getR hC flX8_211 g_6 (jlt hN g_6 (by decide)) (by decide) (by decide) (fun _ _ _ => rfl) (fun hs => hs _ _ _ (sf_7_11 g_6).1) (dOk_at dt_X8_stuffTold 12 rfl) ?_
        refine j_iload_n hC 1 rfl rfl (dOk_at dt_X8_stuffTold 13 rfl) ?_
        refine j_iald hC (sf_7_11 g_6).2.1 (Nat.lt_of_lt_of_le (sf_7_11 g_6).2.2 hN) (dOk_at dt_X8_stuffTold 14 rfl) ?_
        refine j_istore_n hC rfl (lv' := [(2, .int (hI h (rf z_5 11) (Int32.toNatClampNeg x1))), (0, .ref tt), (1, .int x1)]) (by decide) rfl (dOk_at dt_X8_stuffTold 15 rfl) ?_
        refine j_aload_n hC 1 rfl rfl (dOk_at dt_X8_stuffTold 16 rfl) ?_
        refine j_getD (q := (7, 20)) hC flX8_9 ht (jlt hN ht (by decide)) (by decide) (by decide) (fun _ _ _ => rfl) (dOk_at dt_X8_stuffTold 17 rfl) (fun z_7 _ g_8 => ?_)
        refine j_getR hC flX8_214 g_8 (jlt hN g_8 (by decide)) (by decide) (by decide) (fun _ _ _ => rfl) (fun hs => hs _ _ _ (sf_7_12 g_8).1) (dOk_at dt_X8_stuffTold 18 rfl) ?_
        refine j_iload_n hC 2 rfl rfl (dOk_at dt_X8_stuffTold 19 rfl) ?_
        refine j_iald hC (sf_7_12 g_8).2.1 (Nat.lt_of_lt_of_le (sf_7_12 g_8).2.2 hN) (dOk_at dt_X8_stuffTold 20 rfl) ?_
        refine j_aload_n hC 1 rfl rfl (dOk_at dt_X8_stuffTold 21 rfl) ?_
        refine j_getI hC flX8_40 ht (jlt hN ht (by decide)) (by decide) (by decide) (fun _ _ _ => rfl) (dOk_at dt_X8_stuffTold 22 rfl) ?_
        refine j_icmp_ne hC (tgt := 75) (by decide) (dOk_at dt_X8_stuffTold 23 rfl) (fun q_9 => ?_) (fun q_9 => ?_)
        · refine j_sub [1, 2] rfl ?_
          exact b75 (fX8_stuffTold_2 fu tt) ih h x1 
        · refine j_aload_n hC 1 rfl rfl (dOk_at dt_X8_stuffTold 24 rfl) ?_
          refine j_iload_n hC 0 rfl rfl (dOk_at dt_X8_stuffTold 25 rfl) ?_
          refine j_callVi hC clX8_161 (fun r0 hr0 => c_X8_isStraw hN (ht) _ _ r0 hr0) ht (jlt hN ht (by decide)) (by decide) rfl rfl ⟨Nat.le_of_ble_eq_true rfl, Nat.le_of_ble_eq_true rfl⟩ ⟨Nat.le_refl 0, Nat.le_refl 0⟩ (As := [.int (hI h (rf z_5 11) (Int32.toNatClampNeg x1))]) (st := []) rfl (Nat.le_of_ble_eq_true rfl) (dOk_at dt_X8_stuffTold 26 rfl) (fun v_10 h_11 _ => ?_)
          refine j_if_eq hC (tgt := 75) (by decide) (dOk_at dt_X8_stuffTold 27 rfl) (fun q_12 => ?_) (fun q_12 => ?_)
          · refine j_sub [1, 2] rfl ?_
            exact b75 (fX8_stuffTold_2 fu tt) ih h_11 x1 
          · refine j_aload_n hC 1 rfl rfl (dOk_at dt_X8_stuffTold 28 rfl) ?_
            refine j_getR hC flX8_15 ht (jlt hN ht (by decide)) (by decide) (by decide) (fun _ _ _ => rfl) (fun hs => hs _ _ _ (sf_8_5 ht).1) (dOk_at dt_X8_stuffTold 29 rfl) ?_
            refine j_iload_n hC 0 rfl rfl (dOk_at dt_X8_stuffTold 30 rfl) ?_
            refine j_bipush hC (v := (99 : Int32)) rfl (dOk_at dt_X8_stuffTold 31 rfl) ?_
            refine j_iast hC St_SP (sf_8_5 ht).2.1 (Nat.lt_of_lt_of_le (sf_8_5 ht).2.2 hN) (dOk_at dt_X8_stuffTold 32 rfl) ?_
            refine j_aload_n hC 1 rfl rfl (dOk_at dt_X8_stuffTold 33 rfl) ?_
            refine j_dupr hC (dOk_at dt_X8_stuffTold 34 rfl) ?_
            refine j_getI hC flX8_43 ht (jlt hN ht (by decide)) (by decide) (by decide) (fun _ _ _ => rfl) (dOk_at dt_X8_stuffTold 35 rfl) ?_
            refine j_iconst hC (v := (1 : Int32)) rfl (dOk_at dt_X8_stuffTold 36 rfl) ?_
            refine j_iload_n hC 0 rfl rfl (dOk_at dt_X8_stuffTold 37 rfl) ?_
            refine j_ishl hC (dOk_at dt_X8_stuffTold 38 rfl) ?_
            refine j_iconst hC (v := (-1 : Int32)) rfl (dOk_at dt_X8_stuffTold 39 rfl) ?_
            refine j_ixor hC (dOk_at dt_X8_stuffTold 40 rfl) ?_
            refine j_iand hC (dOk_at dt_X8_stuffTold 41 rfl) ?_
            refine j_putI hC St_SP flX8_43 ht (jlt hN ht (by decide)) (by decide) (by decide) rfl rfl (dOk_at dt_X8_stuffTold 42 rfl) ?_
            refine j_sub [1, 2] rfl ?_
            exact b75 (fX8_stuffTold_2 fu tt) ih (uI (uI h_11 (rf tt 5) (Int32.toNatClampNeg (hI h (rf z_5 11) (Int32.toNatClampNeg x1))) (99 : Int32)) tt 2 ((hI (uI h_11 (rf tt 5) (Int32.toNatClampNeg (hI h (rf z_5 11) (Int32.toNatClampNeg x1))) (99 : Int32)) tt 2) &&& (((1 : Int32) <<< ((hI h (rf z_5 11) (Int32.toNatClampNeg x1)) &&& 31)) ^^^ (-1 : Int32)))) x1 
  unfold fX8_stuffTold
  refine j_iconst hC (v := (0 : Int32)) rfl (dOk_at dt_X8_stuffTold 0 rfl) ?_
  refine j_istore_n hC rfl (lv' := [(1, .int (0 : Int32)), (0, .ref tt)]) (by decide) rfl (dOk_at dt_X8_stuffTold 1 rfl) ?_
  refine j_sub [1, 0] rfl ?_
  exact b2 FU h (0 : Int32) 
def tb_X8_takesPlace : List (Nat × Instr × Nat) := [(0, .iload_n 1, 1), (1, .ifCond .lt 25, 3), (4, .iload_n 1, 1), (5, .bipush 12, 2), (7, .if_icmp .ge 19, 3), (10, .aload_n 0, 1), (11, .getfield 9, 3), (14, .getfield 196, 3), (17, .iload_n 1, 1), (18, .iaload, 1), (19, .aload_n 0, 1), (20, .getfield 36, 3), (23, .if_icmp .ne 5, 3), (26, .iconst 0, 1), (27, .ireturn, 1), (28, .aload_n 0, 1), (29, .aload_n 0, 1), (30, .getfield 9, 3), (33, .getfield 199, 3), (36, .iload_n 1, 1), (37, .iaload, 1), (38, .invokevirtual 217, 3), (41, .istore_n 2, 1), (42, .iload_n 2, 1), (43, .ifCond .eq 13, 3), (46, .aload_n 0, 1), (47, .dup, 1), (48, .getfield 46, 3), (51, .iconst 1, 1), (52, .iadd, 1), (53, .putfield 46, 3), (56, .iload_n 2, 1), (57, .ifCond .ne 7, 3), (60, .iconst 1, 1), (61, .goto 4, 3), (64, .iconst 0, 1), (65, .ireturn, 1)]
theorem dt_X8_takesPlace : dOk cX8_takesPlace tb_X8_takesPlace = true := by decide +kernel
def fX8_takesPlace_56 (tt : Nat) (h : Hp) (x2 : Int32) : Option (Int32 × Hp) := if x2 = 0 then (some ((1 : Int32), h)) else (some ((0 : Int32), h))
def fX8_takesPlace (tt : Nat) (h : Hp) (x1 : Int32) : Option (Int32 × Hp) := if x1 < 0 then (some ((0 : Int32), h)) else (if (12 : Int32) ≤ x1 then (some ((0 : Int32), h)) else ((dref shp h tt 0 (7, 20)).bind (fun z_3 => if inb x1 12 then (if (hI h (rf z_3 7) (Int32.toNatClampNeg x1)) = (hI h tt 14) then (some ((0 : Int32), h)) else ((dref shp h tt 0 (7, 20)).bind (fun z_6 => if inb x1 12 then (bnd (fX8_inShed tt h (hI h (rf z_6 8) (Int32.toNatClampNeg x1))) (fun v_8 h_9 => if v_8 = 0 then (fX8_takesPlace_56 tt h_9 v_8) else (fX8_takesPlace_56 tt (uI h_9 tt 3 ((hI h_9 tt 3) + (1 : Int32))) v_8))) else none))) else none)))
set_option maxRecDepth 100000 in
set_option maxHeartbeats 4000000 in
theorem c_X8_takesPlace {l : Launch} {sb : State} {D : va_G} {ids : Nat → ClassId} {n : Nat} (hN : 152 ≤ n) {tt : Nat} (ht : shp tt = (8, 15)) (h : Hp) (x1 : Int32) (r : Int32 × Hp) (hr : fX8_takesPlace tt h x1 = some r) : jM l yX8_takesPlace cX8_takesPlace 3 (some .boolean) 1 sb D ids shp St n [.ref tt, .int x1] h (jQi sb D ids shp St n r) := by
  refine jM_of hr rfl (Nat.le_of_ble_eq_true rfl) ?_
  intro p e s m args below meth c hC hret
  have b56 : ∀ (h : Hp) (x2 : Int32) , jJ p l e (rmD 1) s m args below meth c 3 sb D ids shp St (fun r => MQ below (jQi sb D ids shp St n r) args s 0 0 (jA sb)) n 0 0 h 56 [(2, .int x2)] [] (fX8_takesPlace_56 tt h x2) := by
    intro h x2 
    unfold fX8_takesPlace_56
    refine j_iload_n hC 0 rfl rfl (dOk_at dt_X8_takesPlace 31 rfl) ?_
    refine j_if_ne hC (tgt := 64) (by decide) (dOk_at dt_X8_takesPlace 32 rfl) (fun q_11 => ?_) (fun q_11 => ?_)
    · refine j_iconst hC (v := (0 : Int32)) rfl (dOk_at dt_X8_takesPlace 35 rfl) ?_
      exact j_zretK hC hret rfl (dOk_at dt_X8_takesPlace 36 rfl)
    · refine j_iconst hC (v := (1 : Int32)) rfl (dOk_at dt_X8_takesPlace 33 rfl) ?_
      refine j_goto hC (tgt := 65) (by decide) (dOk_at dt_X8_takesPlace 34 rfl) ?_
      exact j_zretK hC hret rfl (dOk_at dt_X8_takesPlace 36 rfl)
  unfold fX8_takesPlace
  refine j_iload_n hC 1 rfl rfl (dOk_at dt_X8_takesPlace 0 rfl) ?_
  refine j_if_lt hC (tgt := 26) (by decide) (dOk_at dt_X8_takesPlace 1 rfl) (fun q_1 => ?_) (fun q_1 => ?_)
  · refine j_iconst hC (v := (0 : Int32)) rfl (dOk_at dt_X8_takesPlace 13 rfl) ?_
    exact j_zretK hC hret rfl (dOk_at dt_X8_takesPlace 14 rfl)
  · refine j_iload_n hC 1 rfl rfl (dOk_at dt_X8_takesPlace 2 rfl) ?_
    refine j_bipush hC (v := (12 : Int32)) rfl (dOk_at dt_X8_takesPlace 3 rfl) ?_
    refine j_icmp_ge hC (tgt := 26) (by decide) (dOk_at dt_X8_takesPlace 4 rfl) (fun q_2 => ?_) (fun q_2 => ?_)
    · refine j_iconst hC (v := (0 : Int32)) rfl (dOk_at dt_X8_takesPlace 13 rfl) ?_
      exact j_zretK hC hret rfl (dOk_at dt_X8_takesPlace 14 rfl)
    · refine j_aload_n hC 0 rfl rfl (dOk_at dt_X8_takesPlace 5 rfl) ?_
      refine j_getD (q := (7, 20)) hC flX8_9 ht (jlt hN ht (by decide)) (by decide) (by decide) (fun _ _ _ => rfl) (dOk_at dt_X8_takesPlace 6 rfl) (fun z_3 _ g_4 => ?_)
      refine j_getR hC flX8_196 g_4 (jlt hN g_4 (by decide)) (by decide) (by decide) (fun _ _ _ => rfl) (fun hs => hs _ _ _ (sf_7_7 g_4).1) (dOk_at dt_X8_takesPlace 7 rfl) ?_
      refine j_iload_n hC 1 rfl rfl (dOk_at dt_X8_takesPlace 8 rfl) ?_
      refine j_iald hC (sf_7_7 g_4).2.1 (Nat.lt_of_lt_of_le (sf_7_7 g_4).2.2 hN) (dOk_at dt_X8_takesPlace 9 rfl) ?_
      refine j_aload_n hC 0 rfl rfl (dOk_at dt_X8_takesPlace 10 rfl) ?_
      refine j_getI hC flX8_36 ht (jlt hN ht (by decide)) (by decide) (by decide) (fun _ _ _ => rfl) (dOk_at dt_X8_takesPlace 11 rfl) ?_
      refine j_icmp_ne hC (tgt := 28) (by decide) (dOk_at dt_X8_takesPlace 12 rfl) (fun q_5 => ?_) (fun q_5 => ?_)
      · refine j_aload_n hC 0 rfl rfl (dOk_at dt_X8_takesPlace 15 rfl) ?_
        refine j_aload_n hC 0 rfl rfl (dOk_at dt_X8_takesPlace 16 rfl) ?_
        refine j_getD (q := (7, 20)) hC flX8_9 ht (jlt hN ht (by decide)) (by decide) (by decide) (fun _ _ _ => rfl) (dOk_at dt_X8_takesPlace 17 rfl) (fun z_6 _ g_7 => ?_)
        refine j_getR hC flX8_199 g_7 (jlt hN g_7 (by decide)) (by decide) (by decide) (fun _ _ _ => rfl) (fun hs => hs _ _ _ (sf_7_8 g_7).1) (dOk_at dt_X8_takesPlace 18 rfl) ?_
        refine j_iload_n hC 1 rfl rfl (dOk_at dt_X8_takesPlace 19 rfl) ?_
        refine j_iald hC (sf_7_8 g_7).2.1 (Nat.lt_of_lt_of_le (sf_7_8 g_7).2.2 hN) (dOk_at dt_X8_takesPlace 20 rfl) ?_
        refine j_callVi hC clX8_217 (fun r0 hr0 => c_X8_inShed hN (ht) _ _ r0 hr0) ht (jlt hN ht (by decide)) (by decide) rfl rfl ⟨Nat.le_of_ble_eq_true rfl, Nat.le_of_ble_eq_true rfl⟩ ⟨Nat.le_refl 0, Nat.le_refl 0⟩ (As := [.int (hI h (rf z_6 8) (Int32.toNatClampNeg x1))]) (st := []) rfl (Nat.le_of_ble_eq_true rfl) (dOk_at dt_X8_takesPlace 21 rfl) (fun v_8 h_9 _ => ?_)
        refine j_istore_n hC rfl (lv' := [(2, .int v_8), (0, .ref tt), (1, .int x1)]) (by decide) rfl (dOk_at dt_X8_takesPlace 22 rfl) ?_
        refine j_iload_n hC 0 rfl rfl (dOk_at dt_X8_takesPlace 23 rfl) ?_
        refine j_if_eq hC (tgt := 56) (by decide) (dOk_at dt_X8_takesPlace 24 rfl) (fun q_10 => ?_) (fun q_10 => ?_)
        · refine j_sub [0] rfl ?_
          exact b56 h_9 v_8 
        · refine j_aload_n hC 1 rfl rfl (dOk_at dt_X8_takesPlace 25 rfl) ?_
          refine j_dupr hC (dOk_at dt_X8_takesPlace 26 rfl) ?_
          refine j_getI hC flX8_46 ht (jlt hN ht (by decide)) (by decide) (by decide) (fun _ _ _ => rfl) (dOk_at dt_X8_takesPlace 27 rfl) ?_
          refine j_iconst hC (v := (1 : Int32)) rfl (dOk_at dt_X8_takesPlace 28 rfl) ?_
          refine j_iadd hC (dOk_at dt_X8_takesPlace 29 rfl) ?_
          refine j_putI hC St_SP flX8_46 ht (jlt hN ht (by decide)) (by decide) (by decide) rfl rfl (dOk_at dt_X8_takesPlace 30 rfl) ?_
          refine j_sub [0] rfl ?_
          exact b56 (uI h_9 tt 3 ((hI h_9 tt 3) + (1 : Int32))) v_8 
      · refine j_iconst hC (v := (0 : Int32)) rfl (dOk_at dt_X8_takesPlace 13 rfl) ?_
        exact j_zretK hC hret rfl (dOk_at dt_X8_takesPlace 14 rfl)
def tb_X8_drawNumber : List (Nat × Instr × Nat) := [(0, .aload_n 0, 1), (1, .aload_n 0, 1), (2, .getfield 54, 3), (5, .ldc 231, 2), (7, .imul, 1), (8, .sipush 12345, 3), (11, .iadd, 1), (12, .ldc 232, 2), (14, .iand, 1), (15, .putfield 54, 3), (18, .aload_n 0, 1), (19, .getfield 54, 3), (22, .bipush 16, 2), (24, .ishr, 1), (25, .ireturn, 1)]
theorem dt_X8_drawNumber : dOk cX8_drawNumber tb_X8_drawNumber = true := by decide +kernel
def fX8_drawNumber (tt : Nat) (h : Hp) : Option (Int32 × Hp) := some (((hI (uI h tt 4 ((((hI h tt 4) * (1103515245 : Int32)) + (12345 : Int32)) &&& (2147483647 : Int32))) tt 4) >>> ((16 : Int32) &&& 31)), (uI h tt 4 ((((hI h tt 4) * (1103515245 : Int32)) + (12345 : Int32)) &&& (2147483647 : Int32))))
set_option maxRecDepth 100000 in
set_option maxHeartbeats 4000000 in
theorem c_X8_drawNumber {l : Launch} {sb : State} {D : va_G} {ids : Nat → ClassId} {n : Nat} (hN : 152 ≤ n) {tt : Nat} (ht : shp tt = (8, 15)) (h : Hp) (r : Int32 × Hp) (hr : fX8_drawNumber tt h = some r) : jM l yX8_drawNumber cX8_drawNumber 1 (some .int) 0 sb D ids shp St n [.ref tt] h (jQi sb D ids shp St n r) := by
  refine jM_of hr rfl (Nat.le_of_ble_eq_true rfl) ?_
  intro p e s m args below meth c hC hret
  unfold fX8_drawNumber
  refine j_aload_n hC 0 rfl rfl (dOk_at dt_X8_drawNumber 0 rfl) ?_
  refine j_aload_n hC 0 rfl rfl (dOk_at dt_X8_drawNumber 1 rfl) ?_
  refine j_getI hC flX8_54 ht (jlt hN ht (by decide)) (by decide) (by decide) (fun _ _ _ => rfl) (dOk_at dt_X8_drawNumber 2 rfl) ?_
  refine j_ldc hC kcX8_231 (dOk_at dt_X8_drawNumber 3 rfl) ?_
  refine j_imul hC (dOk_at dt_X8_drawNumber 4 rfl) ?_
  refine j_sipush hC (v := (12345 : Int32)) rfl (dOk_at dt_X8_drawNumber 5 rfl) ?_
  refine j_iadd hC (dOk_at dt_X8_drawNumber 6 rfl) ?_
  refine j_ldc hC kcX8_232 (dOk_at dt_X8_drawNumber 7 rfl) ?_
  refine j_iand hC (dOk_at dt_X8_drawNumber 8 rfl) ?_
  refine j_putI hC St_SP flX8_54 ht (jlt hN ht (by decide)) (by decide) (by decide) rfl rfl (dOk_at dt_X8_drawNumber 9 rfl) ?_
  refine j_aload_n hC 0 rfl rfl (dOk_at dt_X8_drawNumber 10 rfl) ?_
  refine j_getI hC flX8_54 ht (jlt hN ht (by decide)) (by decide) (by decide) (fun _ _ _ => rfl) (dOk_at dt_X8_drawNumber 11 rfl) ?_
  refine j_bipush hC (v := (16 : Int32)) rfl (dOk_at dt_X8_drawNumber 12 rfl) ?_
  refine j_ishr hC (dOk_at dt_X8_drawNumber 13 rfl) ?_
  exact j_iret hC hret (dOk_at dt_X8_drawNumber 14 rfl)
def tb_X8_isDamp : List (Nat × Instr × Nat) := [(0, .aload_n 0, 1), (1, .getfield 9, 3), (4, .getfield 224, 3), (7, .istore_n 1, 1), (8, .aload_n 0, 1), (9, .getfield 78, 3), (12, .ifCond .ne 7, 3), (15, .iload_n 1, 1), (16, .ifCond .ne 5, 3), (19, .iconst 0, 1), (20, .ireturn, 1), (21, .aload_n 0, 1), (22, .getfield 32, 3), (25, .ifCond .ne 15, 3), (28, .iload_n 1, 1), (29, .bipush 50, 2), (31, .if_icmp .lt 7, 3), (34, .iconst 1, 1), (35, .goto 4, 3), (38, .iconst 0, 1), (39, .ireturn, 1), (40, .iload_n 1, 1), (41, .bipush 100, 2), (43, .if_icmp .eq 14, 3), (46, .aload_n 0, 1), (47, .invokevirtual 227, 3), (50, .bipush 100, 2), (52, .irem, 1), (53, .iload_n 1, 1), (54, .if_icmp .ge 7, 3), (57, .iconst 1, 1), (58, .goto 4, 3), (61, .iconst 0, 1), (62, .ireturn, 1)]
theorem dt_X8_isDamp : dOk cX8_isDamp tb_X8_isDamp = true := by decide +kernel
def fX8_isDamp (tt : Nat) (h : Hp) : Option (Int32 × Hp) := (dref shp h tt 0 (7, 20)).bind (fun z_1 => if (hI h tt 11) = 0 then (if (hI h z_1 13) = 0 then (some ((0 : Int32), h)) else (if (hI h tt 10) = 0 then (if (hI h z_1 13) < (50 : Int32) then (some ((0 : Int32), h)) else (some ((1 : Int32), h))) else (if (hI h z_1 13) = (100 : Int32) then (some ((1 : Int32), h)) else (bnd (fX8_drawNumber tt h) (fun v_7 h_8 => if (hI h z_1 13) ≤ (v_7 - v_7 / (100 : Int32) * (100 : Int32)) then (some ((0 : Int32), h_8)) else (some ((1 : Int32), h_8))))))) else (some ((0 : Int32), h)))
set_option maxRecDepth 100000 in
set_option maxHeartbeats 4000000 in
theorem c_X8_isDamp {l : Launch} {sb : State} {D : va_G} {ids : Nat → ClassId} {n : Nat} (hN : 152 ≤ n) {tt : Nat} (ht : shp tt = (8, 15)) (h : Hp) (r : Int32 × Hp) (hr : fX8_isDamp tt h = some r) : jM l yX8_isDamp cX8_isDamp 2 (some .boolean) 1 sb D ids shp St n [.ref tt] h (jQi sb D ids shp St n r) := by
  refine jM_of hr rfl (Nat.le_of_ble_eq_true rfl) ?_
  intro p e s m args below meth c hC hret
  unfold fX8_isDamp
  refine j_aload_n hC 0 rfl rfl (dOk_at dt_X8_isDamp 0 rfl) ?_
  refine j_getD (q := (7, 20)) hC flX8_9 ht (jlt hN ht (by decide)) (by decide) (by decide) (fun _ _ _ => rfl) (dOk_at dt_X8_isDamp 1 rfl) (fun z_1 _ g_2 => ?_)
  refine j_getI hC flX8_224 g_2 (jlt hN g_2 (by decide)) (by decide) (by decide) (fun _ _ _ => rfl) (dOk_at dt_X8_isDamp 2 rfl) ?_
  refine j_istore_n hC rfl (lv' := [(1, .int (hI h z_1 13)), (0, .ref tt)]) (by decide) rfl (dOk_at dt_X8_isDamp 3 rfl) ?_
  refine j_aload_n hC 1 rfl rfl (dOk_at dt_X8_isDamp 4 rfl) ?_
  refine j_getI hC flX8_78 ht (jlt hN ht (by decide)) (by decide) (by decide) (fun _ _ _ => rfl) (dOk_at dt_X8_isDamp 5 rfl) ?_
  refine j_if_ne hC (tgt := 19) (by decide) (dOk_at dt_X8_isDamp 6 rfl) (fun q_3 => ?_) (fun q_3 => ?_)
  · refine j_iconst hC (v := (0 : Int32)) rfl (dOk_at dt_X8_isDamp 9 rfl) ?_
    exact j_zretK hC hret rfl (dOk_at dt_X8_isDamp 10 rfl)
  · refine j_iload_n hC 0 rfl rfl (dOk_at dt_X8_isDamp 7 rfl) ?_
    refine j_if_ne hC (tgt := 21) (by decide) (dOk_at dt_X8_isDamp 8 rfl) (fun q_4 => ?_) (fun q_4 => ?_)
    · refine j_aload_n hC 1 rfl rfl (dOk_at dt_X8_isDamp 11 rfl) ?_
      refine j_getI hC flX8_32 ht (jlt hN ht (by decide)) (by decide) (by decide) (fun _ _ _ => rfl) (dOk_at dt_X8_isDamp 12 rfl) ?_
      refine j_if_ne hC (tgt := 40) (by decide) (dOk_at dt_X8_isDamp 13 rfl) (fun q_5 => ?_) (fun q_5 => ?_)
      · refine j_iload_n hC 0 rfl rfl (dOk_at dt_X8_isDamp 21 rfl) ?_
        refine j_bipush hC (v := (100 : Int32)) rfl (dOk_at dt_X8_isDamp 22 rfl) ?_
        refine j_icmp_eq hC (tgt := 57) (by decide) (dOk_at dt_X8_isDamp 23 rfl) (fun q_6 => ?_) (fun q_6 => ?_)
        · refine j_iconst hC (v := (1 : Int32)) rfl (dOk_at dt_X8_isDamp 30 rfl) ?_
          refine j_goto hC (tgt := 62) (by decide) (dOk_at dt_X8_isDamp 31 rfl) ?_
          exact j_zretK hC hret rfl (dOk_at dt_X8_isDamp 33 rfl)
        · refine j_aload_n hC 1 rfl rfl (dOk_at dt_X8_isDamp 24 rfl) ?_
          refine j_callVi hC clX8_227 (fun r0 hr0 => c_X8_drawNumber hN (ht) _ r0 hr0) ht (jlt hN ht (by decide)) (by decide) rfl rfl ⟨Nat.le_of_ble_eq_true rfl, Nat.le_of_ble_eq_true rfl⟩ ⟨Nat.le_refl 0, Nat.le_refl 0⟩ (As := []) (st := []) rfl (Nat.le_of_ble_eq_true rfl) (dOk_at dt_X8_isDamp 25 rfl) (fun v_7 h_8 _ => ?_)
          refine j_bipush hC (v := (100 : Int32)) rfl (dOk_at dt_X8_isDamp 26 rfl) ?_
          refine j_iremK hC (by decide) (dOk_at dt_X8_isDamp 27 rfl) ?_
          refine j_iload_n hC 0 rfl rfl (dOk_at dt_X8_isDamp 28 rfl) ?_
          refine j_icmp_ge hC (tgt := 61) (by decide) (dOk_at dt_X8_isDamp 29 rfl) (fun q_9 => ?_) (fun q_9 => ?_)
          · refine j_iconst hC (v := (0 : Int32)) rfl (dOk_at dt_X8_isDamp 32 rfl) ?_
            exact j_zretK hC hret rfl (dOk_at dt_X8_isDamp 33 rfl)
          · refine j_iconst hC (v := (1 : Int32)) rfl (dOk_at dt_X8_isDamp 30 rfl) ?_
            refine j_goto hC (tgt := 62) (by decide) (dOk_at dt_X8_isDamp 31 rfl) ?_
            exact j_zretK hC hret rfl (dOk_at dt_X8_isDamp 33 rfl)
      · refine j_iload_n hC 0 rfl rfl (dOk_at dt_X8_isDamp 14 rfl) ?_
        refine j_bipush hC (v := (50 : Int32)) rfl (dOk_at dt_X8_isDamp 15 rfl) ?_
        refine j_icmp_lt hC (tgt := 38) (by decide) (dOk_at dt_X8_isDamp 16 rfl) (fun q_10 => ?_) (fun q_10 => ?_)
        · refine j_iconst hC (v := (0 : Int32)) rfl (dOk_at dt_X8_isDamp 19 rfl) ?_
          exact j_zretK hC hret rfl (dOk_at dt_X8_isDamp 20 rfl)
        · refine j_iconst hC (v := (1 : Int32)) rfl (dOk_at dt_X8_isDamp 17 rfl) ?_
          refine j_goto hC (tgt := 39) (by decide) (dOk_at dt_X8_isDamp 18 rfl) ?_
          exact j_zretK hC hret rfl (dOk_at dt_X8_isDamp 20 rfl)
    · refine j_iconst hC (v := (0 : Int32)) rfl (dOk_at dt_X8_isDamp 9 rfl) ?_
      exact j_zretK hC hret rfl (dOk_at dt_X8_isDamp 10 rfl)
def tb_X8_dampenStraw : List (Nat × Instr × Nat) := [(0, .iconst 0, 1), (1, .istore_n 1, 1), (2, .iload_n 1, 1), (3, .aload_n 0, 1), (4, .getfield 9, 3), (7, .getfield 57, 3), (10, .getfield 61, 3), (13, .if_icmp .ge 71, 3), (16, .iload_n 1, 1), (17, .iconst 5, 1), (18, .if_icmp .ge 66, 3), (21, .aload_n 0, 1), (22, .getfield 43, 3), (25, .iload_n 1, 1), (26, .ishr, 1), (27, .iconst 1, 1), (28, .iand, 1), (29, .ifCond .ne 49, 3), (32, .aload_n 0, 1), (33, .invokevirtual 220, 3), (36, .ifCond .eq 21, 3), (39, .aload_n 0, 1), (40, .getfield 15, 3), (43, .iload_n 1, 1), (44, .iconst 0, 1), (45, .aload_n 0, 1), (46, .getfield 15, 3), (49, .iload_n 1, 1), (50, .iaload, 1), (51, .iconst 1, 1), (52, .isub, 1), (53, .invokestatic 172, 3), (56, .iastore, 1), (57, .aload_n 0, 1), (58, .getfield 15, 3), (61, .iload_n 1, 1), (62, .iaload, 1), (63, .ifCond .ne 15, 3), (66, .aload_n 0, 1), (67, .dup, 1), (68, .getfield 43, 3), (71, .iconst 1, 1), (72, .iload_n 1, 1), (73, .ishl, 1), (74, .ior, 1), (75, .putfield 43, 3), (78, .iinc 1 1, 3), (81, .goto (-79), 3), (84, .return_, 1)]
theorem dt_X8_dampenStraw : dOk cX8_dampenStraw tb_X8_dampenStraw = true := by decide +kernel
def fX8_dampenStraw_78 (tt : Nat) (rec2 : Hp → Int32 → Option (Hp)) (h : Hp) (x1 : Int32) : Option (Hp) := rec2 h (x1 + (1 : Int32))
def fX8_dampenStraw_57 (tt : Nat) (rec2 : Hp → Int32 → Option (Hp)) (h : Hp) (x1 : Int32) : Option (Hp) := if inb x1 5 then (if (hI h (rf tt 5) (Int32.toNatClampNeg x1)) = 0 then (fX8_dampenStraw_78 tt rec2 (uI h tt 2 ((hI h tt 2) ||| ((1 : Int32) <<< (x1 &&& 31)))) x1) else (fX8_dampenStraw_78 tt rec2 h x1)) else none
def fX8_dampenStraw_2 : Nat → Nat → Hp → Int32 → Option (Hp)
  | 0, _, _, _ => none
  | fu + 1, tt, h, x1 => (dref shp h tt 0 (7, 20)).bind (fun z_1 => if (hI h (rf z_1 1) 2) ≤ x1 then (some h) else (if (5 : Int32) ≤ x1 then (some h) else (if (((hI h tt 2) >>> (x1 &&& 31)) &&& (1 : Int32)) = 0 then (bnd (fX8_isDamp tt h) (fun v_6 h_7 => if v_6 = 0 then (fX8_dampenStraw_57 tt (fX8_dampenStraw_2 fu tt) h_7 x1) else (if inb x1 5 then (if inb x1 5 then (fX8_dampenStraw_57 tt (fX8_dampenStraw_2 fu tt) (uI h_7 (rf tt 5) (Int32.toNatClampNeg x1) (if (0 : Int32) < ((hI h_7 (rf tt 5) (Int32.toNatClampNeg x1)) - (1 : Int32)) then ((hI h_7 (rf tt 5) (Int32.toNatClampNeg x1)) - (1 : Int32)) else (0 : Int32))) x1) else none) else none))) else (fX8_dampenStraw_78 tt (fX8_dampenStraw_2 fu tt) h x1))))
def fX8_dampenStraw (tt : Nat) (h : Hp) : Option (Hp) := fX8_dampenStraw_2 FU tt h (0 : Int32)
set_option maxRecDepth 100000 in
set_option maxHeartbeats 4000000 in
theorem c_X8_dampenStraw {l : Launch} {sb : State} {D : va_G} {ids : Nat → ClassId} {n : Nat} (hN : 152 ≤ n) {tt : Nat} (ht : shp tt = (8, 15)) (h : Hp) (r : Hp) (hr : fX8_dampenStraw tt h = some r) : jM l yX8_dampenStraw cX8_dampenStraw 2 none 2 sb D ids shp St n [.ref tt] h (jQv sb D ids shp St n r) := by
  refine jM_of hr rfl (Nat.le_of_ble_eq_true rfl) ?_
  intro p e s m args below meth c hC hret
  have b78 : ∀ (rec2 : Hp → Int32 → Option (Hp)) (hrec2 : ∀ (h : Hp) (x1 : Int32) , jJ p l e (rmD 2) s m args below meth c 2 sb D ids shp St (fun r => MQ below (jQv sb D ids shp St n r) args s 0 0 (jA sb)) n 0 0 h 2 [(0, .ref tt), (1, .int x1)] [] (rec2 h x1)) (h : Hp) (x1 : Int32) , jJ p l e (rmD 2) s m args below meth c 2 sb D ids shp St (fun r => MQ below (jQv sb D ids shp St n r) args s 0 0 (jA sb)) n 0 0 h 78 [(0, .ref tt), (1, .int x1)] [] (fX8_dampenStraw_78 tt rec2 h x1) := by
    intro rec2 hrec2 h x1 
    unfold fX8_dampenStraw_78
    refine j_iinc hC (v := (x1 + (1 : Int32))) (lv' := [(1, .int (x1 + (1 : Int32))), (0, .ref tt)]) 1 rfl (congrArg (fun z => x1 + z) (show Int32.ofInt (1) = (1 : Int32) from by decide)) (by decide) rfl (dOk_at dt_X8_dampenStraw 46 rfl) ?_
    refine j_goto hC (tgt := 2) (by decide) (dOk_at dt_X8_dampenStraw 47 rfl) ?_
    refine j_sub [1, 0] rfl ?_
    exact hrec2 h (x1 + (1 : Int32)) 
  have b57 : ∀ (rec2 : Hp → Int32 → Option (Hp)) (hrec2 : ∀ (h : Hp) (x1 : Int32) , jJ p l e (rmD 2) s m args below meth c 2 sb D ids shp St (fun r => MQ below (jQv sb D ids shp St n r) args s 0 0 (jA sb)) n 0 0 h 2 [(0, .ref tt), (1, .int x1)] [] (rec2 h x1)) (h : Hp) (x1 : Int32) , jJ p l e (rmD 2) s m args below meth c 2 sb D ids shp St (fun r => MQ below (jQv sb D ids shp St n r) args s 0 0 (jA sb)) n 0 0 h 57 [(0, .ref tt), (1, .int x1)] [] (fX8_dampenStraw_57 tt rec2 h x1) := by
    intro rec2 hrec2 h x1 
    unfold fX8_dampenStraw_57
    refine j_aload_n hC 0 rfl rfl (dOk_at dt_X8_dampenStraw 33 rfl) ?_
    refine j_getR hC flX8_15 ht (jlt hN ht (by decide)) (by decide) (by decide) (fun _ _ _ => rfl) (fun hs => hs _ _ _ (sf_8_5 ht).1) (dOk_at dt_X8_dampenStraw 34 rfl) ?_
    refine j_iload_n hC 1 rfl rfl (dOk_at dt_X8_dampenStraw 35 rfl) ?_
    refine j_iald hC (sf_8_5 ht).2.1 (Nat.lt_of_lt_of_le (sf_8_5 ht).2.2 hN) (dOk_at dt_X8_dampenStraw 36 rfl) ?_
    refine j_if_ne hC (tgt := 78) (by decide) (dOk_at dt_X8_dampenStraw 37 rfl) (fun q_9 => ?_) (fun q_9 => ?_)
    · exact b78 rec2 hrec2 h x1 
    · refine j_aload_n hC 0 rfl rfl (dOk_at dt_X8_dampenStraw 38 rfl) ?_
      refine j_dupr hC (dOk_at dt_X8_dampenStraw 39 rfl) ?_
      refine j_getI hC flX8_43 ht (jlt hN ht (by decide)) (by decide) (by decide) (fun _ _ _ => rfl) (dOk_at dt_X8_dampenStraw 40 rfl) ?_
      refine j_iconst hC (v := (1 : Int32)) rfl (dOk_at dt_X8_dampenStraw 41 rfl) ?_
      refine j_iload_n hC 1 rfl rfl (dOk_at dt_X8_dampenStraw 42 rfl) ?_
      refine j_ishl hC (dOk_at dt_X8_dampenStraw 43 rfl) ?_
      refine j_ior hC (dOk_at dt_X8_dampenStraw 44 rfl) ?_
      refine j_putI hC St_SP flX8_43 ht (jlt hN ht (by decide)) (by decide) (by decide) rfl rfl (dOk_at dt_X8_dampenStraw 45 rfl) ?_
      exact b78 rec2 hrec2 (uI h tt 2 ((hI h tt 2) ||| ((1 : Int32) <<< (x1 &&& 31)))) x1 
  have b2 : ∀ (fu : Nat) (h : Hp) (x1 : Int32) , jJ p l e (rmD 2) s m args below meth c 2 sb D ids shp St (fun r => MQ below (jQv sb D ids shp St n r) args s 0 0 (jA sb)) n 0 0 h 2 [(0, .ref tt), (1, .int x1)] [] (fX8_dampenStraw_2 fu tt h x1) := by
    intro fu 
    induction fu with
    | zero => intro h x1 ; exact j_none
    | succ fu ih =>
    intro h x1 
    rw [fX8_dampenStraw_2]
    refine j_iload_n hC 1 rfl rfl (dOk_at dt_X8_dampenStraw 2 rfl) ?_
    refine j_aload_n hC 0 rfl rfl (dOk_at dt_X8_dampenStraw 3 rfl) ?_
    refine j_getD (q := (7, 20)) hC flX8_9 ht (jlt hN ht (by decide)) (by decide) (by decide) (fun _ _ _ => rfl) (dOk_at dt_X8_dampenStraw 4 rfl) (fun z_1 _ g_2 => ?_)
    refine j_getR hC flX8_57 g_2 (jlt hN g_2 (by decide)) (by decide) (by decide) (fun _ _ _ => rfl) (fun hs => hs _ _ _ (sf_7_1 g_2).1) (dOk_at dt_X8_dampenStraw 5 rfl) ?_
    refine j_getI hC flX8_61 (sf_7_1 g_2).2.1 (Nat.lt_of_lt_of_le (sf_7_1 g_2).2.2 hN) (by decide) (by decide) (fun _ _ _ => rfl) (dOk_at dt_X8_dampenStraw 6 rfl) ?_
    refine j_icmp_ge hC (tgt := 84) (by decide) (dOk_at dt_X8_dampenStraw 7 rfl) (fun q_3 => ?_) (fun q_3 => ?_)
    · exact j_vret hC hret (dOk_at dt_X8_dampenStraw 48 rfl)
    · refine j_iload_n hC 1 rfl rfl (dOk_at dt_X8_dampenStraw 8 rfl) ?_
      refine j_iconst hC (v := (5 : Int32)) rfl (dOk_at dt_X8_dampenStraw 9 rfl) ?_
      refine j_icmp_ge hC (tgt := 84) (by decide) (dOk_at dt_X8_dampenStraw 10 rfl) (fun q_4 => ?_) (fun q_4 => ?_)
      · exact j_vret hC hret (dOk_at dt_X8_dampenStraw 48 rfl)
      · refine j_aload_n hC 0 rfl rfl (dOk_at dt_X8_dampenStraw 11 rfl) ?_
        refine j_getI hC flX8_43 ht (jlt hN ht (by decide)) (by decide) (by decide) (fun _ _ _ => rfl) (dOk_at dt_X8_dampenStraw 12 rfl) ?_
        refine j_iload_n hC 1 rfl rfl (dOk_at dt_X8_dampenStraw 13 rfl) ?_
        refine j_ishr hC (dOk_at dt_X8_dampenStraw 14 rfl) ?_
        refine j_iconst hC (v := (1 : Int32)) rfl (dOk_at dt_X8_dampenStraw 15 rfl) ?_
        refine j_iand hC (dOk_at dt_X8_dampenStraw 16 rfl) ?_
        refine j_if_ne hC (tgt := 78) (by decide) (dOk_at dt_X8_dampenStraw 17 rfl) (fun q_5 => ?_) (fun q_5 => ?_)
        · exact b78 (fX8_dampenStraw_2 fu tt) ih h x1 
        · refine j_aload_n hC 0 rfl rfl (dOk_at dt_X8_dampenStraw 18 rfl) ?_
          refine j_callVi hC clX8_220 (fun r0 hr0 => c_X8_isDamp hN (ht) _ r0 hr0) ht (jlt hN ht (by decide)) (by decide) rfl rfl ⟨Nat.le_of_ble_eq_true rfl, Nat.le_of_ble_eq_true rfl⟩ ⟨Nat.le_refl 0, Nat.le_refl 0⟩ (As := []) (st := []) rfl (Nat.le_of_ble_eq_true rfl) (dOk_at dt_X8_dampenStraw 19 rfl) (fun v_6 h_7 _ => ?_)
          refine j_if_eq hC (tgt := 57) (by decide) (dOk_at dt_X8_dampenStraw 20 rfl) (fun q_8 => ?_) (fun q_8 => ?_)
          · exact b57 (fX8_dampenStraw_2 fu tt) ih h_7 x1 
          · refine j_aload_n hC 0 rfl rfl (dOk_at dt_X8_dampenStraw 21 rfl) ?_
            refine j_getR hC flX8_15 ht (jlt hN ht (by decide)) (by decide) (by decide) (fun _ _ _ => rfl) (fun hs => hs _ _ _ (sf_8_5 ht).1) (dOk_at dt_X8_dampenStraw 22 rfl) ?_
            refine j_iload_n hC 1 rfl rfl (dOk_at dt_X8_dampenStraw 23 rfl) ?_
            refine j_iconst hC (v := (0 : Int32)) rfl (dOk_at dt_X8_dampenStraw 24 rfl) ?_
            refine j_aload_n hC 0 rfl rfl (dOk_at dt_X8_dampenStraw 25 rfl) ?_
            refine j_getR hC flX8_15 ht (jlt hN ht (by decide)) (by decide) (by decide) (fun _ _ _ => rfl) (fun hs => hs _ _ _ (sf_8_5 ht).1) (dOk_at dt_X8_dampenStraw 26 rfl) ?_
            refine j_iload_n hC 1 rfl rfl (dOk_at dt_X8_dampenStraw 27 rfl) ?_
            refine j_iald hC (sf_8_5 ht).2.1 (Nat.lt_of_lt_of_le (sf_8_5 ht).2.2 hN) (dOk_at dt_X8_dampenStraw 28 rfl) ?_
            refine j_iconst hC (v := (1 : Int32)) rfl (dOk_at dt_X8_dampenStraw 29 rfl) ?_
            refine j_isub hC (dOk_at dt_X8_dampenStraw 30 rfl) ?_
            refine j_mmax hC mtX8_172 ⟨Nat.le_of_ble_eq_true rfl, Nat.le_of_ble_eq_true rfl⟩ ⟨Nat.le_refl 0, Nat.le_refl 0⟩ (Nat.le_of_ble_eq_true rfl) (dOk_at dt_X8_dampenStraw 31 rfl) ?_
            refine j_iast hC St_SP (sf_8_5 ht).2.1 (Nat.lt_of_lt_of_le (sf_8_5 ht).2.2 hN) (dOk_at dt_X8_dampenStraw 32 rfl) ?_
            exact b57 (fX8_dampenStraw_2 fu tt) ih (uI h_7 (rf tt 5) (Int32.toNatClampNeg x1) (if (0 : Int32) < ((hI h_7 (rf tt 5) (Int32.toNatClampNeg x1)) - (1 : Int32)) then ((hI h_7 (rf tt 5) (Int32.toNatClampNeg x1)) - (1 : Int32)) else (0 : Int32))) x1 
  unfold fX8_dampenStraw
  refine j_iconst hC (v := (0 : Int32)) rfl (dOk_at dt_X8_dampenStraw 0 rfl) ?_
  refine j_istore_n hC rfl (lv' := [(1, .int (0 : Int32)), (0, .ref tt)]) (by decide) rfl (dOk_at dt_X8_dampenStraw 1 rfl) ?_
  refine j_sub [1, 0] rfl ?_
  exact b2 FU h (0 : Int32) 
def tb_X8_passNight : List (Nat × Instr × Nat) := [(0, .aload_n 0, 1), (1, .getfield 40, 3), (4, .bipush 99, 2), (6, .if_icmp .gt 79, 3), (9, .aload_n 0, 1), (10, .invokevirtual 184, 3), (13, .iconst 0, 1), (14, .istore_n 1, 1), (15, .iload_n 1, 1), (16, .aload_n 0, 1), (17, .getfield 9, 3), (20, .getfield 187, 3), (23, .if_icmp .ge 62, 3), (26, .iload_n 1, 1), (27, .bipush 12, 2), (29, .if_icmp .ge 56, 3), (32, .aload_n 0, 1), (33, .getfield 9, 3), (36, .getfield 190, 3), (39, .iload_n 1, 1), (40, .iaload, 1), (41, .aload_n 0, 1), (42, .getfield 40, 3), (45, .if_icmp .ne 34, 3), (48, .aload_n 0, 1), (49, .iload_n 1, 1), (50, .invokevirtual 193, 3), (53, .ifCond .eq 26, 3), (56, .aload_n 0, 1), (57, .aload_n 0, 1), (58, .getfield 9, 3), (61, .getfield 196, 3), (64, .iload_n 1, 1), (65, .iaload, 1), (66, .aload_n 0, 1), (67, .getfield 9, 3), (70, .getfield 199, 3), (73, .iload_n 1, 1), (74, .iaload, 1), (75, .invokevirtual 202, 3), (78, .pop, 1), (79, .iinc 1 1, 3), (82, .goto (-67), 3), (85, .aload_n 0, 1), (86, .invokevirtual 205, 3), (89, .aload_n 0, 1), (90, .dup, 1), (91, .getfield 40, 3), (94, .iconst 1, 1), (95, .iadd, 1), (96, .putfield 40, 3), (99, .return_, 1)]
theorem dt_X8_passNight : dOk cX8_passNight tb_X8_passNight = true := by decide +kernel
def fX8_passNight_85 (tt : Nat) (h : Hp) : Option (Hp) := (fX8_dampenStraw tt h).bind (fun h_5 => some (uI h_5 tt 1 ((hI h_5 tt 1) + (1 : Int32))))
def fX8_passNight_79 (tt : Nat) (rec15 : Hp → Int32 → Option (Hp)) (h : Hp) (x1 : Int32) : Option (Hp) := rec15 h (x1 + (1 : Int32))
def fX8_passNight_15 : Nat → Nat → Hp → Int32 → Option (Hp)
  | 0, _, _, _ => none
  | fu + 1, tt, h, x1 => (dref shp h tt 0 (7, 20)).bind (fun z_6 => if (hI h z_6 6) ≤ x1 then (fX8_passNight_85 tt h) else (if (12 : Int32) ≤ x1 then (fX8_passNight_85 tt h) else ((dref shp h tt 0 (7, 20)).bind (fun z_10 => if inb x1 12 then (if (hI h (rf z_10 9) (Int32.toNatClampNeg x1)) = (hI h tt 1) then (bnd (fX8_takesPlace tt h x1) (fun v_13 h_14 => if v_13 = 0 then (fX8_passNight_79 tt (fX8_passNight_15 fu tt) h_14 x1) else ((dref shp h_14 tt 0 (7, 20)).bind (fun z_16 => if inb x1 12 then ((dref shp h_14 tt 0 (7, 20)).bind (fun z_18 => if inb x1 12 then (bnd (fX8_contend tt h_14 (hI h_14 (rf z_16 7) (Int32.toNatClampNeg x1)) (hI h_14 (rf z_18 8) (Int32.toNatClampNeg x1))) (fun v_20 h_21 => fX8_passNight_79 tt (fX8_passNight_15 fu tt) h_21 x1)) else none)) else none)))) else (fX8_passNight_79 tt (fX8_passNight_15 fu tt) h x1)) else none))))
def fX8_passNight (tt : Nat) (h : Hp) : Option (Hp) := if (99 : Int32) < (hI h tt 1) then (fX8_passNight_85 tt h) else ((fX8_stuffTold tt h).bind (fun h_3 => fX8_passNight_15 FU tt h_3 (0 : Int32)))
set_option maxRecDepth 100000 in
set_option maxHeartbeats 4000000 in
theorem c_X8_passNight {l : Launch} {sb : State} {D : va_G} {ids : Nat → ClassId} {n : Nat} (hN : 152 ≤ n) {tt : Nat} (ht : shp tt = (8, 15)) (h : Hp) (r : Hp) (hr : fX8_passNight tt h = some r) : jM l yX8_passNight cX8_passNight 2 none 5 sb D ids shp St n [.ref tt] h (jQv sb D ids shp St n r) := by
  refine jM_of hr rfl (Nat.le_of_ble_eq_true rfl) ?_
  intro p e s m args below meth c hC hret
  have b85 : ∀ (h : Hp) , jJ p l e (rmD 5) s m args below meth c 2 sb D ids shp St (fun r => MQ below (jQv sb D ids shp St n r) args s 0 0 (jA sb)) n 0 0 h 85 [(0, .ref tt)] [] (fX8_passNight_85 tt h ) := by
    intro h 
    unfold fX8_passNight_85
    refine j_aload_n hC 0 rfl rfl (dOk_at dt_X8_passNight 43 rfl) ?_
    refine j_callVv hC clX8_205 (fun r0 hr0 => c_X8_dampenStraw hN (ht) _ r0 hr0) ht (jlt hN ht (by decide)) (by decide) rfl rfl ⟨Nat.le_of_ble_eq_true rfl, Nat.le_of_ble_eq_true rfl⟩ ⟨Nat.le_refl 0, Nat.le_refl 0⟩ (As := []) (st := []) rfl (Nat.le_of_ble_eq_true rfl) (dOk_at dt_X8_passNight 44 rfl) (fun h_5 _ => ?_)
    refine j_aload_n hC 0 rfl rfl (dOk_at dt_X8_passNight 45 rfl) ?_
    refine j_dupr hC (dOk_at dt_X8_passNight 46 rfl) ?_
    refine j_getI hC flX8_40 ht (jlt hN ht (by decide)) (by decide) (by decide) (fun _ _ _ => rfl) (dOk_at dt_X8_passNight 47 rfl) ?_
    refine j_iconst hC (v := (1 : Int32)) rfl (dOk_at dt_X8_passNight 48 rfl) ?_
    refine j_iadd hC (dOk_at dt_X8_passNight 49 rfl) ?_
    refine j_putI hC St_SP flX8_40 ht (jlt hN ht (by decide)) (by decide) (by decide) rfl rfl (dOk_at dt_X8_passNight 50 rfl) ?_
    exact j_vret hC hret (dOk_at dt_X8_passNight 51 rfl)
  have b79 : ∀ (rec15 : Hp → Int32 → Option (Hp)) (hrec15 : ∀ (h : Hp) (x1 : Int32) , jJ p l e (rmD 5) s m args below meth c 2 sb D ids shp St (fun r => MQ below (jQv sb D ids shp St n r) args s 0 0 (jA sb)) n 0 0 h 15 [(0, .ref tt), (1, .int x1)] [] (rec15 h x1)) (h : Hp) (x1 : Int32) , jJ p l e (rmD 5) s m args below meth c 2 sb D ids shp St (fun r => MQ below (jQv sb D ids shp St n r) args s 0 0 (jA sb)) n 0 0 h 79 [(0, .ref tt), (1, .int x1)] [] (fX8_passNight_79 tt rec15 h x1) := by
    intro rec15 hrec15 h x1 
    unfold fX8_passNight_79
    refine j_iinc hC (v := (x1 + (1 : Int32))) (lv' := [(1, .int (x1 + (1 : Int32))), (0, .ref tt)]) 1 rfl (congrArg (fun z => x1 + z) (show Int32.ofInt (1) = (1 : Int32) from by decide)) (by decide) rfl (dOk_at dt_X8_passNight 41 rfl) ?_
    refine j_goto hC (tgt := 15) (by decide) (dOk_at dt_X8_passNight 42 rfl) ?_
    refine j_sub [1, 0] rfl ?_
    exact hrec15 h (x1 + (1 : Int32)) 
  have b15 : ∀ (fu : Nat) (h : Hp) (x1 : Int32) , jJ p l e (rmD 5) s m args below meth c 2 sb D ids shp St (fun r => MQ below (jQv sb D ids shp St n r) args s 0 0 (jA sb)) n 0 0 h 15 [(0, .ref tt), (1, .int x1)] [] (fX8_passNight_15 fu tt h x1) := by
    intro fu 
    induction fu with
    | zero => intro h x1 ; exact j_none
    | succ fu ih =>
    intro h x1 
    rw [fX8_passNight_15]
    refine j_iload_n hC 1 rfl rfl (dOk_at dt_X8_passNight 8 rfl) ?_
    refine j_aload_n hC 0 rfl rfl (dOk_at dt_X8_passNight 9 rfl) ?_
    refine j_getD (q := (7, 20)) hC flX8_9 ht (jlt hN ht (by decide)) (by decide) (by decide) (fun _ _ _ => rfl) (dOk_at dt_X8_passNight 10 rfl) (fun z_6 _ g_7 => ?_)
    refine j_getI hC flX8_187 g_7 (jlt hN g_7 (by decide)) (by decide) (by decide) (fun _ _ _ => rfl) (dOk_at dt_X8_passNight 11 rfl) ?_
    refine j_icmp_ge hC (tgt := 85) (by decide) (dOk_at dt_X8_passNight 12 rfl) (fun q_8 => ?_) (fun q_8 => ?_)
    · refine j_sub [0] rfl ?_
      exact b85 h 
    · refine j_iload_n hC 1 rfl rfl (dOk_at dt_X8_passNight 13 rfl) ?_
      refine j_bipush hC (v := (12 : Int32)) rfl (dOk_at dt_X8_passNight 14 rfl) ?_
      refine j_icmp_ge hC (tgt := 85) (by decide) (dOk_at dt_X8_passNight 15 rfl) (fun q_9 => ?_) (fun q_9 => ?_)
      · refine j_sub [0] rfl ?_
        exact b85 h 
      · refine j_aload_n hC 0 rfl rfl (dOk_at dt_X8_passNight 16 rfl) ?_
        refine j_getD (q := (7, 20)) hC flX8_9 ht (jlt hN ht (by decide)) (by decide) (by decide) (fun _ _ _ => rfl) (dOk_at dt_X8_passNight 17 rfl) (fun z_10 _ g_11 => ?_)
        refine j_getR hC flX8_190 g_11 (jlt hN g_11 (by decide)) (by decide) (by decide) (fun _ _ _ => rfl) (fun hs => hs _ _ _ (sf_7_9 g_11).1) (dOk_at dt_X8_passNight 18 rfl) ?_
        refine j_iload_n hC 1 rfl rfl (dOk_at dt_X8_passNight 19 rfl) ?_
        refine j_iald hC (sf_7_9 g_11).2.1 (Nat.lt_of_lt_of_le (sf_7_9 g_11).2.2 hN) (dOk_at dt_X8_passNight 20 rfl) ?_
        refine j_aload_n hC 0 rfl rfl (dOk_at dt_X8_passNight 21 rfl) ?_
        refine j_getI hC flX8_40 ht (jlt hN ht (by decide)) (by decide) (by decide) (fun _ _ _ => rfl) (dOk_at dt_X8_passNight 22 rfl) ?_
        refine j_icmp_ne hC (tgt := 79) (by decide) (dOk_at dt_X8_passNight 23 rfl) (fun q_12 => ?_) (fun q_12 => ?_)
        · exact b79 (fX8_passNight_15 fu tt) ih h x1 
        · refine j_aload_n hC 0 rfl rfl (dOk_at dt_X8_passNight 24 rfl) ?_
          refine j_iload_n hC 1 rfl rfl (dOk_at dt_X8_passNight 25 rfl) ?_
          refine j_callVi hC clX8_193 (fun r0 hr0 => c_X8_takesPlace hN (ht) _ _ r0 hr0) ht (jlt hN ht (by decide)) (by decide) rfl rfl ⟨Nat.le_of_ble_eq_true rfl, Nat.le_of_ble_eq_true rfl⟩ ⟨Nat.le_refl 0, Nat.le_refl 0⟩ (As := [.int x1]) (st := []) rfl (Nat.le_of_ble_eq_true rfl) (dOk_at dt_X8_passNight 26 rfl) (fun v_13 h_14 _ => ?_)
          refine j_if_eq hC (tgt := 79) (by decide) (dOk_at dt_X8_passNight 27 rfl) (fun q_15 => ?_) (fun q_15 => ?_)
          · exact b79 (fX8_passNight_15 fu tt) ih h_14 x1 
          · refine j_aload_n hC 0 rfl rfl (dOk_at dt_X8_passNight 28 rfl) ?_
            refine j_aload_n hC 0 rfl rfl (dOk_at dt_X8_passNight 29 rfl) ?_
            refine j_getD (q := (7, 20)) hC flX8_9 ht (jlt hN ht (by decide)) (by decide) (by decide) (fun _ _ _ => rfl) (dOk_at dt_X8_passNight 30 rfl) (fun z_16 _ g_17 => ?_)
            refine j_getR hC flX8_196 g_17 (jlt hN g_17 (by decide)) (by decide) (by decide) (fun _ _ _ => rfl) (fun hs => hs _ _ _ (sf_7_7 g_17).1) (dOk_at dt_X8_passNight 31 rfl) ?_
            refine j_iload_n hC 1 rfl rfl (dOk_at dt_X8_passNight 32 rfl) ?_
            refine j_iald hC (sf_7_7 g_17).2.1 (Nat.lt_of_lt_of_le (sf_7_7 g_17).2.2 hN) (dOk_at dt_X8_passNight 33 rfl) ?_
            refine j_aload_n hC 0 rfl rfl (dOk_at dt_X8_passNight 34 rfl) ?_
            refine j_getD (q := (7, 20)) hC flX8_9 ht (jlt hN ht (by decide)) (by decide) (by decide) (fun _ _ _ => rfl) (dOk_at dt_X8_passNight 35 rfl) (fun z_18 _ g_19 => ?_)
            refine j_getR hC flX8_199 g_19 (jlt hN g_19 (by decide)) (by decide) (by decide) (fun _ _ _ => rfl) (fun hs => hs _ _ _ (sf_7_8 g_19).1) (dOk_at dt_X8_passNight 36 rfl) ?_
            refine j_iload_n hC 1 rfl rfl (dOk_at dt_X8_passNight 37 rfl) ?_
            refine j_iald hC (sf_7_8 g_19).2.1 (Nat.lt_of_lt_of_le (sf_7_8 g_19).2.2 hN) (dOk_at dt_X8_passNight 38 rfl) ?_
            refine j_callVi hC clX8_202 (fun r0 hr0 => c_X8_contend hN (ht) _ _ _ r0 hr0) ht (jlt hN ht (by decide)) (by decide) rfl rfl ⟨Nat.le_of_ble_eq_true rfl, Nat.le_of_ble_eq_true rfl⟩ ⟨Nat.le_refl 0, Nat.le_refl 0⟩ (As := [.int (hI h_14 (rf z_16 7) (Int32.toNatClampNeg x1)), .int (hI h_14 (rf z_18 8) (Int32.toNatClampNeg x1))]) (st := []) rfl (Nat.le_of_ble_eq_true rfl) (dOk_at dt_X8_passNight 39 rfl) (fun v_20 h_21 _ => ?_)
            refine j_pop hC (dOk_at dt_X8_passNight 40 rfl) ?_
            exact b79 (fX8_passNight_15 fu tt) ih h_21 x1 
  unfold fX8_passNight
  refine j_aload_n hC 0 rfl rfl (dOk_at dt_X8_passNight 0 rfl) ?_
  refine j_getI hC flX8_40 ht (jlt hN ht (by decide)) (by decide) (by decide) (fun _ _ _ => rfl) (dOk_at dt_X8_passNight 1 rfl) ?_
  refine j_bipush hC (v := (99 : Int32)) rfl (dOk_at dt_X8_passNight 2 rfl) ?_
  refine j_icmp_gt hC (tgt := 85) (by decide) (dOk_at dt_X8_passNight 3 rfl) (fun q_1 => ?_) (fun q_1 => ?_)
  · exact b85 h 
  · refine j_aload_n hC 0 rfl rfl (dOk_at dt_X8_passNight 4 rfl) ?_
    refine j_callVv hC clX8_184 (fun r0 hr0 => c_X8_stuffTold hN (ht) _ r0 hr0) ht (jlt hN ht (by decide)) (by decide) rfl rfl ⟨Nat.le_of_ble_eq_true rfl, Nat.le_of_ble_eq_true rfl⟩ ⟨Nat.le_refl 0, Nat.le_refl 0⟩ (As := []) (st := []) rfl (Nat.le_of_ble_eq_true rfl) (dOk_at dt_X8_passNight 5 rfl) (fun h_3 _ => ?_)
    refine j_iconst hC (v := (0 : Int32)) rfl (dOk_at dt_X8_passNight 6 rfl) ?_
    refine j_istore_n hC rfl (lv' := [(1, .int (0 : Int32)), (0, .ref tt)]) (by decide) rfl (dOk_at dt_X8_passNight 7 rfl) ?_
    refine j_sub [1, 0] rfl ?_
    exact b15 FU h_3 (0 : Int32) 
def tb_X8_passNights : List (Nat × Instr × Nat) := [(0, .iconst 0, 1), (1, .istore_n 2, 1), (2, .iload_n 2, 1), (3, .iload_n 1, 1), (4, .if_icmp .ge 13, 3), (7, .aload_n 0, 1), (8, .invokevirtual 181, 3), (11, .iinc 2 1, 3), (14, .goto (-12), 3), (17, .return_, 1)]
theorem dt_X8_passNights : dOk cX8_passNights tb_X8_passNights = true := by decide +kernel
def fX8_passNights_2 : Nat → Nat → Hp → Int32 → Int32 → Option (Hp)
  | 0, _, _, _, _ => none
  | fu + 1, tt, h, x1, x2 => if x1 ≤ x2 then (some h) else ((fX8_passNight tt h).bind (fun h_3 => (fX8_passNights_2 fu tt) h_3 x1 (x2 + (1 : Int32))))
def fX8_passNights (tt : Nat) (h : Hp) (x1 : Int32) : Option (Hp) := fX8_passNights_2 FU tt h x1 (0 : Int32)
set_option maxRecDepth 100000 in
set_option maxHeartbeats 4000000 in
theorem c_X8_passNights {l : Launch} {sb : State} {D : va_G} {ids : Nat → ClassId} {n : Nat} (hN : 152 ≤ n) {tt : Nat} (ht : shp tt = (8, 15)) (h : Hp) (x1 : Int32) (r : Hp) (hr : fX8_passNights tt h x1 = some r) : jM l yX8_passNights cX8_passNights 3 none 6 sb D ids shp St n [.ref tt, .int x1] h (jQv sb D ids shp St n r) := by
  refine jM_of hr rfl (Nat.le_of_ble_eq_true rfl) ?_
  intro p e s m args below meth c hC hret
  have b2 : ∀ (fu : Nat) (h : Hp) (x1 : Int32) (x2 : Int32) , jJ p l e (rmD 6) s m args below meth c 3 sb D ids shp St (fun r => MQ below (jQv sb D ids shp St n r) args s 0 0 (jA sb)) n 0 0 h 2 [(0, .ref tt), (1, .int x1), (2, .int x2)] [] (fX8_passNights_2 fu tt h x1 x2) := by
    intro fu 
    induction fu with
    | zero => intro h x1 x2 ; exact j_none
    | succ fu ih =>
    intro h x1 x2 
    rw [fX8_passNights_2]
    refine j_iload_n hC 2 rfl rfl (dOk_at dt_X8_passNights 2 rfl) ?_
    refine j_iload_n hC 1 rfl rfl (dOk_at dt_X8_passNights 3 rfl) ?_
    refine j_icmp_ge hC (tgt := 17) (by decide) (dOk_at dt_X8_passNights 4 rfl) (fun q_1 => ?_) (fun q_1 => ?_)
    · exact j_vret hC hret (dOk_at dt_X8_passNights 9 rfl)
    · refine j_aload_n hC 0 rfl rfl (dOk_at dt_X8_passNights 5 rfl) ?_
      refine j_callVv hC clX8_181 (fun r0 hr0 => c_X8_passNight hN (ht) _ r0 hr0) ht (jlt hN ht (by decide)) (by decide) rfl rfl ⟨Nat.le_of_ble_eq_true rfl, Nat.le_of_ble_eq_true rfl⟩ ⟨Nat.le_refl 0, Nat.le_refl 0⟩ (As := []) (st := []) rfl (Nat.le_of_ble_eq_true rfl) (dOk_at dt_X8_passNights 6 rfl) (fun h_3 _ => ?_)
      refine j_iinc hC (v := (x2 + (1 : Int32))) (lv' := [(2, .int (x2 + (1 : Int32))), (0, .ref tt), (1, .int x1)]) 2 rfl (congrArg (fun z => x2 + z) (show Int32.ofInt (1) = (1 : Int32) from by decide)) (by decide) rfl (dOk_at dt_X8_passNights 7 rfl) ?_
      refine j_goto hC (tgt := 2) (by decide) (dOk_at dt_X8_passNights 8 rfl) ?_
      refine j_sub [1, 2, 0] rfl ?_
      exact ih h_3 x1 (x2 + (1 : Int32)) 
  unfold fX8_passNights
  refine j_iconst hC (v := (0 : Int32)) rfl (dOk_at dt_X8_passNights 0 rfl) ?_
  refine j_istore_n hC rfl (lv' := [(2, .int (0 : Int32)), (0, .ref tt), (1, .int x1)]) (by decide) rfl (dOk_at dt_X8_passNights 1 rfl) ?_
  refine j_sub [1, 2, 0] rfl ?_
  exact b2 FU h x1 (0 : Int32) 
def tb_X9_feed : List (Nat × Instr × Nat) := [(0, .aload_n 0, 1), (1, .getfield 24, 3), (4, .getfield 73, 3), (7, .bipush 20, 2), (9, .iadd, 1), (10, .sipush 700, 3), (13, .if_icmp .le 5, 3), (16, .iconst (-1), 1), (17, .ireturn, 1), (18, .aload_n 0, 1), (19, .getfield 24, 3), (22, .iload_n 1, 1), (23, .invokevirtual 76, 3), (26, .aload_n 0, 1), (27, .getfield 24, 3), (30, .iload_n 2, 1), (31, .invokevirtual 76, 3), (34, .aload_n 0, 1), (35, .getfield 24, 3), (38, .iload_n 3, 1), (39, .invokevirtual 76, 3), (42, .aload_n 0, 1), (43, .getfield 24, 3), (46, .iload 4, 2), (48, .invokevirtual 76, 3), (51, .aload_n 0, 1), (52, .getfield 24, 3), (55, .iload 5, 2), (57, .invokevirtual 76, 3), (60, .aload_n 0, 1), (61, .getfield 24, 3), (64, .getfield 73, 3), (67, .ireturn, 1)]
theorem dt_X9_feed : dOk cX9_feed tb_X9_feed = true := by decide +kernel
def fX9_feed (h : Hp) (x1 : Int32) (x2 : Int32) (x3 : Int32) (x4 : Int32) (x5 : Int32) : Option (Int32 × Hp) := if ((hI h 69 1) + (20 : Int32)) ≤ (700 : Int32) then ((fX5_append h x1).bind (fun h_3 => (fX5_append h_3 x2).bind (fun h_5 => (fX5_append h_5 x3).bind (fun h_7 => (fX5_append h_7 x4).bind (fun h_9 => (fX5_append h_9 x5).bind (fun h_11 => some ((hI h_11 69 1), h_11))))))) else (some ((-1 : Int32), h))
set_option maxRecDepth 100000 in
set_option maxHeartbeats 4000000 in
theorem c_X9_feed {l : Launch} {sb : State} {D : va_G} {ids : Nat → ClassId} {n : Nat} (hN : 152 ≤ n) (h : Hp) (x1 : Int32) (x2 : Int32) (x3 : Int32) (x4 : Int32) (x5 : Int32) (r : Int32 × Hp) (hr : fX9_feed h x1 x2 x3 x4 x5 = some r) : jM l yX9_feed cX9_feed 6 (some .int) 1 sb D ids shp St n [.ref 0, .int x1, .int x2, .int x3, .int x4, .int x5] h (jQi sb D ids shp St n r) := by
  refine jM_of hr rfl (Nat.le_of_ble_eq_true rfl) ?_
  intro p e s m args below meth c hC hret
  unfold fX9_feed
  refine j_aload_n hC 0 rfl rfl (dOk_at dt_X9_feed 0 rfl) ?_
  refine j_getR hC flX9_24 (show shp 0 = (9, 12) from rfl) (Nat.lt_of_lt_of_le (Nat.le_of_ble_eq_true rfl : 0 < 152) hN) (by decide) (by decide) (fun _ _ _ => rfl) (fun hs => hs 0 0 69 rfl) (dOk_at dt_X9_feed 1 rfl) ?_
  refine j_getI hC flX9_73 (show shp 69 = (5, 16) from rfl) (Nat.lt_of_lt_of_le (Nat.le_of_ble_eq_true rfl : 69 < 152) hN) (by decide) (by decide) (fun _ _ _ => rfl) (dOk_at dt_X9_feed 2 rfl) ?_
  refine j_bipush hC (v := (20 : Int32)) rfl (dOk_at dt_X9_feed 3 rfl) ?_
  refine j_iadd hC (dOk_at dt_X9_feed 4 rfl) ?_
  refine j_sipush hC (v := (700 : Int32)) rfl (dOk_at dt_X9_feed 5 rfl) ?_
  refine j_icmp_le hC (tgt := 18) (by decide) (dOk_at dt_X9_feed 6 rfl) (fun q_1 => ?_) (fun q_1 => ?_)
  · refine j_aload_n hC 0 rfl rfl (dOk_at dt_X9_feed 9 rfl) ?_
    refine j_getR hC flX9_24 (show shp 0 = (9, 12) from rfl) (Nat.lt_of_lt_of_le (Nat.le_of_ble_eq_true rfl : 0 < 152) hN) (by decide) (by decide) (fun _ _ _ => rfl) (fun hs => hs 0 0 69 rfl) (dOk_at dt_X9_feed 10 rfl) ?_
    refine j_iload_n hC 1 rfl rfl (dOk_at dt_X9_feed 11 rfl) ?_
    refine j_callVv hC clX9_76 (fun r0 hr0 => c_X5_append hN _ _ r0 hr0) (show shp 69 = (5, 16) from rfl) (Nat.lt_of_lt_of_le (Nat.le_of_ble_eq_true rfl : 69 < 152) hN) (by decide) rfl rfl ⟨Nat.le_of_ble_eq_true rfl, Nat.le_of_ble_eq_true rfl⟩ ⟨Nat.le_refl 0, Nat.le_refl 0⟩ (As := [.int x1]) (st := []) rfl (Nat.le_of_ble_eq_true rfl) (dOk_at dt_X9_feed 12 rfl) (fun h_3 _ => ?_)
    refine j_aload_n hC 0 rfl rfl (dOk_at dt_X9_feed 13 rfl) ?_
    refine j_getR hC flX9_24 (show shp 0 = (9, 12) from rfl) (Nat.lt_of_lt_of_le (Nat.le_of_ble_eq_true rfl : 0 < 152) hN) (by decide) (by decide) (fun _ _ _ => rfl) (fun hs => hs 0 0 69 rfl) (dOk_at dt_X9_feed 14 rfl) ?_
    refine j_iload_n hC 2 rfl rfl (dOk_at dt_X9_feed 15 rfl) ?_
    refine j_callVv hC clX9_76 (fun r0 hr0 => c_X5_append hN _ _ r0 hr0) (show shp 69 = (5, 16) from rfl) (Nat.lt_of_lt_of_le (Nat.le_of_ble_eq_true rfl : 69 < 152) hN) (by decide) rfl rfl ⟨Nat.le_of_ble_eq_true rfl, Nat.le_of_ble_eq_true rfl⟩ ⟨Nat.le_refl 0, Nat.le_refl 0⟩ (As := [.int x2]) (st := []) rfl (Nat.le_of_ble_eq_true rfl) (dOk_at dt_X9_feed 16 rfl) (fun h_5 _ => ?_)
    refine j_aload_n hC 0 rfl rfl (dOk_at dt_X9_feed 17 rfl) ?_
    refine j_getR hC flX9_24 (show shp 0 = (9, 12) from rfl) (Nat.lt_of_lt_of_le (Nat.le_of_ble_eq_true rfl : 0 < 152) hN) (by decide) (by decide) (fun _ _ _ => rfl) (fun hs => hs 0 0 69 rfl) (dOk_at dt_X9_feed 18 rfl) ?_
    refine j_iload_n hC 3 rfl rfl (dOk_at dt_X9_feed 19 rfl) ?_
    refine j_callVv hC clX9_76 (fun r0 hr0 => c_X5_append hN _ _ r0 hr0) (show shp 69 = (5, 16) from rfl) (Nat.lt_of_lt_of_le (Nat.le_of_ble_eq_true rfl : 69 < 152) hN) (by decide) rfl rfl ⟨Nat.le_of_ble_eq_true rfl, Nat.le_of_ble_eq_true rfl⟩ ⟨Nat.le_refl 0, Nat.le_refl 0⟩ (As := [.int x3]) (st := []) rfl (Nat.le_of_ble_eq_true rfl) (dOk_at dt_X9_feed 20 rfl) (fun h_7 _ => ?_)
    refine j_aload_n hC 0 rfl rfl (dOk_at dt_X9_feed 21 rfl) ?_
    refine j_getR hC flX9_24 (show shp 0 = (9, 12) from rfl) (Nat.lt_of_lt_of_le (Nat.le_of_ble_eq_true rfl : 0 < 152) hN) (by decide) (by decide) (fun _ _ _ => rfl) (fun hs => hs 0 0 69 rfl) (dOk_at dt_X9_feed 22 rfl) ?_
    refine j_iload hC 4 rfl (dOk_at dt_X9_feed 23 rfl) ?_
    refine j_callVv hC clX9_76 (fun r0 hr0 => c_X5_append hN _ _ r0 hr0) (show shp 69 = (5, 16) from rfl) (Nat.lt_of_lt_of_le (Nat.le_of_ble_eq_true rfl : 69 < 152) hN) (by decide) rfl rfl ⟨Nat.le_of_ble_eq_true rfl, Nat.le_of_ble_eq_true rfl⟩ ⟨Nat.le_refl 0, Nat.le_refl 0⟩ (As := [.int x4]) (st := []) rfl (Nat.le_of_ble_eq_true rfl) (dOk_at dt_X9_feed 24 rfl) (fun h_9 _ => ?_)
    refine j_aload_n hC 0 rfl rfl (dOk_at dt_X9_feed 25 rfl) ?_
    refine j_getR hC flX9_24 (show shp 0 = (9, 12) from rfl) (Nat.lt_of_lt_of_le (Nat.le_of_ble_eq_true rfl : 0 < 152) hN) (by decide) (by decide) (fun _ _ _ => rfl) (fun hs => hs 0 0 69 rfl) (dOk_at dt_X9_feed 26 rfl) ?_
    refine j_iload hC 5 rfl (dOk_at dt_X9_feed 27 rfl) ?_
    refine j_callVv hC clX9_76 (fun r0 hr0 => c_X5_append hN _ _ r0 hr0) (show shp 69 = (5, 16) from rfl) (Nat.lt_of_lt_of_le (Nat.le_of_ble_eq_true rfl : 69 < 152) hN) (by decide) rfl rfl ⟨Nat.le_of_ble_eq_true rfl, Nat.le_of_ble_eq_true rfl⟩ ⟨Nat.le_refl 0, Nat.le_refl 0⟩ (As := [.int x5]) (st := []) rfl (Nat.le_of_ble_eq_true rfl) (dOk_at dt_X9_feed 28 rfl) (fun h_11 _ => ?_)
    refine j_aload_n hC 0 rfl rfl (dOk_at dt_X9_feed 29 rfl) ?_
    refine j_getR hC flX9_24 (show shp 0 = (9, 12) from rfl) (Nat.lt_of_lt_of_le (Nat.le_of_ble_eq_true rfl : 0 < 152) hN) (by decide) (by decide) (fun _ _ _ => rfl) (fun hs => hs 0 0 69 rfl) (dOk_at dt_X9_feed 30 rfl) ?_
    refine j_getI hC flX9_73 (show shp 69 = (5, 16) from rfl) (Nat.lt_of_lt_of_le (Nat.le_of_ble_eq_true rfl : 69 < 152) hN) (by decide) (by decide) (fun _ _ _ => rfl) (dOk_at dt_X9_feed 31 rfl) ?_
    exact j_iret hC hret (dOk_at dt_X9_feed 32 rfl)
  · refine j_iconst hC (v := (-1 : Int32)) rfl (dOk_at dt_X9_feed 7 rfl) ?_
    exact j_iret hC hret (dOk_at dt_X9_feed 8 rfl)
def tb_X9_fault : List (Nat × Instr × Nat) := [(0, .iload_n 1, 1), (1, .ifCond .ne 8, 3), (4, .aload_n 0, 1), (5, .getfield 28, 3), (8, .ireturn, 1), (9, .iload_n 1, 1), (10, .iconst 1, 1), (11, .if_icmp .ne 10, 3), (14, .aload_n 0, 1), (15, .getfield 32, 3), (18, .goto 4, 3), (21, .iconst (-1), 1), (22, .ireturn, 1)]
theorem dt_X9_fault : dOk cX9_fault tb_X9_fault = true := by decide +kernel
def fX9_fault (h : Hp) (x1 : Int32) : Option (Int32 × Hp) := if x1 = 0 then (some ((hI h 0 1), h)) else (if x1 = (1 : Int32) then (some ((hI h 0 2), h)) else (some ((-1 : Int32), h)))
set_option maxRecDepth 100000 in
set_option maxHeartbeats 4000000 in
theorem c_X9_fault {l : Launch} {sb : State} {D : va_G} {ids : Nat → ClassId} {n : Nat} (hN : 152 ≤ n) (h : Hp) (x1 : Int32) (r : Int32 × Hp) (hr : fX9_fault h x1 = some r) : jM l yX9_fault cX9_fault 2 (some .int) 0 sb D ids shp St n [.ref 0, .int x1] h (jQi sb D ids shp St n r) := by
  refine jM_of hr rfl (Nat.le_of_ble_eq_true rfl) ?_
  intro p e s m args below meth c hC hret
  unfold fX9_fault
  refine j_iload_n hC 1 rfl rfl (dOk_at dt_X9_fault 0 rfl) ?_
  refine j_if_ne hC (tgt := 9) (by decide) (dOk_at dt_X9_fault 1 rfl) (fun q_1 => ?_) (fun q_1 => ?_)
  · refine j_iload_n hC 1 rfl rfl (dOk_at dt_X9_fault 5 rfl) ?_
    refine j_iconst hC (v := (1 : Int32)) rfl (dOk_at dt_X9_fault 6 rfl) ?_
    refine j_icmp_ne hC (tgt := 21) (by decide) (dOk_at dt_X9_fault 7 rfl) (fun q_2 => ?_) (fun q_2 => ?_)
    · refine j_iconst hC (v := (-1 : Int32)) rfl (dOk_at dt_X9_fault 11 rfl) ?_
      exact j_iret hC hret (dOk_at dt_X9_fault 12 rfl)
    · refine j_aload_n hC 0 rfl rfl (dOk_at dt_X9_fault 8 rfl) ?_
      refine j_getI hC flX9_32 (show shp 0 = (9, 12) from rfl) (Nat.lt_of_lt_of_le (Nat.le_of_ble_eq_true rfl : 0 < 152) hN) (by decide) (by decide) (fun _ _ _ => rfl) (dOk_at dt_X9_fault 9 rfl) ?_
      refine j_goto hC (tgt := 22) (by decide) (dOk_at dt_X9_fault 10 rfl) ?_
      exact j_iret hC hret (dOk_at dt_X9_fault 12 rfl)
  · refine j_aload_n hC 0 rfl rfl (dOk_at dt_X9_fault 2 rfl) ?_
    refine j_getI hC flX9_28 (show shp 0 = (9, 12) from rfl) (Nat.lt_of_lt_of_le (Nat.le_of_ble_eq_true rfl : 0 < 152) hN) (by decide) (by decide) (fun _ _ _ => rfl) (dOk_at dt_X9_fault 3 rfl) ?_
    exact j_iret hC hret (dOk_at dt_X9_fault 4 rfl)
def tb_X9_named : List (Nat × Instr × Nat) := [(0, .iload_n 1, 1), (1, .tableswitch 66 0 2 #[27, 42, 54], 27), (28, .aload_n 0, 1), (29, .getfield 10, 3), (32, .getfield 106, 3), (35, .getfield 110, 3), (38, .iload_n 2, 1), (39, .invokevirtual 116, 3), (42, .ireturn, 1), (43, .aload_n 0, 1), (44, .getfield 10, 3), (47, .getfield 122, 3), (50, .iload_n 2, 1), (51, .invokevirtual 116, 3), (54, .ireturn, 1), (55, .aload_n 0, 1), (56, .getfield 10, 3), (59, .getfield 125, 3), (62, .iload_n 2, 1), (63, .invokevirtual 116, 3), (66, .ireturn, 1), (67, .iconst (-1), 1), (68, .ireturn, 1)]
theorem dt_X9_named : dOk cX9_named tb_X9_named = true := by decide +kernel
def fX9_named (h : Hp) (x1 : Int32) (x2 : Int32) : Option (Int32 × Hp) := if inT x1 0 2 then (if x1 = (0 : Int32) then ((dref shp h 0 3 (7, 20)).bind (fun z_2 => bnd (fX6_find (rf (rf z_2 0) 0) h x2) (fun v_4 h_5 => some (v_4, h_5)))) else (if x1 = (1 : Int32) then ((dref shp h 0 3 (7, 20)).bind (fun z_7 => bnd (fX6_find (rf z_7 1) h x2) (fun v_9 h_10 => some (v_9, h_10)))) else (if x1 = (2 : Int32) then ((dref shp h 0 3 (7, 20)).bind (fun z_12 => bnd (fX6_find (rf z_12 4) h x2) (fun v_14 h_15 => some (v_14, h_15)))) else none))) else (some ((-1 : Int32), h))
set_option maxRecDepth 100000 in
set_option maxHeartbeats 4000000 in
theorem c_X9_named {l : Launch} {sb : State} {D : va_G} {ids : Nat → ClassId} {n : Nat} (hN : 152 ≤ n) (h : Hp) (x1 : Int32) (x2 : Int32) (r : Int32 × Hp) (hr : fX9_named h x1 x2 = some r) : jM l yX9_named cX9_named 3 (some .int) 1 sb D ids shp St n [.ref 0, .int x1, .int x2] h (jQi sb D ids shp St n r) := by
  refine jM_of hr rfl (Nat.le_of_ble_eq_true rfl) ?_
  intro p e s m args below meth c hC hret
  unfold fX9_named
  refine j_iload_n hC 1 rfl rfl (dOk_at dt_X9_named 0 rfl) ?_
  refine j_ite (P := inT x1 0 2 = true) (fun _ => ?_) (fun q => ?_)
  · refine j_ite (P := x1 = (0 : Int32)) (fun q_1 => ?_) (fun _ => ?_)
    · refine j_tswIn hC (tgt := 28) q_1 (by decide) (by decide) rfl (by decide) (dOk_at dt_X9_named 1 rfl) ?_
      refine j_aload_n hC 0 rfl rfl (dOk_at dt_X9_named 2 rfl) ?_
      refine j_getD (q := (7, 20)) hC flX9_10 (show shp 0 = (9, 12) from rfl) (Nat.lt_of_lt_of_le (Nat.le_of_ble_eq_true rfl : 0 < 152) hN) (by decide) (by decide) (fun _ _ _ => rfl) (dOk_at dt_X9_named 3 rfl) (fun z_2 _ g_3 => ?_)
      refine j_getR hC flX9_106 g_3 (jlt hN g_3 (by decide)) (by decide) (by decide) (fun _ _ _ => rfl) (fun hs => hs _ _ _ (sf_7_0 g_3).1) (dOk_at dt_X9_named 4 rfl) ?_
      refine j_getR hC flX9_110 (sf_7_0 g_3).2.1 (Nat.lt_of_lt_of_le (sf_7_0 g_3).2.2 hN) (by decide) (by decide) (fun _ _ _ => rfl) (fun hs => hs _ _ _ (sf_0_0 (sf_7_0 g_3).2.1).1) (dOk_at dt_X9_named 5 rfl) ?_
      refine j_iload_n hC 2 rfl rfl (dOk_at dt_X9_named 6 rfl) ?_
      refine j_callVi hC clX9_116 (fun r0 hr0 => c_X6_find hN ((sf_0_0 (sf_7_0 g_3).2.1).2.1) _ _ r0 hr0) (sf_0_0 (sf_7_0 g_3).2.1).2.1 (Nat.lt_of_lt_of_le (sf_0_0 (sf_7_0 g_3).2.1).2.2 hN) (by decide) rfl rfl ⟨Nat.le_of_ble_eq_true rfl, Nat.le_of_ble_eq_true rfl⟩ ⟨Nat.le_refl 0, Nat.le_refl 0⟩ (As := [.int x2]) (st := []) rfl (Nat.le_of_ble_eq_true rfl) (dOk_at dt_X9_named 7 rfl) (fun v_4 h_5 _ => ?_)
      exact j_iret hC hret (dOk_at dt_X9_named 8 rfl)
    refine j_ite (P := x1 = (1 : Int32)) (fun q_6 => ?_) (fun _ => ?_)
    · refine j_tswIn hC (tgt := 43) q_6 (by decide) (by decide) rfl (by decide) (dOk_at dt_X9_named 1 rfl) ?_
      refine j_aload_n hC 0 rfl rfl (dOk_at dt_X9_named 9 rfl) ?_
      refine j_getD (q := (7, 20)) hC flX9_10 (show shp 0 = (9, 12) from rfl) (Nat.lt_of_lt_of_le (Nat.le_of_ble_eq_true rfl : 0 < 152) hN) (by decide) (by decide) (fun _ _ _ => rfl) (dOk_at dt_X9_named 10 rfl) (fun z_7 _ g_8 => ?_)
      refine j_getR hC flX9_122 g_8 (jlt hN g_8 (by decide)) (by decide) (by decide) (fun _ _ _ => rfl) (fun hs => hs _ _ _ (sf_7_1 g_8).1) (dOk_at dt_X9_named 11 rfl) ?_
      refine j_iload_n hC 2 rfl rfl (dOk_at dt_X9_named 12 rfl) ?_
      refine j_callVi hC clX9_116 (fun r0 hr0 => c_X6_find hN ((sf_7_1 g_8).2.1) _ _ r0 hr0) (sf_7_1 g_8).2.1 (Nat.lt_of_lt_of_le (sf_7_1 g_8).2.2 hN) (by decide) rfl rfl ⟨Nat.le_of_ble_eq_true rfl, Nat.le_of_ble_eq_true rfl⟩ ⟨Nat.le_refl 0, Nat.le_refl 0⟩ (As := [.int x2]) (st := []) rfl (Nat.le_of_ble_eq_true rfl) (dOk_at dt_X9_named 13 rfl) (fun v_9 h_10 _ => ?_)
      exact j_iret hC hret (dOk_at dt_X9_named 14 rfl)
    refine j_ite (P := x1 = (2 : Int32)) (fun q_11 => ?_) (fun _ => ?_)
    · refine j_tswIn hC (tgt := 55) q_11 (by decide) (by decide) rfl (by decide) (dOk_at dt_X9_named 1 rfl) ?_
      refine j_aload_n hC 0 rfl rfl (dOk_at dt_X9_named 15 rfl) ?_
      refine j_getD (q := (7, 20)) hC flX9_10 (show shp 0 = (9, 12) from rfl) (Nat.lt_of_lt_of_le (Nat.le_of_ble_eq_true rfl : 0 < 152) hN) (by decide) (by decide) (fun _ _ _ => rfl) (dOk_at dt_X9_named 16 rfl) (fun z_12 _ g_13 => ?_)
      refine j_getR hC flX9_125 g_13 (jlt hN g_13 (by decide)) (by decide) (by decide) (fun _ _ _ => rfl) (fun hs => hs _ _ _ (sf_7_4 g_13).1) (dOk_at dt_X9_named 17 rfl) ?_
      refine j_iload_n hC 2 rfl rfl (dOk_at dt_X9_named 18 rfl) ?_
      refine j_callVi hC clX9_116 (fun r0 hr0 => c_X6_find hN ((sf_7_4 g_13).2.1) _ _ r0 hr0) (sf_7_4 g_13).2.1 (Nat.lt_of_lt_of_le (sf_7_4 g_13).2.2 hN) (by decide) rfl rfl ⟨Nat.le_of_ble_eq_true rfl, Nat.le_of_ble_eq_true rfl⟩ ⟨Nat.le_refl 0, Nat.le_refl 0⟩ (As := [.int x2]) (st := []) rfl (Nat.le_of_ble_eq_true rfl) (dOk_at dt_X9_named 19 rfl) (fun v_14 h_15 _ => ?_)
      exact j_iret hC hret (dOk_at dt_X9_named 20 rfl)
    exact j_none
  · refine j_tswOut hC (tgt := 67) q (by decide) (dOk_at dt_X9_named 1 rfl) ?_
    refine j_iconst hC (v := (-1 : Int32)) rfl (dOk_at dt_X9_named 21 rfl) ?_
    exact j_iret hC hret (dOk_at dt_X9_named 22 rfl)
def tb_X9_isClaim : List (Nat × Instr × Nat) := [(0, .iload_n 1, 1), (1, .ifCond .lt 24, 3), (4, .iload_n 1, 1), (5, .aload_n 0, 1), (6, .getfield 10, 3), (9, .getfield 106, 3), (12, .getfield 110, 3), (15, .getfield 361, 3), (18, .if_icmp .ge 7, 3), (21, .iconst 1, 1), (22, .goto 4, 3), (25, .iconst 0, 1), (26, .ireturn, 1)]
theorem dt_X9_isClaim : dOk cX9_isClaim tb_X9_isClaim = true := by decide +kernel
def fX9_isClaim (h : Hp) (x1 : Int32) : Option (Int32 × Hp) := if x1 < 0 then (some ((0 : Int32), h)) else ((dref shp h 0 3 (7, 20)).bind (fun z_2 => if (hI h (rf (rf z_2 0) 0) 2) ≤ x1 then (some ((0 : Int32), h)) else (some ((1 : Int32), h))))
set_option maxRecDepth 100000 in
set_option maxHeartbeats 4000000 in
theorem c_X9_isClaim {l : Launch} {sb : State} {D : va_G} {ids : Nat → ClassId} {n : Nat} (hN : 152 ≤ n) (h : Hp) (x1 : Int32) (r : Int32 × Hp) (hr : fX9_isClaim h x1 = some r) : jM l yX9_isClaim cX9_isClaim 2 (some .boolean) 0 sb D ids shp St n [.ref 0, .int x1] h (jQi sb D ids shp St n r) := by
  refine jM_of hr rfl (Nat.le_of_ble_eq_true rfl) ?_
  intro p e s m args below meth c hC hret
  unfold fX9_isClaim
  refine j_iload_n hC 1 rfl rfl (dOk_at dt_X9_isClaim 0 rfl) ?_
  refine j_if_lt hC (tgt := 25) (by decide) (dOk_at dt_X9_isClaim 1 rfl) (fun q_1 => ?_) (fun q_1 => ?_)
  · refine j_iconst hC (v := (0 : Int32)) rfl (dOk_at dt_X9_isClaim 11 rfl) ?_
    exact j_zretK hC hret rfl (dOk_at dt_X9_isClaim 12 rfl)
  · refine j_iload_n hC 1 rfl rfl (dOk_at dt_X9_isClaim 2 rfl) ?_
    refine j_aload_n hC 0 rfl rfl (dOk_at dt_X9_isClaim 3 rfl) ?_
    refine j_getD (q := (7, 20)) hC flX9_10 (show shp 0 = (9, 12) from rfl) (Nat.lt_of_lt_of_le (Nat.le_of_ble_eq_true rfl : 0 < 152) hN) (by decide) (by decide) (fun _ _ _ => rfl) (dOk_at dt_X9_isClaim 4 rfl) (fun z_2 _ g_3 => ?_)
    refine j_getR hC flX9_106 g_3 (jlt hN g_3 (by decide)) (by decide) (by decide) (fun _ _ _ => rfl) (fun hs => hs _ _ _ (sf_7_0 g_3).1) (dOk_at dt_X9_isClaim 5 rfl) ?_
    refine j_getR hC flX9_110 (sf_7_0 g_3).2.1 (Nat.lt_of_lt_of_le (sf_7_0 g_3).2.2 hN) (by decide) (by decide) (fun _ _ _ => rfl) (fun hs => hs _ _ _ (sf_0_0 (sf_7_0 g_3).2.1).1) (dOk_at dt_X9_isClaim 6 rfl) ?_
    refine j_getI hC flX9_361 (sf_0_0 (sf_7_0 g_3).2.1).2.1 (Nat.lt_of_lt_of_le (sf_0_0 (sf_7_0 g_3).2.1).2.2 hN) (by decide) (by decide) (fun _ _ _ => rfl) (dOk_at dt_X9_isClaim 7 rfl) ?_
    refine j_icmp_ge hC (tgt := 25) (by decide) (dOk_at dt_X9_isClaim 8 rfl) (fun q_4 => ?_) (fun q_4 => ?_)
    · refine j_iconst hC (v := (0 : Int32)) rfl (dOk_at dt_X9_isClaim 11 rfl) ?_
      exact j_zretK hC hret rfl (dOk_at dt_X9_isClaim 12 rfl)
    · refine j_iconst hC (v := (1 : Int32)) rfl (dOk_at dt_X9_isClaim 9 rfl) ?_
      refine j_goto hC (tgt := 26) (by decide) (dOk_at dt_X9_isClaim 10 rfl) ?_
      exact j_zretK hC hret rfl (dOk_at dt_X9_isClaim 12 rfl)
def tb_X9_isStraw : List (Nat × Instr × Nat) := [(0, .iload_n 1, 1), (1, .ifCond .lt 21, 3), (4, .iload_n 1, 1), (5, .aload_n 0, 1), (6, .getfield 10, 3), (9, .getfield 122, 3), (12, .getfield 361, 3), (15, .if_icmp .ge 7, 3), (18, .iconst 1, 1), (19, .goto 4, 3), (22, .iconst 0, 1), (23, .ireturn, 1)]
theorem dt_X9_isStraw : dOk cX9_isStraw tb_X9_isStraw = true := by decide +kernel
def fX9_isStraw (h : Hp) (x1 : Int32) : Option (Int32 × Hp) := if x1 < 0 then (some ((0 : Int32), h)) else ((dref shp h 0 3 (7, 20)).bind (fun z_2 => if (hI h (rf z_2 1) 2) ≤ x1 then (some ((0 : Int32), h)) else (some ((1 : Int32), h))))
set_option maxRecDepth 100000 in
set_option maxHeartbeats 4000000 in
theorem c_X9_isStraw {l : Launch} {sb : State} {D : va_G} {ids : Nat → ClassId} {n : Nat} (hN : 152 ≤ n) (h : Hp) (x1 : Int32) (r : Int32 × Hp) (hr : fX9_isStraw h x1 = some r) : jM l yX9_isStraw cX9_isStraw 2 (some .boolean) 0 sb D ids shp St n [.ref 0, .int x1] h (jQi sb D ids shp St n r) := by
  refine jM_of hr rfl (Nat.le_of_ble_eq_true rfl) ?_
  intro p e s m args below meth c hC hret
  unfold fX9_isStraw
  refine j_iload_n hC 1 rfl rfl (dOk_at dt_X9_isStraw 0 rfl) ?_
  refine j_if_lt hC (tgt := 22) (by decide) (dOk_at dt_X9_isStraw 1 rfl) (fun q_1 => ?_) (fun q_1 => ?_)
  · refine j_iconst hC (v := (0 : Int32)) rfl (dOk_at dt_X9_isStraw 10 rfl) ?_
    exact j_zretK hC hret rfl (dOk_at dt_X9_isStraw 11 rfl)
  · refine j_iload_n hC 1 rfl rfl (dOk_at dt_X9_isStraw 2 rfl) ?_
    refine j_aload_n hC 0 rfl rfl (dOk_at dt_X9_isStraw 3 rfl) ?_
    refine j_getD (q := (7, 20)) hC flX9_10 (show shp 0 = (9, 12) from rfl) (Nat.lt_of_lt_of_le (Nat.le_of_ble_eq_true rfl : 0 < 152) hN) (by decide) (by decide) (fun _ _ _ => rfl) (dOk_at dt_X9_isStraw 4 rfl) (fun z_2 _ g_3 => ?_)
    refine j_getR hC flX9_122 g_3 (jlt hN g_3 (by decide)) (by decide) (by decide) (fun _ _ _ => rfl) (fun hs => hs _ _ _ (sf_7_1 g_3).1) (dOk_at dt_X9_isStraw 5 rfl) ?_
    refine j_getI hC flX9_361 (sf_7_1 g_3).2.1 (Nat.lt_of_lt_of_le (sf_7_1 g_3).2.2 hN) (by decide) (by decide) (fun _ _ _ => rfl) (dOk_at dt_X9_isStraw 6 rfl) ?_
    refine j_icmp_ge hC (tgt := 22) (by decide) (dOk_at dt_X9_isStraw 7 rfl) (fun q_4 => ?_) (fun q_4 => ?_)
    · refine j_iconst hC (v := (0 : Int32)) rfl (dOk_at dt_X9_isStraw 10 rfl) ?_
      exact j_zretK hC hret rfl (dOk_at dt_X9_isStraw 11 rfl)
    · refine j_iconst hC (v := (1 : Int32)) rfl (dOk_at dt_X9_isStraw 8 rfl) ?_
      refine j_goto hC (tgt := 23) (by decide) (dOk_at dt_X9_isStraw 9 rfl) ?_
      exact j_zretK hC hret rfl (dOk_at dt_X9_isStraw 11 rfl)
def tb_X9_straw : List (Nat × Instr × Nat) := [(0, .aload_n 0, 1), (1, .iload_n 1, 1), (2, .invokevirtual 156, 3), (5, .ifCond .ne 5, 3), (8, .iconst (-1), 1), (9, .ireturn, 1), (10, .iload_n 2, 1), (11, .tableswitch 60 0 2 #[25, 34, 43], 25), (36, .aload_n 0, 1), (37, .getfield 10, 3), (40, .iload_n 1, 1), (41, .invokevirtual 159, 3), (44, .ireturn, 1), (45, .aload_n 0, 1), (46, .getfield 38, 3), (49, .iload_n 1, 1), (50, .invokevirtual 162, 3), (53, .ireturn, 1), (54, .aload_n 0, 1), (55, .getfield 38, 3), (58, .iload_n 1, 1), (59, .invokevirtual 165, 3), (62, .ifCond .eq 7, 3), (65, .iconst 1, 1), (66, .goto 4, 3), (69, .iconst 0, 1), (70, .ireturn, 1), (71, .iconst (-1), 1), (72, .ireturn, 1)]
theorem dt_X9_straw : dOk cX9_straw tb_X9_straw = true := by decide +kernel
def fX9_straw (h : Hp) (x1 : Int32) (x2 : Int32) : Option (Int32 × Hp) := bnd (fX9_isStraw h x1) (fun v_1 h_2 => if v_1 = 0 then (some ((-1 : Int32), h_2)) else (if inT x2 0 2 then (if x2 = (0 : Int32) then ((dref shp h_2 0 3 (7, 20)).bind (fun z_5 => bnd (fX7_claimOf z_5 h_2 x1) (fun v_7 h_8 => some (v_7, h_8)))) else (if x2 = (1 : Int32) then (bnd (fX8_fullOf 72 h_2 x1) (fun v_10 h_11 => some (v_10, h_11))) else (if x2 = (2 : Int32) then (bnd (fX8_inShed 72 h_2 x1) (fun v_13 h_14 => if v_13 = 0 then (some ((0 : Int32), h_14)) else (some ((1 : Int32), h_14)))) else none))) else (some ((-1 : Int32), h_2))))
set_option maxRecDepth 100000 in
set_option maxHeartbeats 4000000 in
theorem c_X9_straw {l : Launch} {sb : State} {D : va_G} {ids : Nat → ClassId} {n : Nat} (hN : 152 ≤ n) (h : Hp) (x1 : Int32) (x2 : Int32) (r : Int32 × Hp) (hr : fX9_straw h x1 x2 = some r) : jM l yX9_straw cX9_straw 3 (some .int) 1 sb D ids shp St n [.ref 0, .int x1, .int x2] h (jQi sb D ids shp St n r) := by
  refine jM_of hr rfl (Nat.le_of_ble_eq_true rfl) ?_
  intro p e s m args below meth c hC hret
  unfold fX9_straw
  refine j_aload_n hC 0 rfl rfl (dOk_at dt_X9_straw 0 rfl) ?_
  refine j_iload_n hC 1 rfl rfl (dOk_at dt_X9_straw 1 rfl) ?_
  refine j_callVi hC clX9_156 (fun r0 hr0 => c_X9_isStraw hN _ _ r0 hr0) (show shp 0 = (9, 12) from rfl) (Nat.lt_of_lt_of_le (Nat.le_of_ble_eq_true rfl : 0 < 152) hN) (by decide) rfl rfl ⟨Nat.le_of_ble_eq_true rfl, Nat.le_of_ble_eq_true rfl⟩ ⟨Nat.le_refl 0, Nat.le_refl 0⟩ (As := [.int x1]) (st := []) rfl (Nat.le_of_ble_eq_true rfl) (dOk_at dt_X9_straw 2 rfl) (fun v_1 h_2 _ => ?_)
  refine j_if_ne hC (tgt := 10) (by decide) (dOk_at dt_X9_straw 3 rfl) (fun q_3 => ?_) (fun q_3 => ?_)
  · refine j_iload_n hC 2 rfl rfl (dOk_at dt_X9_straw 6 rfl) ?_
    refine j_ite (P := inT x2 0 2 = true) (fun _ => ?_) (fun q => ?_)
    · refine j_ite (P := x2 = (0 : Int32)) (fun q_4 => ?_) (fun _ => ?_)
      · refine j_tswIn hC (tgt := 36) q_4 (by decide) (by decide) rfl (by decide) (dOk_at dt_X9_straw 7 rfl) ?_
        refine j_aload_n hC 0 rfl rfl (dOk_at dt_X9_straw 8 rfl) ?_
        refine j_getD (q := (7, 20)) hC flX9_10 (show shp 0 = (9, 12) from rfl) (Nat.lt_of_lt_of_le (Nat.le_of_ble_eq_true rfl : 0 < 152) hN) (by decide) (by decide) (fun _ _ _ => rfl) (dOk_at dt_X9_straw 9 rfl) (fun z_5 _ g_6 => ?_)
        refine j_iload_n hC 1 rfl rfl (dOk_at dt_X9_straw 10 rfl) ?_
        refine j_callVi hC clX9_159 (fun r0 hr0 => c_X7_claimOf hN (g_6) _ _ r0 hr0) g_6 (jlt hN g_6 (by decide)) (by decide) rfl rfl ⟨Nat.le_of_ble_eq_true rfl, Nat.le_of_ble_eq_true rfl⟩ ⟨Nat.le_refl 0, Nat.le_refl 0⟩ (As := [.int x1]) (st := []) rfl (Nat.le_of_ble_eq_true rfl) (dOk_at dt_X9_straw 11 rfl) (fun v_7 h_8 _ => ?_)
        exact j_iret hC hret (dOk_at dt_X9_straw 12 rfl)
      refine j_ite (P := x2 = (1 : Int32)) (fun q_9 => ?_) (fun _ => ?_)
      · refine j_tswIn hC (tgt := 45) q_9 (by decide) (by decide) rfl (by decide) (dOk_at dt_X9_straw 7 rfl) ?_
        refine j_aload_n hC 0 rfl rfl (dOk_at dt_X9_straw 13 rfl) ?_
        refine j_getR hC flX9_38 (show shp 0 = (9, 12) from rfl) (Nat.lt_of_lt_of_le (Nat.le_of_ble_eq_true rfl : 0 < 152) hN) (by decide) (by decide) (fun _ _ _ => rfl) (fun hs => hs 0 5 72 rfl) (dOk_at dt_X9_straw 14 rfl) ?_
        refine j_iload_n hC 1 rfl rfl (dOk_at dt_X9_straw 15 rfl) ?_
        refine j_callVi hC clX9_162 (fun r0 hr0 => c_X8_fullOf hN ((show shp 72 = (8, 15) from rfl)) _ _ r0 hr0) (show shp 72 = (8, 15) from rfl) (Nat.lt_of_lt_of_le (Nat.le_of_ble_eq_true rfl : 72 < 152) hN) (by decide) rfl rfl ⟨Nat.le_of_ble_eq_true rfl, Nat.le_of_ble_eq_true rfl⟩ ⟨Nat.le_refl 0, Nat.le_refl 0⟩ (As := [.int x1]) (st := []) rfl (Nat.le_of_ble_eq_true rfl) (dOk_at dt_X9_straw 16 rfl) (fun v_10 h_11 _ => ?_)
        exact j_iret hC hret (dOk_at dt_X9_straw 17 rfl)
      refine j_ite (P := x2 = (2 : Int32)) (fun q_12 => ?_) (fun _ => ?_)
      · refine j_tswIn hC (tgt := 54) q_12 (by decide) (by decide) rfl (by decide) (dOk_at dt_X9_straw 7 rfl) ?_
        refine j_aload_n hC 0 rfl rfl (dOk_at dt_X9_straw 18 rfl) ?_
        refine j_getR hC flX9_38 (show shp 0 = (9, 12) from rfl) (Nat.lt_of_lt_of_le (Nat.le_of_ble_eq_true rfl : 0 < 152) hN) (by decide) (by decide) (fun _ _ _ => rfl) (fun hs => hs 0 5 72 rfl) (dOk_at dt_X9_straw 19 rfl) ?_
        refine j_iload_n hC 1 rfl rfl (dOk_at dt_X9_straw 20 rfl) ?_
        refine j_callVi hC clX9_165 (fun r0 hr0 => c_X8_inShed hN ((show shp 72 = (8, 15) from rfl)) _ _ r0 hr0) (show shp 72 = (8, 15) from rfl) (Nat.lt_of_lt_of_le (Nat.le_of_ble_eq_true rfl : 72 < 152) hN) (by decide) rfl rfl ⟨Nat.le_of_ble_eq_true rfl, Nat.le_of_ble_eq_true rfl⟩ ⟨Nat.le_refl 0, Nat.le_refl 0⟩ (As := [.int x1]) (st := []) rfl (Nat.le_of_ble_eq_true rfl) (dOk_at dt_X9_straw 21 rfl) (fun v_13 h_14 _ => ?_)
        refine j_if_eq hC (tgt := 69) (by decide) (dOk_at dt_X9_straw 22 rfl) (fun q_15 => ?_) (fun q_15 => ?_)
        · refine j_iconst hC (v := (0 : Int32)) rfl (dOk_at dt_X9_straw 25 rfl) ?_
          exact j_iret hC hret (dOk_at dt_X9_straw 26 rfl)
        · refine j_iconst hC (v := (1 : Int32)) rfl (dOk_at dt_X9_straw 23 rfl) ?_
          refine j_goto hC (tgt := 70) (by decide) (dOk_at dt_X9_straw 24 rfl) ?_
          exact j_iret hC hret (dOk_at dt_X9_straw 26 rfl)
      exact j_none
    · refine j_tswOut hC (tgt := 71) q (by decide) (dOk_at dt_X9_straw 7 rfl) ?_
      refine j_iconst hC (v := (-1 : Int32)) rfl (dOk_at dt_X9_straw 27 rfl) ?_
      exact j_iret hC hret (dOk_at dt_X9_straw 28 rfl)
  · refine j_iconst hC (v := (-1 : Int32)) rfl (dOk_at dt_X9_straw 4 rfl) ?_
    exact j_iret hC hret (dOk_at dt_X9_straw 5 rfl)
def tb_X9_isMember : List (Nat × Instr × Nat) := [(0, .iload_n 1, 1), (1, .ifCond .lt 21, 3), (4, .iload_n 1, 1), (5, .aload_n 0, 1), (6, .getfield 10, 3), (9, .getfield 125, 3), (12, .getfield 361, 3), (15, .if_icmp .ge 7, 3), (18, .iconst 1, 1), (19, .goto 4, 3), (22, .iconst 0, 1), (23, .ireturn, 1)]
theorem dt_X9_isMember : dOk cX9_isMember tb_X9_isMember = true := by decide +kernel
def fX9_isMember (h : Hp) (x1 : Int32) : Option (Int32 × Hp) := if x1 < 0 then (some ((0 : Int32), h)) else ((dref shp h 0 3 (7, 20)).bind (fun z_2 => if (hI h (rf z_2 4) 2) ≤ x1 then (some ((0 : Int32), h)) else (some ((1 : Int32), h))))
set_option maxRecDepth 100000 in
set_option maxHeartbeats 4000000 in
theorem c_X9_isMember {l : Launch} {sb : State} {D : va_G} {ids : Nat → ClassId} {n : Nat} (hN : 152 ≤ n) (h : Hp) (x1 : Int32) (r : Int32 × Hp) (hr : fX9_isMember h x1 = some r) : jM l yX9_isMember cX9_isMember 2 (some .boolean) 0 sb D ids shp St n [.ref 0, .int x1] h (jQi sb D ids shp St n r) := by
  refine jM_of hr rfl (Nat.le_of_ble_eq_true rfl) ?_
  intro p e s m args below meth c hC hret
  unfold fX9_isMember
  refine j_iload_n hC 1 rfl rfl (dOk_at dt_X9_isMember 0 rfl) ?_
  refine j_if_lt hC (tgt := 22) (by decide) (dOk_at dt_X9_isMember 1 rfl) (fun q_1 => ?_) (fun q_1 => ?_)
  · refine j_iconst hC (v := (0 : Int32)) rfl (dOk_at dt_X9_isMember 10 rfl) ?_
    exact j_zretK hC hret rfl (dOk_at dt_X9_isMember 11 rfl)
  · refine j_iload_n hC 1 rfl rfl (dOk_at dt_X9_isMember 2 rfl) ?_
    refine j_aload_n hC 0 rfl rfl (dOk_at dt_X9_isMember 3 rfl) ?_
    refine j_getD (q := (7, 20)) hC flX9_10 (show shp 0 = (9, 12) from rfl) (Nat.lt_of_lt_of_le (Nat.le_of_ble_eq_true rfl : 0 < 152) hN) (by decide) (by decide) (fun _ _ _ => rfl) (dOk_at dt_X9_isMember 4 rfl) (fun z_2 _ g_3 => ?_)
    refine j_getR hC flX9_125 g_3 (jlt hN g_3 (by decide)) (by decide) (by decide) (fun _ _ _ => rfl) (fun hs => hs _ _ _ (sf_7_4 g_3).1) (dOk_at dt_X9_isMember 5 rfl) ?_
    refine j_getI hC flX9_361 (sf_7_4 g_3).2.1 (Nat.lt_of_lt_of_le (sf_7_4 g_3).2.2 hN) (by decide) (by decide) (fun _ _ _ => rfl) (dOk_at dt_X9_isMember 6 rfl) ?_
    refine j_icmp_ge hC (tgt := 22) (by decide) (dOk_at dt_X9_isMember 7 rfl) (fun q_4 => ?_) (fun q_4 => ?_)
    · refine j_iconst hC (v := (0 : Int32)) rfl (dOk_at dt_X9_isMember 10 rfl) ?_
      exact j_zretK hC hret rfl (dOk_at dt_X9_isMember 11 rfl)
    · refine j_iconst hC (v := (1 : Int32)) rfl (dOk_at dt_X9_isMember 8 rfl) ?_
      refine j_goto hC (tgt := 23) (by decide) (dOk_at dt_X9_isMember 9 rfl) ?_
      exact j_zretK hC hret rfl (dOk_at dt_X9_isMember 11 rfl)
def tb_X9_member : List (Nat × Instr × Nat) := [(0, .aload_n 0, 1), (1, .iload_n 1, 1), (2, .invokevirtual 168, 3), (5, .ifCond .ne 5, 3), (8, .iconst (-1), 1), (9, .ireturn, 1), (10, .iload_n 2, 1), (11, .tableswitch 52 0 2 #[25, 34, 43], 25), (36, .aload_n 0, 1), (37, .getfield 38, 3), (40, .iload_n 1, 1), (41, .invokevirtual 171, 3), (44, .ireturn, 1), (45, .aload_n 0, 1), (46, .getfield 38, 3), (49, .iload_n 1, 1), (50, .invokevirtual 174, 3), (53, .ireturn, 1), (54, .aload_n 0, 1), (55, .getfield 38, 3), (58, .iload_n 1, 1), (59, .invokevirtual 177, 3), (62, .ireturn, 1), (63, .iconst (-1), 1), (64, .ireturn, 1)]
theorem dt_X9_member : dOk cX9_member tb_X9_member = true := by decide +kernel
def fX9_member (h : Hp) (x1 : Int32) (x2 : Int32) : Option (Int32 × Hp) := bnd (fX9_isMember h x1) (fun v_1 h_2 => if v_1 = 0 then (some ((-1 : Int32), h_2)) else (if inT x2 0 2 then (if x2 = (0 : Int32) then (bnd (fX8_holdsOf 72 h_2 x1) (fun v_5 h_6 => some (v_5, h_6))) else (if x2 = (1 : Int32) then (bnd (fX8_wonBy 72 h_2 x1) (fun v_8 h_9 => some (v_8, h_9))) else (if x2 = (2 : Int32) then (bnd (fX8_beatenOf 72 h_2 x1) (fun v_11 h_12 => some (v_11, h_12))) else none))) else (some ((-1 : Int32), h_2))))
set_option maxRecDepth 100000 in
set_option maxHeartbeats 4000000 in
theorem c_X9_member {l : Launch} {sb : State} {D : va_G} {ids : Nat → ClassId} {n : Nat} (hN : 152 ≤ n) (h : Hp) (x1 : Int32) (x2 : Int32) (r : Int32 × Hp) (hr : fX9_member h x1 x2 = some r) : jM l yX9_member cX9_member 3 (some .int) 1 sb D ids shp St n [.ref 0, .int x1, .int x2] h (jQi sb D ids shp St n r) := by
  refine jM_of hr rfl (Nat.le_of_ble_eq_true rfl) ?_
  intro p e s m args below meth c hC hret
  unfold fX9_member
  refine j_aload_n hC 0 rfl rfl (dOk_at dt_X9_member 0 rfl) ?_
  refine j_iload_n hC 1 rfl rfl (dOk_at dt_X9_member 1 rfl) ?_
  refine j_callVi hC clX9_168 (fun r0 hr0 => c_X9_isMember hN _ _ r0 hr0) (show shp 0 = (9, 12) from rfl) (Nat.lt_of_lt_of_le (Nat.le_of_ble_eq_true rfl : 0 < 152) hN) (by decide) rfl rfl ⟨Nat.le_of_ble_eq_true rfl, Nat.le_of_ble_eq_true rfl⟩ ⟨Nat.le_refl 0, Nat.le_refl 0⟩ (As := [.int x1]) (st := []) rfl (Nat.le_of_ble_eq_true rfl) (dOk_at dt_X9_member 2 rfl) (fun v_1 h_2 _ => ?_)
  refine j_if_ne hC (tgt := 10) (by decide) (dOk_at dt_X9_member 3 rfl) (fun q_3 => ?_) (fun q_3 => ?_)
  · refine j_iload_n hC 2 rfl rfl (dOk_at dt_X9_member 6 rfl) ?_
    refine j_ite (P := inT x2 0 2 = true) (fun _ => ?_) (fun q => ?_)
    · refine j_ite (P := x2 = (0 : Int32)) (fun q_4 => ?_) (fun _ => ?_)
      · refine j_tswIn hC (tgt := 36) q_4 (by decide) (by decide) rfl (by decide) (dOk_at dt_X9_member 7 rfl) ?_
        refine j_aload_n hC 0 rfl rfl (dOk_at dt_X9_member 8 rfl) ?_
        refine j_getR hC flX9_38 (show shp 0 = (9, 12) from rfl) (Nat.lt_of_lt_of_le (Nat.le_of_ble_eq_true rfl : 0 < 152) hN) (by decide) (by decide) (fun _ _ _ => rfl) (fun hs => hs 0 5 72 rfl) (dOk_at dt_X9_member 9 rfl) ?_
        refine j_iload_n hC 1 rfl rfl (dOk_at dt_X9_member 10 rfl) ?_
        refine j_callVi hC clX9_171 (fun r0 hr0 => c_X8_holdsOf hN ((show shp 72 = (8, 15) from rfl)) _ _ r0 hr0) (show shp 72 = (8, 15) from rfl) (Nat.lt_of_lt_of_le (Nat.le_of_ble_eq_true rfl : 72 < 152) hN) (by decide) rfl rfl ⟨Nat.le_of_ble_eq_true rfl, Nat.le_of_ble_eq_true rfl⟩ ⟨Nat.le_refl 0, Nat.le_refl 0⟩ (As := [.int x1]) (st := []) rfl (Nat.le_of_ble_eq_true rfl) (dOk_at dt_X9_member 11 rfl) (fun v_5 h_6 _ => ?_)
        exact j_iret hC hret (dOk_at dt_X9_member 12 rfl)
      refine j_ite (P := x2 = (1 : Int32)) (fun q_7 => ?_) (fun _ => ?_)
      · refine j_tswIn hC (tgt := 45) q_7 (by decide) (by decide) rfl (by decide) (dOk_at dt_X9_member 7 rfl) ?_
        refine j_aload_n hC 0 rfl rfl (dOk_at dt_X9_member 13 rfl) ?_
        refine j_getR hC flX9_38 (show shp 0 = (9, 12) from rfl) (Nat.lt_of_lt_of_le (Nat.le_of_ble_eq_true rfl : 0 < 152) hN) (by decide) (by decide) (fun _ _ _ => rfl) (fun hs => hs 0 5 72 rfl) (dOk_at dt_X9_member 14 rfl) ?_
        refine j_iload_n hC 1 rfl rfl (dOk_at dt_X9_member 15 rfl) ?_
        refine j_callVi hC clX9_174 (fun r0 hr0 => c_X8_wonBy hN ((show shp 72 = (8, 15) from rfl)) _ _ r0 hr0) (show shp 72 = (8, 15) from rfl) (Nat.lt_of_lt_of_le (Nat.le_of_ble_eq_true rfl : 72 < 152) hN) (by decide) rfl rfl ⟨Nat.le_of_ble_eq_true rfl, Nat.le_of_ble_eq_true rfl⟩ ⟨Nat.le_refl 0, Nat.le_refl 0⟩ (As := [.int x1]) (st := []) rfl (Nat.le_of_ble_eq_true rfl) (dOk_at dt_X9_member 16 rfl) (fun v_8 h_9 _ => ?_)
        exact j_iret hC hret (dOk_at dt_X9_member 17 rfl)
      refine j_ite (P := x2 = (2 : Int32)) (fun q_10 => ?_) (fun _ => ?_)
      · refine j_tswIn hC (tgt := 54) q_10 (by decide) (by decide) rfl (by decide) (dOk_at dt_X9_member 7 rfl) ?_
        refine j_aload_n hC 0 rfl rfl (dOk_at dt_X9_member 18 rfl) ?_
        refine j_getR hC flX9_38 (show shp 0 = (9, 12) from rfl) (Nat.lt_of_lt_of_le (Nat.le_of_ble_eq_true rfl : 0 < 152) hN) (by decide) (by decide) (fun _ _ _ => rfl) (fun hs => hs 0 5 72 rfl) (dOk_at dt_X9_member 19 rfl) ?_
        refine j_iload_n hC 1 rfl rfl (dOk_at dt_X9_member 20 rfl) ?_
        refine j_callVi hC clX9_177 (fun r0 hr0 => c_X8_beatenOf hN ((show shp 72 = (8, 15) from rfl)) _ _ r0 hr0) (show shp 72 = (8, 15) from rfl) (Nat.lt_of_lt_of_le (Nat.le_of_ble_eq_true rfl : 72 < 152) hN) (by decide) rfl rfl ⟨Nat.le_of_ble_eq_true rfl, Nat.le_of_ble_eq_true rfl⟩ ⟨Nat.le_refl 0, Nat.le_refl 0⟩ (As := [.int x1]) (st := []) rfl (Nat.le_of_ble_eq_true rfl) (dOk_at dt_X9_member 21 rfl) (fun v_11 h_12 _ => ?_)
        exact j_iret hC hret (dOk_at dt_X9_member 22 rfl)
      exact j_none
    · refine j_tswOut hC (tgt := 63) q (by decide) (dOk_at dt_X9_member 7 rfl) ?_
      refine j_iconst hC (v := (-1 : Int32)) rfl (dOk_at dt_X9_member 23 rfl) ?_
      exact j_iret hC hret (dOk_at dt_X9_member 24 rfl)
  · refine j_iconst hC (v := (-1 : Int32)) rfl (dOk_at dt_X9_member 4 rfl) ?_
    exact j_iret hC hret (dOk_at dt_X9_member 5 rfl)
def tb_X9_force : List (Nat × Instr × Nat) := [(0, .aload_n 0, 1), (1, .iload_n 1, 1), (2, .invokevirtual 168, 3), (5, .ifCond .eq 11, 3), (8, .aload_n 0, 1), (9, .iload_n 2, 1), (10, .invokevirtual 128, 3), (13, .ifCond .ne 5, 3), (16, .iconst (-1), 1), (17, .ireturn, 1), (18, .aload_n 0, 1), (19, .getfield 38, 3), (22, .iload_n 1, 1), (23, .iload_n 2, 1), (24, .invokevirtual 180, 3), (27, .ireturn, 1)]
theorem dt_X9_force : dOk cX9_force tb_X9_force = true := by decide +kernel
def fX9_force (h : Hp) (x1 : Int32) (x2 : Int32) : Option (Int32 × Hp) := bnd (fX9_isMember h x1) (fun v_1 h_2 => if v_1 = 0 then (some ((-1 : Int32), h_2)) else (bnd (fX9_isClaim h_2 x2) (fun v_4 h_5 => if v_4 = 0 then (some ((-1 : Int32), h_5)) else (bnd (fX8_forceOf 72 h_5 x1 x2) (fun v_7 h_8 => some (v_7, h_8))))))
set_option maxRecDepth 100000 in
set_option maxHeartbeats 4000000 in
theorem c_X9_force {l : Launch} {sb : State} {D : va_G} {ids : Nat → ClassId} {n : Nat} (hN : 152 ≤ n) (h : Hp) (x1 : Int32) (x2 : Int32) (r : Int32 × Hp) (hr : fX9_force h x1 x2 = some r) : jM l yX9_force cX9_force 3 (some .int) 2 sb D ids shp St n [.ref 0, .int x1, .int x2] h (jQi sb D ids shp St n r) := by
  refine jM_of hr rfl (Nat.le_of_ble_eq_true rfl) ?_
  intro p e s m args below meth c hC hret
  unfold fX9_force
  refine j_aload_n hC 0 rfl rfl (dOk_at dt_X9_force 0 rfl) ?_
  refine j_iload_n hC 1 rfl rfl (dOk_at dt_X9_force 1 rfl) ?_
  refine j_callVi hC clX9_168 (fun r0 hr0 => c_X9_isMember hN _ _ r0 hr0) (show shp 0 = (9, 12) from rfl) (Nat.lt_of_lt_of_le (Nat.le_of_ble_eq_true rfl : 0 < 152) hN) (by decide) rfl rfl ⟨Nat.le_of_ble_eq_true rfl, Nat.le_of_ble_eq_true rfl⟩ ⟨Nat.le_refl 0, Nat.le_refl 0⟩ (As := [.int x1]) (st := []) rfl (Nat.le_of_ble_eq_true rfl) (dOk_at dt_X9_force 2 rfl) (fun v_1 h_2 _ => ?_)
  refine j_if_eq hC (tgt := 16) (by decide) (dOk_at dt_X9_force 3 rfl) (fun q_3 => ?_) (fun q_3 => ?_)
  · refine j_iconst hC (v := (-1 : Int32)) rfl (dOk_at dt_X9_force 8 rfl) ?_
    exact j_iret hC hret (dOk_at dt_X9_force 9 rfl)
  · refine j_aload_n hC 0 rfl rfl (dOk_at dt_X9_force 4 rfl) ?_
    refine j_iload_n hC 2 rfl rfl (dOk_at dt_X9_force 5 rfl) ?_
    refine j_callVi hC clX9_128 (fun r0 hr0 => c_X9_isClaim hN _ _ r0 hr0) (show shp 0 = (9, 12) from rfl) (Nat.lt_of_lt_of_le (Nat.le_of_ble_eq_true rfl : 0 < 152) hN) (by decide) rfl rfl ⟨Nat.le_of_ble_eq_true rfl, Nat.le_of_ble_eq_true rfl⟩ ⟨Nat.le_refl 0, Nat.le_refl 0⟩ (As := [.int x2]) (st := []) rfl (Nat.le_of_ble_eq_true rfl) (dOk_at dt_X9_force 6 rfl) (fun v_4 h_5 _ => ?_)
    refine j_if_ne hC (tgt := 18) (by decide) (dOk_at dt_X9_force 7 rfl) (fun q_6 => ?_) (fun q_6 => ?_)
    · refine j_aload_n hC 0 rfl rfl (dOk_at dt_X9_force 10 rfl) ?_
      refine j_getR hC flX9_38 (show shp 0 = (9, 12) from rfl) (Nat.lt_of_lt_of_le (Nat.le_of_ble_eq_true rfl : 0 < 152) hN) (by decide) (by decide) (fun _ _ _ => rfl) (fun hs => hs 0 5 72 rfl) (dOk_at dt_X9_force 11 rfl) ?_
      refine j_iload_n hC 1 rfl rfl (dOk_at dt_X9_force 12 rfl) ?_
      refine j_iload_n hC 2 rfl rfl (dOk_at dt_X9_force 13 rfl) ?_
      refine j_callVi hC clX9_180 (fun r0 hr0 => c_X8_forceOf hN ((show shp 72 = (8, 15) from rfl)) _ _ _ r0 hr0) (show shp 72 = (8, 15) from rfl) (Nat.lt_of_lt_of_le (Nat.le_of_ble_eq_true rfl : 72 < 152) hN) (by decide) rfl rfl ⟨Nat.le_of_ble_eq_true rfl, Nat.le_of_ble_eq_true rfl⟩ ⟨Nat.le_refl 0, Nat.le_refl 0⟩ (As := [.int x1, .int x2]) (st := []) rfl (Nat.le_of_ble_eq_true rfl) (dOk_at dt_X9_force 14 rfl) (fun v_7 h_8 _ => ?_)
      exact j_iret hC hret (dOk_at dt_X9_force 15 rfl)
    · refine j_iconst hC (v := (-1 : Int32)) rfl (dOk_at dt_X9_force 8 rfl) ?_
      exact j_iret hC hret (dOk_at dt_X9_force 9 rfl)
def tb_X9_law : List (Nat × Instr × Nat) := [(0, .iload_n 1, 1), (1, .ifCond .lt 24, 3), (4, .iload_n 1, 1), (5, .iconst 3, 1), (6, .if_icmp .ge 19, 3), (9, .aload_n 0, 1), (10, .iload_n 2, 1), (11, .invokevirtual 156, 3), (14, .ifCond .eq 11, 3), (17, .aload_n 0, 1), (18, .iload_n 3, 1), (19, .invokevirtual 168, 3), (22, .ifCond .ne 7, 3), (25, .ldc2_w 184, 3), (28, .lreturn, 1), (29, .aload_n 0, 1), (30, .getfield 38, 3), (33, .iload_n 3, 1), (34, .iload_n 2, 1), (35, .invokevirtual 186, 3), (38, .aload_n 0, 1), (39, .getfield 38, 3), (42, .iload_n 1, 1), (43, .invokevirtual 190, 3), (46, .lreturn, 1)]
theorem dt_X9_law : dOk cX9_law tb_X9_law = true := by decide +kernel
def fX9_law (h : Hp) (x1 : Int32) (x2 : Int32) (x3 : Int32) : Option (Int64 × Hp) := if x1 < 0 then (some ((-9223372036854775808 : Int64), h)) else (if (3 : Int32) ≤ x1 then (some ((-9223372036854775808 : Int64), h)) else (bnd (fX9_isStraw h x2) (fun v_3 h_4 => if v_3 = 0 then (some ((-9223372036854775808 : Int64), h_4)) else (bnd (fX9_isMember h_4 x3) (fun v_6 h_7 => if v_6 = 0 then (some ((-9223372036854775808 : Int64), h_7)) else ((fX8_readNames 72 h_7 x3 x2).bind (fun h_10 => bnd (fX8_lawValue 72 h_10 x1) (fun v_11 h_12 => some (v_11, h_12)))))))))
set_option maxRecDepth 100000 in
set_option maxHeartbeats 4000000 in
theorem c_X9_law {l : Launch} {sb : State} {D : va_G} {ids : Nat → ClassId} {n : Nat} (hN : 152 ≤ n) (h : Hp) (x1 : Int32) (x2 : Int32) (x3 : Int32) (r : Int64 × Hp) (hr : fX9_law h x1 x2 x3 = some r) : jM l yX9_law cX9_law 4 (some .long) 3 sb D ids shp St n [.ref 0, .int x1, .int x2, .int x3] h (jQl sb D ids shp St n r) := by
  refine jM_of hr rfl (Nat.le_of_ble_eq_true rfl) ?_
  intro p e s m args below meth c hC hret
  unfold fX9_law
  refine j_iload_n hC 1 rfl rfl (dOk_at dt_X9_law 0 rfl) ?_
  refine j_if_lt hC (tgt := 25) (by decide) (dOk_at dt_X9_law 1 rfl) (fun q_1 => ?_) (fun q_1 => ?_)
  · refine j_ldc2 hC klX9_184 (dOk_at dt_X9_law 13 rfl) ?_
    exact j_lret hC hret (dOk_at dt_X9_law 14 rfl)
  · refine j_iload_n hC 1 rfl rfl (dOk_at dt_X9_law 2 rfl) ?_
    refine j_iconst hC (v := (3 : Int32)) rfl (dOk_at dt_X9_law 3 rfl) ?_
    refine j_icmp_ge hC (tgt := 25) (by decide) (dOk_at dt_X9_law 4 rfl) (fun q_2 => ?_) (fun q_2 => ?_)
    · refine j_ldc2 hC klX9_184 (dOk_at dt_X9_law 13 rfl) ?_
      exact j_lret hC hret (dOk_at dt_X9_law 14 rfl)
    · refine j_aload_n hC 0 rfl rfl (dOk_at dt_X9_law 5 rfl) ?_
      refine j_iload_n hC 2 rfl rfl (dOk_at dt_X9_law 6 rfl) ?_
      refine j_callVi hC clX9_156 (fun r0 hr0 => c_X9_isStraw hN _ _ r0 hr0) (show shp 0 = (9, 12) from rfl) (Nat.lt_of_lt_of_le (Nat.le_of_ble_eq_true rfl : 0 < 152) hN) (by decide) rfl rfl ⟨Nat.le_of_ble_eq_true rfl, Nat.le_of_ble_eq_true rfl⟩ ⟨Nat.le_refl 0, Nat.le_refl 0⟩ (As := [.int x2]) (st := []) rfl (Nat.le_of_ble_eq_true rfl) (dOk_at dt_X9_law 7 rfl) (fun v_3 h_4 _ => ?_)
      refine j_if_eq hC (tgt := 25) (by decide) (dOk_at dt_X9_law 8 rfl) (fun q_5 => ?_) (fun q_5 => ?_)
      · refine j_ldc2 hC klX9_184 (dOk_at dt_X9_law 13 rfl) ?_
        exact j_lret hC hret (dOk_at dt_X9_law 14 rfl)
      · refine j_aload_n hC 0 rfl rfl (dOk_at dt_X9_law 9 rfl) ?_
        refine j_iload_n hC 3 rfl rfl (dOk_at dt_X9_law 10 rfl) ?_
        refine j_callVi hC clX9_168 (fun r0 hr0 => c_X9_isMember hN _ _ r0 hr0) (show shp 0 = (9, 12) from rfl) (Nat.lt_of_lt_of_le (Nat.le_of_ble_eq_true rfl : 0 < 152) hN) (by decide) rfl rfl ⟨Nat.le_of_ble_eq_true rfl, Nat.le_of_ble_eq_true rfl⟩ ⟨Nat.le_refl 0, Nat.le_refl 0⟩ (As := [.int x3]) (st := []) rfl (Nat.le_of_ble_eq_true rfl) (dOk_at dt_X9_law 11 rfl) (fun v_6 h_7 _ => ?_)
        refine j_if_ne hC (tgt := 29) (by decide) (dOk_at dt_X9_law 12 rfl) (fun q_8 => ?_) (fun q_8 => ?_)
        · refine j_aload_n hC 0 rfl rfl (dOk_at dt_X9_law 15 rfl) ?_
          refine j_getR hC flX9_38 (show shp 0 = (9, 12) from rfl) (Nat.lt_of_lt_of_le (Nat.le_of_ble_eq_true rfl : 0 < 152) hN) (by decide) (by decide) (fun _ _ _ => rfl) (fun hs => hs 0 5 72 rfl) (dOk_at dt_X9_law 16 rfl) ?_
          refine j_iload_n hC 3 rfl rfl (dOk_at dt_X9_law 17 rfl) ?_
          refine j_iload_n hC 2 rfl rfl (dOk_at dt_X9_law 18 rfl) ?_
          refine j_callVv hC clX9_186 (fun r0 hr0 => c_X8_readNames hN ((show shp 72 = (8, 15) from rfl)) _ _ _ r0 hr0) (show shp 72 = (8, 15) from rfl) (Nat.lt_of_lt_of_le (Nat.le_of_ble_eq_true rfl : 72 < 152) hN) (by decide) rfl rfl ⟨Nat.le_of_ble_eq_true rfl, Nat.le_of_ble_eq_true rfl⟩ ⟨Nat.le_refl 0, Nat.le_refl 0⟩ (As := [.int x3, .int x2]) (st := []) rfl (Nat.le_of_ble_eq_true rfl) (dOk_at dt_X9_law 19 rfl) (fun h_10 _ => ?_)
          refine j_aload_n hC 0 rfl rfl (dOk_at dt_X9_law 20 rfl) ?_
          refine j_getR hC flX9_38 (show shp 0 = (9, 12) from rfl) (Nat.lt_of_lt_of_le (Nat.le_of_ble_eq_true rfl : 0 < 152) hN) (by decide) (by decide) (fun _ _ _ => rfl) (fun hs => hs 0 5 72 rfl) (dOk_at dt_X9_law 21 rfl) ?_
          refine j_iload_n hC 1 rfl rfl (dOk_at dt_X9_law 22 rfl) ?_
          refine j_callVl hC clX9_190 (fun r0 hr0 => c_X8_lawValue hN ((show shp 72 = (8, 15) from rfl)) _ _ r0 hr0) (show shp 72 = (8, 15) from rfl) (Nat.lt_of_lt_of_le (Nat.le_of_ble_eq_true rfl : 72 < 152) hN) (by decide) rfl rfl ⟨Nat.le_of_ble_eq_true rfl, Nat.le_of_ble_eq_true rfl⟩ ⟨Nat.le_refl 0, Nat.le_refl 0⟩ (As := [.int x1]) (st := []) rfl (Nat.le_of_ble_eq_true rfl) (dOk_at dt_X9_law 23 rfl) (fun v_11 h_12 _ => ?_)
          exact j_lret hC hret (dOk_at dt_X9_law 24 rfl)
        · refine j_ldc2 hC klX9_184 (dOk_at dt_X9_law 13 rfl) ?_
          exact j_lret hC hret (dOk_at dt_X9_law 14 rfl)
def tb_X9_debate : List (Nat × Instr × Nat) := [(0, .aload_n 0, 1), (1, .iload_n 1, 1), (2, .invokevirtual 168, 3), (5, .ifCond .eq 11, 3), (8, .aload_n 0, 1), (9, .iload_n 2, 1), (10, .invokevirtual 156, 3), (13, .ifCond .ne 5, 3), (16, .iconst (-1), 1), (17, .ireturn, 1), (18, .aload_n 0, 1), (19, .getfield 38, 3), (22, .iload_n 2, 1), (23, .invokevirtual 165, 3), (26, .ifCond .eq 6, 3), (29, .bipush (-2), 2), (31, .ireturn, 1), (32, .aload_n 0, 1), (33, .getfield 55, 3), (36, .aload_n 0, 1), (37, .getfield 38, 3), (40, .iload_n 1, 1), (41, .iload_n 2, 1), (42, .invokevirtual 194, 3), (45, .aload_n 0, 1), (46, .getfield 38, 3), (49, .iload_n 1, 1), (50, .iload_n 2, 1), (51, .invokevirtual 198, 3), (54, .ifCond .eq 7, 3), (57, .iconst 1, 1), (58, .goto 4, 3), (61, .iconst 0, 1), (62, .ireturn, 1)]
theorem dt_X9_debate : dOk cX9_debate tb_X9_debate = true := by decide +kernel
def fX9_debate (h : Hp) (x1 : Int32) (x2 : Int32) : Option (Int32 × Hp) := bnd (fX9_isMember h x1) (fun v_1 h_2 => if v_1 = 0 then (some ((-1 : Int32), h_2)) else (bnd (fX9_isStraw h_2 x2) (fun v_4 h_5 => if v_4 = 0 then (some ((-1 : Int32), h_5)) else (bnd (fX8_inShed 72 h_5 x2) (fun v_7 h_8 => if v_7 = 0 then ((fX4_record 72 h_8 x1 x2).bind (fun h_11 => bnd (fX8_contend 72 h_11 x1 x2) (fun v_12 h_13 => if v_12 = 0 then (some ((0 : Int32), h_13)) else (some ((1 : Int32), h_13))))) else (some ((-2 : Int32), h_8)))))))
set_option maxRecDepth 100000 in
set_option maxHeartbeats 4000000 in
theorem c_X9_debate {l : Launch} {sb : State} {D : va_G} {ids : Nat → ClassId} {n : Nat} (hN : 152 ≤ n) (h : Hp) (x1 : Int32) (x2 : Int32) (r : Int32 × Hp) (hr : fX9_debate h x1 x2 = some r) : jM l yX9_debate cX9_debate 3 (some .int) 5 sb D ids shp St n [.ref 0, .int x1, .int x2] h (jQi sb D ids shp St n r) := by
  refine jM_of hr rfl (Nat.le_of_ble_eq_true rfl) ?_
  intro p e s m args below meth c hC hret
  unfold fX9_debate
  refine j_aload_n hC 0 rfl rfl (dOk_at dt_X9_debate 0 rfl) ?_
  refine j_iload_n hC 1 rfl rfl (dOk_at dt_X9_debate 1 rfl) ?_
  refine j_callVi hC clX9_168 (fun r0 hr0 => c_X9_isMember hN _ _ r0 hr0) (show shp 0 = (9, 12) from rfl) (Nat.lt_of_lt_of_le (Nat.le_of_ble_eq_true rfl : 0 < 152) hN) (by decide) rfl rfl ⟨Nat.le_of_ble_eq_true rfl, Nat.le_of_ble_eq_true rfl⟩ ⟨Nat.le_refl 0, Nat.le_refl 0⟩ (As := [.int x1]) (st := []) rfl (Nat.le_of_ble_eq_true rfl) (dOk_at dt_X9_debate 2 rfl) (fun v_1 h_2 _ => ?_)
  refine j_if_eq hC (tgt := 16) (by decide) (dOk_at dt_X9_debate 3 rfl) (fun q_3 => ?_) (fun q_3 => ?_)
  · refine j_iconst hC (v := (-1 : Int32)) rfl (dOk_at dt_X9_debate 8 rfl) ?_
    exact j_iret hC hret (dOk_at dt_X9_debate 9 rfl)
  · refine j_aload_n hC 0 rfl rfl (dOk_at dt_X9_debate 4 rfl) ?_
    refine j_iload_n hC 2 rfl rfl (dOk_at dt_X9_debate 5 rfl) ?_
    refine j_callVi hC clX9_156 (fun r0 hr0 => c_X9_isStraw hN _ _ r0 hr0) (show shp 0 = (9, 12) from rfl) (Nat.lt_of_lt_of_le (Nat.le_of_ble_eq_true rfl : 0 < 152) hN) (by decide) rfl rfl ⟨Nat.le_of_ble_eq_true rfl, Nat.le_of_ble_eq_true rfl⟩ ⟨Nat.le_refl 0, Nat.le_refl 0⟩ (As := [.int x2]) (st := []) rfl (Nat.le_of_ble_eq_true rfl) (dOk_at dt_X9_debate 6 rfl) (fun v_4 h_5 _ => ?_)
    refine j_if_ne hC (tgt := 18) (by decide) (dOk_at dt_X9_debate 7 rfl) (fun q_6 => ?_) (fun q_6 => ?_)
    · refine j_aload_n hC 0 rfl rfl (dOk_at dt_X9_debate 10 rfl) ?_
      refine j_getR hC flX9_38 (show shp 0 = (9, 12) from rfl) (Nat.lt_of_lt_of_le (Nat.le_of_ble_eq_true rfl : 0 < 152) hN) (by decide) (by decide) (fun _ _ _ => rfl) (fun hs => hs 0 5 72 rfl) (dOk_at dt_X9_debate 11 rfl) ?_
      refine j_iload_n hC 2 rfl rfl (dOk_at dt_X9_debate 12 rfl) ?_
      refine j_callVi hC clX9_165 (fun r0 hr0 => c_X8_inShed hN ((show shp 72 = (8, 15) from rfl)) _ _ r0 hr0) (show shp 72 = (8, 15) from rfl) (Nat.lt_of_lt_of_le (Nat.le_of_ble_eq_true rfl : 72 < 152) hN) (by decide) rfl rfl ⟨Nat.le_of_ble_eq_true rfl, Nat.le_of_ble_eq_true rfl⟩ ⟨Nat.le_refl 0, Nat.le_refl 0⟩ (As := [.int x2]) (st := []) rfl (Nat.le_of_ble_eq_true rfl) (dOk_at dt_X9_debate 13 rfl) (fun v_7 h_8 _ => ?_)
      refine j_if_eq hC (tgt := 32) (by decide) (dOk_at dt_X9_debate 14 rfl) (fun q_9 => ?_) (fun q_9 => ?_)
      · refine j_aload_n hC 0 rfl rfl (dOk_at dt_X9_debate 17 rfl) ?_
        refine j_getR hC flX9_55 (show shp 0 = (9, 12) from rfl) (Nat.lt_of_lt_of_le (Nat.le_of_ble_eq_true rfl : 0 < 152) hN) (by decide) (by decide) (fun _ _ _ => rfl) (fun hs => hs 0 9 90 rfl) (dOk_at dt_X9_debate 18 rfl) ?_
        refine j_aload_n hC 0 rfl rfl (dOk_at dt_X9_debate 19 rfl) ?_
        refine j_getR hC flX9_38 (show shp 0 = (9, 12) from rfl) (Nat.lt_of_lt_of_le (Nat.le_of_ble_eq_true rfl : 0 < 152) hN) (by decide) (by decide) (fun _ _ _ => rfl) (fun hs => hs 0 5 72 rfl) (dOk_at dt_X9_debate 20 rfl) ?_
        refine j_iload_n hC 1 rfl rfl (dOk_at dt_X9_debate 21 rfl) ?_
        refine j_iload_n hC 2 rfl rfl (dOk_at dt_X9_debate 22 rfl) ?_
        refine j_callVv hC clX9_194 (fun r0 hr0 => c_X4_record hN ((show shp 72 = (8, 15) from rfl)) _ _ _ r0 hr0) (show shp 90 = (4, 8) from rfl) (Nat.lt_of_lt_of_le (Nat.le_of_ble_eq_true rfl : 90 < 152) hN) (by decide) rfl rfl ⟨Nat.le_of_ble_eq_true rfl, Nat.le_of_ble_eq_true rfl⟩ ⟨Nat.le_refl 0, Nat.le_refl 0⟩ (As := [.ref 72, .int x1, .int x2]) (st := []) rfl (Nat.le_of_ble_eq_true rfl) (dOk_at dt_X9_debate 23 rfl) (fun h_11 _ => ?_)
        refine j_aload_n hC 0 rfl rfl (dOk_at dt_X9_debate 24 rfl) ?_
        refine j_getR hC flX9_38 (show shp 0 = (9, 12) from rfl) (Nat.lt_of_lt_of_le (Nat.le_of_ble_eq_true rfl : 0 < 152) hN) (by decide) (by decide) (fun _ _ _ => rfl) (fun hs => hs 0 5 72 rfl) (dOk_at dt_X9_debate 25 rfl) ?_
        refine j_iload_n hC 1 rfl rfl (dOk_at dt_X9_debate 26 rfl) ?_
        refine j_iload_n hC 2 rfl rfl (dOk_at dt_X9_debate 27 rfl) ?_
        refine j_callVi hC clX9_198 (fun r0 hr0 => c_X8_contend hN ((show shp 72 = (8, 15) from rfl)) _ _ _ r0 hr0) (show shp 72 = (8, 15) from rfl) (Nat.lt_of_lt_of_le (Nat.le_of_ble_eq_true rfl : 72 < 152) hN) (by decide) rfl rfl ⟨Nat.le_of_ble_eq_true rfl, Nat.le_of_ble_eq_true rfl⟩ ⟨Nat.le_refl 0, Nat.le_refl 0⟩ (As := [.int x1, .int x2]) (st := []) rfl (Nat.le_of_ble_eq_true rfl) (dOk_at dt_X9_debate 28 rfl) (fun v_12 h_13 _ => ?_)
        refine j_if_eq hC (tgt := 61) (by decide) (dOk_at dt_X9_debate 29 rfl) (fun q_14 => ?_) (fun q_14 => ?_)
        · refine j_iconst hC (v := (0 : Int32)) rfl (dOk_at dt_X9_debate 32 rfl) ?_
          exact j_iret hC hret (dOk_at dt_X9_debate 33 rfl)
        · refine j_iconst hC (v := (1 : Int32)) rfl (dOk_at dt_X9_debate 30 rfl) ?_
          refine j_goto hC (tgt := 62) (by decide) (dOk_at dt_X9_debate 31 rfl) ?_
          exact j_iret hC hret (dOk_at dt_X9_debate 33 rfl)
      · refine j_bipush hC (v := (-2 : Int32)) rfl (dOk_at dt_X9_debate 15 rfl) ?_
        exact j_iret hC hret (dOk_at dt_X9_debate 16 rfl)
    · refine j_iconst hC (v := (-1 : Int32)) rfl (dOk_at dt_X9_debate 8 rfl) ?_
      exact j_iret hC hret (dOk_at dt_X9_debate 9 rfl)
def tb_X9_take : List (Nat × Instr × Nat) := [(0, .aload_n 0, 1), (1, .iload_n 1, 1), (2, .invokevirtual 168, 3), (5, .ifCond .eq 23, 3), (8, .aload_n 0, 1), (9, .iload_n 2, 1), (10, .invokevirtual 128, 3), (13, .ifCond .eq 15, 3), (16, .aload_n 0, 1), (17, .getfield 38, 3), (20, .iload_n 1, 1), (21, .iload_n 2, 1), (22, .invokevirtual 202, 3), (25, .ifCond .eq 5, 3), (28, .iconst (-1), 1), (29, .ireturn, 1), (30, .aload_n 0, 1), (31, .getfield 55, 3), (34, .aload_n 0, 1), (35, .getfield 38, 3), (38, .iload_n 1, 1), (39, .iconst (-1), 1), (40, .invokevirtual 194, 3), (43, .aload_n 0, 1), (44, .getfield 38, 3), (47, .iload_n 1, 1), (48, .aload_n 0, 1), (49, .getfield 38, 3), (52, .iload_n 1, 1), (53, .invokevirtual 171, 3), (56, .iconst 1, 1), (57, .iload_n 2, 1), (58, .ishl, 1), (59, .ior, 1), (60, .invokevirtual 205, 3), (63, .aload_n 0, 1), (64, .getfield 38, 3), (67, .iload_n 1, 1), (68, .invokevirtual 171, 3), (71, .invokestatic 208, 3), (74, .ireturn, 1)]
theorem dt_X9_take : dOk cX9_take tb_X9_take = true := by decide +kernel
def fX9_take (h : Hp) (x1 : Int32) (x2 : Int32) : Option (Int32 × Hp) := bnd (fX9_isMember h x1) (fun v_1 h_2 => if v_1 = 0 then (some ((-1 : Int32), h_2)) else (bnd (fX9_isClaim h_2 x2) (fun v_4 h_5 => if v_4 = 0 then (some ((-1 : Int32), h_5)) else (bnd (fX8_holdsClaim 72 h_5 x1 x2) (fun v_7 h_8 => if v_7 = 0 then ((fX4_record 72 h_8 x1 (-1 : Int32)).bind (fun h_11 => bnd (fX8_holdsOf 72 h_11 x1) (fun v_12 h_13 => (fX8_setHolds 72 h_13 x1 (v_12 ||| ((1 : Int32) <<< (x2 &&& 31)))).bind (fun h_15 => bnd (fX8_holdsOf 72 h_15 x1) (fun v_16 h_17 => bnd (fJ6_bitCount_0f7a4 h_17 v_16) (fun v_18 h_19 => some (v_18, h_19))))))) else (some ((-1 : Int32), h_8)))))))
set_option maxRecDepth 100000 in
set_option maxHeartbeats 4000000 in
theorem c_X9_take {l : Launch} {sb : State} {D : va_G} {ids : Nat → ClassId} {n : Nat} (hN : 152 ≤ n) (h : Hp) (x1 : Int32) (x2 : Int32) (r : Int32 × Hp) (hr : fX9_take h x1 x2 = some r) : jM l yX9_take cX9_take 3 (some .int) 2 sb D ids shp St n [.ref 0, .int x1, .int x2] h (jQi sb D ids shp St n r) := by
  refine jM_of hr rfl (Nat.le_of_ble_eq_true rfl) ?_
  intro p e s m args below meth c hC hret
  unfold fX9_take
  refine j_aload_n hC 0 rfl rfl (dOk_at dt_X9_take 0 rfl) ?_
  refine j_iload_n hC 1 rfl rfl (dOk_at dt_X9_take 1 rfl) ?_
  refine j_callVi hC clX9_168 (fun r0 hr0 => c_X9_isMember hN _ _ r0 hr0) (show shp 0 = (9, 12) from rfl) (Nat.lt_of_lt_of_le (Nat.le_of_ble_eq_true rfl : 0 < 152) hN) (by decide) rfl rfl ⟨Nat.le_of_ble_eq_true rfl, Nat.le_of_ble_eq_true rfl⟩ ⟨Nat.le_refl 0, Nat.le_refl 0⟩ (As := [.int x1]) (st := []) rfl (Nat.le_of_ble_eq_true rfl) (dOk_at dt_X9_take 2 rfl) (fun v_1 h_2 _ => ?_)
  refine j_if_eq hC (tgt := 28) (by decide) (dOk_at dt_X9_take 3 rfl) (fun q_3 => ?_) (fun q_3 => ?_)
  · refine j_iconst hC (v := (-1 : Int32)) rfl (dOk_at dt_X9_take 14 rfl) ?_
    exact j_iret hC hret (dOk_at dt_X9_take 15 rfl)
  · refine j_aload_n hC 0 rfl rfl (dOk_at dt_X9_take 4 rfl) ?_
    refine j_iload_n hC 2 rfl rfl (dOk_at dt_X9_take 5 rfl) ?_
    refine j_callVi hC clX9_128 (fun r0 hr0 => c_X9_isClaim hN _ _ r0 hr0) (show shp 0 = (9, 12) from rfl) (Nat.lt_of_lt_of_le (Nat.le_of_ble_eq_true rfl : 0 < 152) hN) (by decide) rfl rfl ⟨Nat.le_of_ble_eq_true rfl, Nat.le_of_ble_eq_true rfl⟩ ⟨Nat.le_refl 0, Nat.le_refl 0⟩ (As := [.int x2]) (st := []) rfl (Nat.le_of_ble_eq_true rfl) (dOk_at dt_X9_take 6 rfl) (fun v_4 h_5 _ => ?_)
    refine j_if_eq hC (tgt := 28) (by decide) (dOk_at dt_X9_take 7 rfl) (fun q_6 => ?_) (fun q_6 => ?_)
    · refine j_iconst hC (v := (-1 : Int32)) rfl (dOk_at dt_X9_take 14 rfl) ?_
      exact j_iret hC hret (dOk_at dt_X9_take 15 rfl)
    · refine j_aload_n hC 0 rfl rfl (dOk_at dt_X9_take 8 rfl) ?_
      refine j_getR hC flX9_38 (show shp 0 = (9, 12) from rfl) (Nat.lt_of_lt_of_le (Nat.le_of_ble_eq_true rfl : 0 < 152) hN) (by decide) (by decide) (fun _ _ _ => rfl) (fun hs => hs 0 5 72 rfl) (dOk_at dt_X9_take 9 rfl) ?_
      refine j_iload_n hC 1 rfl rfl (dOk_at dt_X9_take 10 rfl) ?_
      refine j_iload_n hC 2 rfl rfl (dOk_at dt_X9_take 11 rfl) ?_
      refine j_callVi hC clX9_202 (fun r0 hr0 => c_X8_holdsClaim hN ((show shp 72 = (8, 15) from rfl)) _ _ _ r0 hr0) (show shp 72 = (8, 15) from rfl) (Nat.lt_of_lt_of_le (Nat.le_of_ble_eq_true rfl : 72 < 152) hN) (by decide) rfl rfl ⟨Nat.le_of_ble_eq_true rfl, Nat.le_of_ble_eq_true rfl⟩ ⟨Nat.le_refl 0, Nat.le_refl 0⟩ (As := [.int x1, .int x2]) (st := []) rfl (Nat.le_of_ble_eq_true rfl) (dOk_at dt_X9_take 12 rfl) (fun v_7 h_8 _ => ?_)
      refine j_if_eq hC (tgt := 30) (by decide) (dOk_at dt_X9_take 13 rfl) (fun q_9 => ?_) (fun q_9 => ?_)
      · refine j_aload_n hC 0 rfl rfl (dOk_at dt_X9_take 16 rfl) ?_
        refine j_getR hC flX9_55 (show shp 0 = (9, 12) from rfl) (Nat.lt_of_lt_of_le (Nat.le_of_ble_eq_true rfl : 0 < 152) hN) (by decide) (by decide) (fun _ _ _ => rfl) (fun hs => hs 0 9 90 rfl) (dOk_at dt_X9_take 17 rfl) ?_
        refine j_aload_n hC 0 rfl rfl (dOk_at dt_X9_take 18 rfl) ?_
        refine j_getR hC flX9_38 (show shp 0 = (9, 12) from rfl) (Nat.lt_of_lt_of_le (Nat.le_of_ble_eq_true rfl : 0 < 152) hN) (by decide) (by decide) (fun _ _ _ => rfl) (fun hs => hs 0 5 72 rfl) (dOk_at dt_X9_take 19 rfl) ?_
        refine j_iload_n hC 1 rfl rfl (dOk_at dt_X9_take 20 rfl) ?_
        refine j_iconst hC (v := (-1 : Int32)) rfl (dOk_at dt_X9_take 21 rfl) ?_
        refine j_callVv hC clX9_194 (fun r0 hr0 => c_X4_record hN ((show shp 72 = (8, 15) from rfl)) _ _ _ r0 hr0) (show shp 90 = (4, 8) from rfl) (Nat.lt_of_lt_of_le (Nat.le_of_ble_eq_true rfl : 90 < 152) hN) (by decide) rfl rfl ⟨Nat.le_of_ble_eq_true rfl, Nat.le_of_ble_eq_true rfl⟩ ⟨Nat.le_refl 0, Nat.le_refl 0⟩ (As := [.ref 72, .int x1, .int (-1 : Int32)]) (st := []) rfl (Nat.le_of_ble_eq_true rfl) (dOk_at dt_X9_take 22 rfl) (fun h_11 _ => ?_)
        refine j_aload_n hC 0 rfl rfl (dOk_at dt_X9_take 23 rfl) ?_
        refine j_getR hC flX9_38 (show shp 0 = (9, 12) from rfl) (Nat.lt_of_lt_of_le (Nat.le_of_ble_eq_true rfl : 0 < 152) hN) (by decide) (by decide) (fun _ _ _ => rfl) (fun hs => hs 0 5 72 rfl) (dOk_at dt_X9_take 24 rfl) ?_
        refine j_iload_n hC 1 rfl rfl (dOk_at dt_X9_take 25 rfl) ?_
        refine j_aload_n hC 0 rfl rfl (dOk_at dt_X9_take 26 rfl) ?_
        refine j_getR hC flX9_38 (show shp 0 = (9, 12) from rfl) (Nat.lt_of_lt_of_le (Nat.le_of_ble_eq_true rfl : 0 < 152) hN) (by decide) (by decide) (fun _ _ _ => rfl) (fun hs => hs 0 5 72 rfl) (dOk_at dt_X9_take 27 rfl) ?_
        refine j_iload_n hC 1 rfl rfl (dOk_at dt_X9_take 28 rfl) ?_
        refine j_callVi hC clX9_171 (fun r0 hr0 => c_X8_holdsOf hN ((show shp 72 = (8, 15) from rfl)) _ _ r0 hr0) (show shp 72 = (8, 15) from rfl) (Nat.lt_of_lt_of_le (Nat.le_of_ble_eq_true rfl : 72 < 152) hN) (by decide) rfl rfl ⟨Nat.le_of_ble_eq_true rfl, Nat.le_of_ble_eq_true rfl⟩ ⟨Nat.le_refl 0, Nat.le_refl 0⟩ (As := [.int x1]) (st := [.int x1, .ref 72]) rfl (Nat.le_of_ble_eq_true rfl) (dOk_at dt_X9_take 29 rfl) (fun v_12 h_13 _ => ?_)
        refine j_iconst hC (v := (1 : Int32)) rfl (dOk_at dt_X9_take 30 rfl) ?_
        refine j_iload_n hC 2 rfl rfl (dOk_at dt_X9_take 31 rfl) ?_
        refine j_ishl hC (dOk_at dt_X9_take 32 rfl) ?_
        refine j_ior hC (dOk_at dt_X9_take 33 rfl) ?_
        refine j_callVv hC clX9_205 (fun r0 hr0 => c_X8_setHolds hN ((show shp 72 = (8, 15) from rfl)) _ _ _ r0 hr0) (show shp 72 = (8, 15) from rfl) (Nat.lt_of_lt_of_le (Nat.le_of_ble_eq_true rfl : 72 < 152) hN) (by decide) rfl rfl ⟨Nat.le_of_ble_eq_true rfl, Nat.le_of_ble_eq_true rfl⟩ ⟨Nat.le_refl 0, Nat.le_refl 0⟩ (As := [.int x1, .int (v_12 ||| ((1 : Int32) <<< (x2 &&& 31)))]) (st := []) rfl (Nat.le_of_ble_eq_true rfl) (dOk_at dt_X9_take 34 rfl) (fun h_15 _ => ?_)
        refine j_aload_n hC 0 rfl rfl (dOk_at dt_X9_take 35 rfl) ?_
        refine j_getR hC flX9_38 (show shp 0 = (9, 12) from rfl) (Nat.lt_of_lt_of_le (Nat.le_of_ble_eq_true rfl : 0 < 152) hN) (by decide) (by decide) (fun _ _ _ => rfl) (fun hs => hs 0 5 72 rfl) (dOk_at dt_X9_take 36 rfl) ?_
        refine j_iload_n hC 1 rfl rfl (dOk_at dt_X9_take 37 rfl) ?_
        refine j_callVi hC clX9_171 (fun r0 hr0 => c_X8_holdsOf hN ((show shp 72 = (8, 15) from rfl)) _ _ r0 hr0) (show shp 72 = (8, 15) from rfl) (Nat.lt_of_lt_of_le (Nat.le_of_ble_eq_true rfl : 72 < 152) hN) (by decide) rfl rfl ⟨Nat.le_of_ble_eq_true rfl, Nat.le_of_ble_eq_true rfl⟩ ⟨Nat.le_refl 0, Nat.le_refl 0⟩ (As := [.int x1]) (st := []) rfl (Nat.le_of_ble_eq_true rfl) (dOk_at dt_X9_take 38 rfl) (fun v_16 h_17 _ => ?_)
        refine j_callSi hC clX9_208 (fun r0 hr0 => c_J6_bitCount_0f7a4 hN _ _ r0 hr0) rfl ⟨Nat.le_of_ble_eq_true rfl, Nat.le_of_ble_eq_true rfl⟩ ⟨Nat.le_refl 0, Nat.le_refl 0⟩ (As := [.int v_16]) (st := []) rfl (Nat.le_of_ble_eq_true rfl) (dOk_at dt_X9_take 39 rfl) (fun v_18 h_19 _ => ?_)
        exact j_iret hC hret (dOk_at dt_X9_take 40 rfl)
      · refine j_iconst hC (v := (-1 : Int32)) rfl (dOk_at dt_X9_take 14 rfl) ?_
        exact j_iret hC hret (dOk_at dt_X9_take 15 rfl)
def tb_X9_drop : List (Nat × Instr × Nat) := [(0, .aload_n 0, 1), (1, .iload_n 1, 1), (2, .invokevirtual 168, 3), (5, .ifCond .eq 23, 3), (8, .aload_n 0, 1), (9, .iload_n 2, 1), (10, .invokevirtual 128, 3), (13, .ifCond .eq 15, 3), (16, .aload_n 0, 1), (17, .getfield 38, 3), (20, .iload_n 1, 1), (21, .iload_n 2, 1), (22, .invokevirtual 202, 3), (25, .ifCond .ne 5, 3), (28, .iconst 0, 1), (29, .ireturn, 1), (30, .aload_n 0, 1), (31, .getfield 55, 3), (34, .aload_n 0, 1), (35, .getfield 38, 3), (38, .iload_n 1, 1), (39, .iconst (-1), 1), (40, .invokevirtual 194, 3), (43, .aload_n 0, 1), (44, .getfield 38, 3), (47, .iload_n 1, 1), (48, .aload_n 0, 1), (49, .getfield 38, 3), (52, .iload_n 1, 1), (53, .invokevirtual 171, 3), (56, .iconst 1, 1), (57, .iload_n 2, 1), (58, .ishl, 1), (59, .iconst (-1), 1), (60, .ixor, 1), (61, .iand, 1), (62, .invokevirtual 205, 3), (65, .iconst 1, 1), (66, .ireturn, 1)]
theorem dt_X9_drop : dOk cX9_drop tb_X9_drop = true := by decide +kernel
def fX9_drop (h : Hp) (x1 : Int32) (x2 : Int32) : Option (Int32 × Hp) := bnd (fX9_isMember h x1) (fun v_1 h_2 => if v_1 = 0 then (some ((0 : Int32), h_2)) else (bnd (fX9_isClaim h_2 x2) (fun v_4 h_5 => if v_4 = 0 then (some ((0 : Int32), h_5)) else (bnd (fX8_holdsClaim 72 h_5 x1 x2) (fun v_7 h_8 => if v_7 = 0 then (some ((0 : Int32), h_8)) else ((fX4_record 72 h_8 x1 (-1 : Int32)).bind (fun h_11 => bnd (fX8_holdsOf 72 h_11 x1) (fun v_12 h_13 => (fX8_setHolds 72 h_13 x1 (v_12 &&& (((1 : Int32) <<< (x2 &&& 31)) ^^^ (-1 : Int32)))).bind (fun h_15 => some ((1 : Int32), h_15))))))))))
set_option maxRecDepth 100000 in
set_option maxHeartbeats 4000000 in
theorem c_X9_drop {l : Launch} {sb : State} {D : va_G} {ids : Nat → ClassId} {n : Nat} (hN : 152 ≤ n) (h : Hp) (x1 : Int32) (x2 : Int32) (r : Int32 × Hp) (hr : fX9_drop h x1 x2 = some r) : jM l yX9_drop cX9_drop 3 (some .boolean) 2 sb D ids shp St n [.ref 0, .int x1, .int x2] h (jQi sb D ids shp St n r) := by
  refine jM_of hr rfl (Nat.le_of_ble_eq_true rfl) ?_
  intro p e s m args below meth c hC hret
  unfold fX9_drop
  refine j_aload_n hC 0 rfl rfl (dOk_at dt_X9_drop 0 rfl) ?_
  refine j_iload_n hC 1 rfl rfl (dOk_at dt_X9_drop 1 rfl) ?_
  refine j_callVi hC clX9_168 (fun r0 hr0 => c_X9_isMember hN _ _ r0 hr0) (show shp 0 = (9, 12) from rfl) (Nat.lt_of_lt_of_le (Nat.le_of_ble_eq_true rfl : 0 < 152) hN) (by decide) rfl rfl ⟨Nat.le_of_ble_eq_true rfl, Nat.le_of_ble_eq_true rfl⟩ ⟨Nat.le_refl 0, Nat.le_refl 0⟩ (As := [.int x1]) (st := []) rfl (Nat.le_of_ble_eq_true rfl) (dOk_at dt_X9_drop 2 rfl) (fun v_1 h_2 _ => ?_)
  refine j_if_eq hC (tgt := 28) (by decide) (dOk_at dt_X9_drop 3 rfl) (fun q_3 => ?_) (fun q_3 => ?_)
  · refine j_iconst hC (v := (0 : Int32)) rfl (dOk_at dt_X9_drop 14 rfl) ?_
    exact j_zretK hC hret rfl (dOk_at dt_X9_drop 15 rfl)
  · refine j_aload_n hC 0 rfl rfl (dOk_at dt_X9_drop 4 rfl) ?_
    refine j_iload_n hC 2 rfl rfl (dOk_at dt_X9_drop 5 rfl) ?_
    refine j_callVi hC clX9_128 (fun r0 hr0 => c_X9_isClaim hN _ _ r0 hr0) (show shp 0 = (9, 12) from rfl) (Nat.lt_of_lt_of_le (Nat.le_of_ble_eq_true rfl : 0 < 152) hN) (by decide) rfl rfl ⟨Nat.le_of_ble_eq_true rfl, Nat.le_of_ble_eq_true rfl⟩ ⟨Nat.le_refl 0, Nat.le_refl 0⟩ (As := [.int x2]) (st := []) rfl (Nat.le_of_ble_eq_true rfl) (dOk_at dt_X9_drop 6 rfl) (fun v_4 h_5 _ => ?_)
    refine j_if_eq hC (tgt := 28) (by decide) (dOk_at dt_X9_drop 7 rfl) (fun q_6 => ?_) (fun q_6 => ?_)
    · refine j_iconst hC (v := (0 : Int32)) rfl (dOk_at dt_X9_drop 14 rfl) ?_
      exact j_zretK hC hret rfl (dOk_at dt_X9_drop 15 rfl)
    · refine j_aload_n hC 0 rfl rfl (dOk_at dt_X9_drop 8 rfl) ?_
      refine j_getR hC flX9_38 (show shp 0 = (9, 12) from rfl) (Nat.lt_of_lt_of_le (Nat.le_of_ble_eq_true rfl : 0 < 152) hN) (by decide) (by decide) (fun _ _ _ => rfl) (fun hs => hs 0 5 72 rfl) (dOk_at dt_X9_drop 9 rfl) ?_
      refine j_iload_n hC 1 rfl rfl (dOk_at dt_X9_drop 10 rfl) ?_
      refine j_iload_n hC 2 rfl rfl (dOk_at dt_X9_drop 11 rfl) ?_
      refine j_callVi hC clX9_202 (fun r0 hr0 => c_X8_holdsClaim hN ((show shp 72 = (8, 15) from rfl)) _ _ _ r0 hr0) (show shp 72 = (8, 15) from rfl) (Nat.lt_of_lt_of_le (Nat.le_of_ble_eq_true rfl : 72 < 152) hN) (by decide) rfl rfl ⟨Nat.le_of_ble_eq_true rfl, Nat.le_of_ble_eq_true rfl⟩ ⟨Nat.le_refl 0, Nat.le_refl 0⟩ (As := [.int x1, .int x2]) (st := []) rfl (Nat.le_of_ble_eq_true rfl) (dOk_at dt_X9_drop 12 rfl) (fun v_7 h_8 _ => ?_)
      refine j_if_ne hC (tgt := 30) (by decide) (dOk_at dt_X9_drop 13 rfl) (fun q_9 => ?_) (fun q_9 => ?_)
      · refine j_aload_n hC 0 rfl rfl (dOk_at dt_X9_drop 16 rfl) ?_
        refine j_getR hC flX9_55 (show shp 0 = (9, 12) from rfl) (Nat.lt_of_lt_of_le (Nat.le_of_ble_eq_true rfl : 0 < 152) hN) (by decide) (by decide) (fun _ _ _ => rfl) (fun hs => hs 0 9 90 rfl) (dOk_at dt_X9_drop 17 rfl) ?_
        refine j_aload_n hC 0 rfl rfl (dOk_at dt_X9_drop 18 rfl) ?_
        refine j_getR hC flX9_38 (show shp 0 = (9, 12) from rfl) (Nat.lt_of_lt_of_le (Nat.le_of_ble_eq_true rfl : 0 < 152) hN) (by decide) (by decide) (fun _ _ _ => rfl) (fun hs => hs 0 5 72 rfl) (dOk_at dt_X9_drop 19 rfl) ?_
        refine j_iload_n hC 1 rfl rfl (dOk_at dt_X9_drop 20 rfl) ?_
        refine j_iconst hC (v := (-1 : Int32)) rfl (dOk_at dt_X9_drop 21 rfl) ?_
        refine j_callVv hC clX9_194 (fun r0 hr0 => c_X4_record hN ((show shp 72 = (8, 15) from rfl)) _ _ _ r0 hr0) (show shp 90 = (4, 8) from rfl) (Nat.lt_of_lt_of_le (Nat.le_of_ble_eq_true rfl : 90 < 152) hN) (by decide) rfl rfl ⟨Nat.le_of_ble_eq_true rfl, Nat.le_of_ble_eq_true rfl⟩ ⟨Nat.le_refl 0, Nat.le_refl 0⟩ (As := [.ref 72, .int x1, .int (-1 : Int32)]) (st := []) rfl (Nat.le_of_ble_eq_true rfl) (dOk_at dt_X9_drop 22 rfl) (fun h_11 _ => ?_)
        refine j_aload_n hC 0 rfl rfl (dOk_at dt_X9_drop 23 rfl) ?_
        refine j_getR hC flX9_38 (show shp 0 = (9, 12) from rfl) (Nat.lt_of_lt_of_le (Nat.le_of_ble_eq_true rfl : 0 < 152) hN) (by decide) (by decide) (fun _ _ _ => rfl) (fun hs => hs 0 5 72 rfl) (dOk_at dt_X9_drop 24 rfl) ?_
        refine j_iload_n hC 1 rfl rfl (dOk_at dt_X9_drop 25 rfl) ?_
        refine j_aload_n hC 0 rfl rfl (dOk_at dt_X9_drop 26 rfl) ?_
        refine j_getR hC flX9_38 (show shp 0 = (9, 12) from rfl) (Nat.lt_of_lt_of_le (Nat.le_of_ble_eq_true rfl : 0 < 152) hN) (by decide) (by decide) (fun _ _ _ => rfl) (fun hs => hs 0 5 72 rfl) (dOk_at dt_X9_drop 27 rfl) ?_
        refine j_iload_n hC 1 rfl rfl (dOk_at dt_X9_drop 28 rfl) ?_
        refine j_callVi hC clX9_171 (fun r0 hr0 => c_X8_holdsOf hN ((show shp 72 = (8, 15) from rfl)) _ _ r0 hr0) (show shp 72 = (8, 15) from rfl) (Nat.lt_of_lt_of_le (Nat.le_of_ble_eq_true rfl : 72 < 152) hN) (by decide) rfl rfl ⟨Nat.le_of_ble_eq_true rfl, Nat.le_of_ble_eq_true rfl⟩ ⟨Nat.le_refl 0, Nat.le_refl 0⟩ (As := [.int x1]) (st := [.int x1, .ref 72]) rfl (Nat.le_of_ble_eq_true rfl) (dOk_at dt_X9_drop 29 rfl) (fun v_12 h_13 _ => ?_)
        refine j_iconst hC (v := (1 : Int32)) rfl (dOk_at dt_X9_drop 30 rfl) ?_
        refine j_iload_n hC 2 rfl rfl (dOk_at dt_X9_drop 31 rfl) ?_
        refine j_ishl hC (dOk_at dt_X9_drop 32 rfl) ?_
        refine j_iconst hC (v := (-1 : Int32)) rfl (dOk_at dt_X9_drop 33 rfl) ?_
        refine j_ixor hC (dOk_at dt_X9_drop 34 rfl) ?_
        refine j_iand hC (dOk_at dt_X9_drop 35 rfl) ?_
        refine j_callVv hC clX9_205 (fun r0 hr0 => c_X8_setHolds hN ((show shp 72 = (8, 15) from rfl)) _ _ _ r0 hr0) (show shp 72 = (8, 15) from rfl) (Nat.lt_of_lt_of_le (Nat.le_of_ble_eq_true rfl : 72 < 152) hN) (by decide) rfl rfl ⟨Nat.le_of_ble_eq_true rfl, Nat.le_of_ble_eq_true rfl⟩ ⟨Nat.le_refl 0, Nat.le_refl 0⟩ (As := [.int x1, .int (v_12 &&& (((1 : Int32) <<< (x2 &&& 31)) ^^^ (-1 : Int32)))]) (st := []) rfl (Nat.le_of_ble_eq_true rfl) (dOk_at dt_X9_drop 36 rfl) (fun h_15 _ => ?_)
        refine j_iconst hC (v := (1 : Int32)) rfl (dOk_at dt_X9_drop 37 rfl) ?_
        exact j_zretK hC hret rfl (dOk_at dt_X9_drop 38 rfl)
      · refine j_iconst hC (v := (0 : Int32)) rfl (dOk_at dt_X9_drop 14 rfl) ?_
        exact j_zretK hC hret rfl (dOk_at dt_X9_drop 15 rfl)
def tb_X9_go : List (Nat × Instr × Nat) := [(0, .iload_n 1, 1), (1, .ifCond .lt 25, 3), (4, .iload_n 1, 1), (5, .sipush 200, 3), (8, .if_icmp .gt 18, 3), (11, .aload_n 0, 1), (12, .getfield 38, 3), (15, .getfield 213, 3), (18, .iload_n 1, 1), (19, .iadd, 1), (20, .sipush 9000, 3), (23, .if_icmp .le 5, 3), (26, .iconst (-1), 1), (27, .ireturn, 1), (28, .iload_n 1, 1), (29, .ifCond .le 10, 3), (32, .aload_n 0, 1), (33, .getfield 55, 3), (36, .invokevirtual 99, 3), (39, .aload_n 0, 1), (40, .getfield 38, 3), (43, .iload_n 1, 1), (44, .invokevirtual 216, 3), (47, .aload_n 0, 1), (48, .getfield 38, 3), (51, .getfield 213, 3), (54, .ireturn, 1)]
theorem dt_X9_go : dOk cX9_go tb_X9_go = true := by decide +kernel
def fX9_go_39 (h : Hp) (x1 : Int32) : Option (Int32 × Hp) := (fX8_passNights 72 h x1).bind (fun h_8 => some ((hI h_8 72 1), h_8))
def fX9_go (h : Hp) (x1 : Int32) : Option (Int32 × Hp) := if x1 < 0 then (some ((-1 : Int32), h)) else (if (200 : Int32) < x1 then (some ((-1 : Int32), h)) else (if ((hI h 72 1) + x1) ≤ (9000 : Int32) then (if x1 ≤ 0 then (fX9_go_39 h x1) else ((fX4_clear h).bind (fun h_6 => fX9_go_39 h_6 x1))) else (some ((-1 : Int32), h))))
set_option maxRecDepth 100000 in
set_option maxHeartbeats 4000000 in
theorem c_X9_go {l : Launch} {sb : State} {D : va_G} {ids : Nat → ClassId} {n : Nat} (hN : 152 ≤ n) (h : Hp) (x1 : Int32) (r : Int32 × Hp) (hr : fX9_go h x1 = some r) : jM l yX9_go cX9_go 2 (some .int) 7 sb D ids shp St n [.ref 0, .int x1] h (jQi sb D ids shp St n r) := by
  refine jM_of hr rfl (Nat.le_of_ble_eq_true rfl) ?_
  intro p e s m args below meth c hC hret
  have b39 : ∀ (h : Hp) (x1 : Int32) , jJ p l e (rmD 7) s m args below meth c 2 sb D ids shp St (fun r => MQ below (jQi sb D ids shp St n r) args s 0 0 (jA sb)) n 0 0 h 39 [(0, .ref 0), (1, .int x1)] [] (fX9_go_39 h x1) := by
    intro h x1 
    unfold fX9_go_39
    refine j_aload_n hC 0 rfl rfl (dOk_at dt_X9_go 19 rfl) ?_
    refine j_getR hC flX9_38 (show shp 0 = (9, 12) from rfl) (Nat.lt_of_lt_of_le (Nat.le_of_ble_eq_true rfl : 0 < 152) hN) (by decide) (by decide) (fun _ _ _ => rfl) (fun hs => hs 0 5 72 rfl) (dOk_at dt_X9_go 20 rfl) ?_
    refine j_iload_n hC 1 rfl rfl (dOk_at dt_X9_go 21 rfl) ?_
    refine j_callVv hC clX9_216 (fun r0 hr0 => c_X8_passNights hN ((show shp 72 = (8, 15) from rfl)) _ _ r0 hr0) (show shp 72 = (8, 15) from rfl) (Nat.lt_of_lt_of_le (Nat.le_of_ble_eq_true rfl : 72 < 152) hN) (by decide) rfl rfl ⟨Nat.le_of_ble_eq_true rfl, Nat.le_of_ble_eq_true rfl⟩ ⟨Nat.le_refl 0, Nat.le_refl 0⟩ (As := [.int x1]) (st := []) rfl (Nat.le_of_ble_eq_true rfl) (dOk_at dt_X9_go 22 rfl) (fun h_8 _ => ?_)
    refine j_aload_n hC 0 rfl rfl (dOk_at dt_X9_go 23 rfl) ?_
    refine j_getR hC flX9_38 (show shp 0 = (9, 12) from rfl) (Nat.lt_of_lt_of_le (Nat.le_of_ble_eq_true rfl : 0 < 152) hN) (by decide) (by decide) (fun _ _ _ => rfl) (fun hs => hs 0 5 72 rfl) (dOk_at dt_X9_go 24 rfl) ?_
    refine j_getI hC flX9_213 (show shp 72 = (8, 15) from rfl) (Nat.lt_of_lt_of_le (Nat.le_of_ble_eq_true rfl : 72 < 152) hN) (by decide) (by decide) (fun _ _ _ => rfl) (dOk_at dt_X9_go 25 rfl) ?_
    exact j_iret hC hret (dOk_at dt_X9_go 26 rfl)
  unfold fX9_go
  refine j_iload_n hC 1 rfl rfl (dOk_at dt_X9_go 0 rfl) ?_
  refine j_if_lt hC (tgt := 26) (by decide) (dOk_at dt_X9_go 1 rfl) (fun q_1 => ?_) (fun q_1 => ?_)
  · refine j_iconst hC (v := (-1 : Int32)) rfl (dOk_at dt_X9_go 12 rfl) ?_
    exact j_iret hC hret (dOk_at dt_X9_go 13 rfl)
  · refine j_iload_n hC 1 rfl rfl (dOk_at dt_X9_go 2 rfl) ?_
    refine j_sipush hC (v := (200 : Int32)) rfl (dOk_at dt_X9_go 3 rfl) ?_
    refine j_icmp_gt hC (tgt := 26) (by decide) (dOk_at dt_X9_go 4 rfl) (fun q_2 => ?_) (fun q_2 => ?_)
    · refine j_iconst hC (v := (-1 : Int32)) rfl (dOk_at dt_X9_go 12 rfl) ?_
      exact j_iret hC hret (dOk_at dt_X9_go 13 rfl)
    · refine j_aload_n hC 0 rfl rfl (dOk_at dt_X9_go 5 rfl) ?_
      refine j_getR hC flX9_38 (show shp 0 = (9, 12) from rfl) (Nat.lt_of_lt_of_le (Nat.le_of_ble_eq_true rfl : 0 < 152) hN) (by decide) (by decide) (fun _ _ _ => rfl) (fun hs => hs 0 5 72 rfl) (dOk_at dt_X9_go 6 rfl) ?_
      refine j_getI hC flX9_213 (show shp 72 = (8, 15) from rfl) (Nat.lt_of_lt_of_le (Nat.le_of_ble_eq_true rfl : 72 < 152) hN) (by decide) (by decide) (fun _ _ _ => rfl) (dOk_at dt_X9_go 7 rfl) ?_
      refine j_iload_n hC 1 rfl rfl (dOk_at dt_X9_go 8 rfl) ?_
      refine j_iadd hC (dOk_at dt_X9_go 9 rfl) ?_
      refine j_sipush hC (v := (9000 : Int32)) rfl (dOk_at dt_X9_go 10 rfl) ?_
      refine j_icmp_le hC (tgt := 28) (by decide) (dOk_at dt_X9_go 11 rfl) (fun q_3 => ?_) (fun q_3 => ?_)
      · refine j_iload_n hC 1 rfl rfl (dOk_at dt_X9_go 14 rfl) ?_
        refine j_if_le hC (tgt := 39) (by decide) (dOk_at dt_X9_go 15 rfl) (fun q_4 => ?_) (fun q_4 => ?_)
        · exact b39 h x1 
        · refine j_aload_n hC 0 rfl rfl (dOk_at dt_X9_go 16 rfl) ?_
          refine j_getR hC flX9_55 (show shp 0 = (9, 12) from rfl) (Nat.lt_of_lt_of_le (Nat.le_of_ble_eq_true rfl : 0 < 152) hN) (by decide) (by decide) (fun _ _ _ => rfl) (fun hs => hs 0 9 90 rfl) (dOk_at dt_X9_go 17 rfl) ?_
          refine j_callVv hC clX9_99 (fun r0 hr0 => c_X4_clear hN _ r0 hr0) (show shp 90 = (4, 8) from rfl) (Nat.lt_of_lt_of_le (Nat.le_of_ble_eq_true rfl : 90 < 152) hN) (by decide) rfl rfl ⟨Nat.le_of_ble_eq_true rfl, Nat.le_of_ble_eq_true rfl⟩ ⟨Nat.le_refl 0, Nat.le_refl 0⟩ (As := []) (st := []) rfl (Nat.le_of_ble_eq_true rfl) (dOk_at dt_X9_go 18 rfl) (fun h_6 _ => ?_)
          exact b39 h_6 x1 
      · refine j_iconst hC (v := (-1 : Int32)) rfl (dOk_at dt_X9_go 12 rfl) ?_
        exact j_iret hC hret (dOk_at dt_X9_go 13 rfl)
def tb_X9_startTrial : List (Nat × Instr × Nat) := [(0, .aload_n 0, 1), (1, .getfield 45, 3), (4, .aload_n 0, 1), (5, .getfield 38, 3), (8, .invokevirtual 330, 3), (11, .aload_n 0, 1), (12, .getfield 45, 3), (15, .iconst 0, 1), (16, .putfield 362, 3), (19, .return_, 1)]
theorem dt_X9_startTrial : dOk cX9_startTrial tb_X9_startTrial = true := by decide +kernel
def fX9_startTrial (h : Hp) : Option (Hp) := (fX8_copyFrom 84 72 h).bind (fun h_2 => some (uI h_2 84 10 (0 : Int32)))
set_option maxRecDepth 100000 in
set_option maxHeartbeats 4000000 in
theorem c_X9_startTrial {l : Launch} {sb : State} {D : va_G} {ids : Nat → ClassId} {n : Nat} (hN : 152 ≤ n) (h : Hp) (r : Hp) (hr : fX9_startTrial h = some r) : jM l yX9_startTrial cX9_startTrial 1 none 2 sb D ids shp St n [.ref 0] h (jQv sb D ids shp St n r) := by
  refine jM_of hr rfl (Nat.le_of_ble_eq_true rfl) ?_
  intro p e s m args below meth c hC hret
  unfold fX9_startTrial
  refine j_aload_n hC 0 rfl rfl (dOk_at dt_X9_startTrial 0 rfl) ?_
  refine j_getR hC flX9_45 (show shp 0 = (9, 12) from rfl) (Nat.lt_of_lt_of_le (Nat.le_of_ble_eq_true rfl : 0 < 152) hN) (by decide) (by decide) (fun _ _ _ => rfl) (fun hs => hs 0 7 84 rfl) (dOk_at dt_X9_startTrial 1 rfl) ?_
  refine j_aload_n hC 0 rfl rfl (dOk_at dt_X9_startTrial 2 rfl) ?_
  refine j_getR hC flX9_38 (show shp 0 = (9, 12) from rfl) (Nat.lt_of_lt_of_le (Nat.le_of_ble_eq_true rfl : 0 < 152) hN) (by decide) (by decide) (fun _ _ _ => rfl) (fun hs => hs 0 5 72 rfl) (dOk_at dt_X9_startTrial 3 rfl) ?_
  refine j_callVv hC clX9_330 (fun r0 hr0 => c_X8_copyFrom hN ((show shp 84 = (8, 15) from rfl)) ((show shp 72 = (8, 15) from rfl)) _ r0 hr0) (show shp 84 = (8, 15) from rfl) (Nat.lt_of_lt_of_le (Nat.le_of_ble_eq_true rfl : 84 < 152) hN) (by decide) rfl rfl ⟨Nat.le_of_ble_eq_true rfl, Nat.le_of_ble_eq_true rfl⟩ ⟨Nat.le_refl 0, Nat.le_refl 0⟩ (As := [.ref 72]) (st := []) rfl (Nat.le_of_ble_eq_true rfl) (dOk_at dt_X9_startTrial 4 rfl) (fun h_2 _ => ?_)
  refine j_aload_n hC 0 rfl rfl (dOk_at dt_X9_startTrial 5 rfl) ?_
  refine j_getR hC flX9_45 (show shp 0 = (9, 12) from rfl) (Nat.lt_of_lt_of_le (Nat.le_of_ble_eq_true rfl : 0 < 152) hN) (by decide) (by decide) (fun _ _ _ => rfl) (fun hs => hs 0 7 84 rfl) (dOk_at dt_X9_startTrial 6 rfl) ?_
  refine j_iconst hC (v := (0 : Int32)) rfl (dOk_at dt_X9_startTrial 7 rfl) ?_
  refine j_putZ hC St_SP flX9_362 (show shp 84 = (8, 15) from rfl) (Nat.lt_of_lt_of_le (Nat.le_of_ble_eq_true rfl : 84 < 152) hN) (by decide) (by decide) rfl rfl rfl (dOk_at dt_X9_startTrial 8 rfl) ?_
  exact j_vret hC hret (dOk_at dt_X9_startTrial 9 rfl)
def tb_X9_ahead : List (Nat × Instr × Nat) := [(0, .iload_n 1, 1), (1, .ifCond .lt 32, 3), (4, .iload_n 1, 1), (5, .sipush 200, 3), (8, .if_icmp .gt 25, 3), (11, .iload_n 2, 1), (12, .ifCond .lt 21, 3), (15, .iload_n 2, 1), (16, .iconst 4, 1), (17, .if_icmp .gt 16, 3), (20, .iload_n 2, 1), (21, .iconst 2, 1), (22, .if_icmp .ne 13, 3), (25, .aload_n 0, 1), (26, .iload_n 3, 1), (27, .invokevirtual 156, 3), (30, .ifCond .ne 5, 3), (33, .iconst (-1), 1), (34, .ireturn, 1), (35, .aload_n 0, 1), (36, .invokevirtual 219, 3), (39, .aload_n 0, 1), (40, .getfield 45, 3), (43, .iload_n 1, 1), (44, .invokevirtual 216, 3), (47, .iload_n 2, 1), (48, .tableswitch 84 0 3 #[32, 48, 64, 73], 32), (80, .aload_n 0, 1), (81, .getfield 45, 3), (84, .invokevirtual 222, 3), (87, .aload_n 0, 1), (88, .getfield 38, 3), (91, .invokevirtual 222, 3), (94, .isub, 1), (95, .ireturn, 1), (96, .aload_n 0, 1), (97, .getfield 45, 3), (100, .invokevirtual 226, 3), (103, .aload_n 0, 1), (104, .getfield 38, 3), (107, .invokevirtual 226, 3), (110, .isub, 1), (111, .ireturn, 1), (112, .aload_n 0, 1), (113, .getfield 45, 3), (116, .iload_n 3, 1), (117, .invokevirtual 162, 3), (120, .ireturn, 1), (121, .aload_n 0, 1), (122, .getfield 45, 3), (125, .getfield 229, 3), (128, .invokestatic 208, 3), (131, .ireturn, 1), (132, .aload_n 0, 1), (133, .getfield 45, 3), (136, .getfield 232, 3), (139, .aload_n 0, 1), (140, .getfield 38, 3), (143, .getfield 232, 3), (146, .isub, 1), (147, .ireturn, 1)]
theorem dt_X9_ahead : dOk cX9_ahead tb_X9_ahead = true := by decide +kernel
def fX9_ahead_35 (h : Hp) (x1 : Int32) (x2 : Int32) (x3 : Int32) : Option (Int32 × Hp) := (fX9_startTrial h).bind (fun h_10 => (fX8_passNights 84 h_10 x1).bind (fun h_12 => if inT x2 0 3 then (if x2 = (0 : Int32) then (bnd (fX8_wonByAll 84 h_12) (fun v_14 h_15 => bnd (fX8_wonByAll 72 h_15) (fun v_16 h_17 => some ((v_14 - v_16), h_17)))) else (if x2 = (1 : Int32) then (bnd (fX8_beatenByAll 84 h_12) (fun v_19 h_20 => bnd (fX8_beatenByAll 72 h_20) (fun v_21 h_22 => some ((v_19 - v_21), h_22)))) else (if x2 = (2 : Int32) then (bnd (fX8_fullOf 84 h_12 x3) (fun v_24 h_25 => some (v_24, h_25))) else (if x2 = (3 : Int32) then (bnd (fJ6_bitCount_0f7a4 h_12 (hI h_12 84 2)) (fun v_27 h_28 => some (v_27, h_28))) else none)))) else (some (((hI h_12 84 3) - (hI h_12 72 3)), h_12))))
def fX9_ahead (h : Hp) (x1 : Int32) (x2 : Int32) (x3 : Int32) : Option (Int32 × Hp) := if x1 < 0 then (some ((-1 : Int32), h)) else (if (200 : Int32) < x1 then (some ((-1 : Int32), h)) else (if x2 < 0 then (some ((-1 : Int32), h)) else (if (4 : Int32) < x2 then (some ((-1 : Int32), h)) else (if x2 = (2 : Int32) then (bnd (fX9_isStraw h x3) (fun v_6 h_7 => if v_6 = 0 then (some ((-1 : Int32), h_7)) else (fX9_ahead_35 h_7 x1 x2 x3))) else (fX9_ahead_35 h x1 x2 x3)))))
set_option maxRecDepth 100000 in
set_option maxHeartbeats 4000000 in
theorem c_X9_ahead {l : Launch} {sb : State} {D : va_G} {ids : Nat → ClassId} {n : Nat} (hN : 152 ≤ n) (h : Hp) (x1 : Int32) (x2 : Int32) (x3 : Int32) (r : Int32 × Hp) (hr : fX9_ahead h x1 x2 x3 = some r) : jM l yX9_ahead cX9_ahead 4 (some .int) 7 sb D ids shp St n [.ref 0, .int x1, .int x2, .int x3] h (jQi sb D ids shp St n r) := by
  refine jM_of hr rfl (Nat.le_of_ble_eq_true rfl) ?_
  intro p e s m args below meth c hC hret
  have b35 : ∀ (h : Hp) (x1 : Int32) (x2 : Int32) (x3 : Int32) , jJ p l e (rmD 7) s m args below meth c 4 sb D ids shp St (fun r => MQ below (jQi sb D ids shp St n r) args s 0 0 (jA sb)) n 0 0 h 35 [(0, .ref 0), (1, .int x1), (2, .int x2), (3, .int x3)] [] (fX9_ahead_35 h x1 x2 x3) := by
    intro h x1 x2 x3 
    unfold fX9_ahead_35
    refine j_aload_n hC 0 rfl rfl (dOk_at dt_X9_ahead 19 rfl) ?_
    refine j_callVv hC clX9_219 (fun r0 hr0 => c_X9_startTrial hN _ r0 hr0) (show shp 0 = (9, 12) from rfl) (Nat.lt_of_lt_of_le (Nat.le_of_ble_eq_true rfl : 0 < 152) hN) (by decide) rfl rfl ⟨Nat.le_of_ble_eq_true rfl, Nat.le_of_ble_eq_true rfl⟩ ⟨Nat.le_refl 0, Nat.le_refl 0⟩ (As := []) (st := []) rfl (Nat.le_of_ble_eq_true rfl) (dOk_at dt_X9_ahead 20 rfl) (fun h_10 _ => ?_)
    refine j_aload_n hC 0 rfl rfl (dOk_at dt_X9_ahead 21 rfl) ?_
    refine j_getR hC flX9_45 (show shp 0 = (9, 12) from rfl) (Nat.lt_of_lt_of_le (Nat.le_of_ble_eq_true rfl : 0 < 152) hN) (by decide) (by decide) (fun _ _ _ => rfl) (fun hs => hs 0 7 84 rfl) (dOk_at dt_X9_ahead 22 rfl) ?_
    refine j_iload_n hC 1 rfl rfl (dOk_at dt_X9_ahead 23 rfl) ?_
    refine j_callVv hC clX9_216 (fun r0 hr0 => c_X8_passNights hN ((show shp 84 = (8, 15) from rfl)) _ _ r0 hr0) (show shp 84 = (8, 15) from rfl) (Nat.lt_of_lt_of_le (Nat.le_of_ble_eq_true rfl : 84 < 152) hN) (by decide) rfl rfl ⟨Nat.le_of_ble_eq_true rfl, Nat.le_of_ble_eq_true rfl⟩ ⟨Nat.le_refl 0, Nat.le_refl 0⟩ (As := [.int x1]) (st := []) rfl (Nat.le_of_ble_eq_true rfl) (dOk_at dt_X9_ahead 24 rfl) (fun h_12 _ => ?_)
    refine j_iload_n hC 2 rfl rfl (dOk_at dt_X9_ahead 25 rfl) ?_
    refine j_ite (P := inT x2 0 3 = true) (fun _ => ?_) (fun q => ?_)
    · refine j_ite (P := x2 = (0 : Int32)) (fun q_13 => ?_) (fun _ => ?_)
      · refine j_tswIn hC (tgt := 80) q_13 (by decide) (by decide) rfl (by decide) (dOk_at dt_X9_ahead 26 rfl) ?_
        refine j_aload_n hC 0 rfl rfl (dOk_at dt_X9_ahead 27 rfl) ?_
        refine j_getR hC flX9_45 (show shp 0 = (9, 12) from rfl) (Nat.lt_of_lt_of_le (Nat.le_of_ble_eq_true rfl : 0 < 152) hN) (by decide) (by decide) (fun _ _ _ => rfl) (fun hs => hs 0 7 84 rfl) (dOk_at dt_X9_ahead 28 rfl) ?_
        refine j_callVi hC clX9_222 (fun r0 hr0 => c_X8_wonByAll hN ((show shp 84 = (8, 15) from rfl)) _ r0 hr0) (show shp 84 = (8, 15) from rfl) (Nat.lt_of_lt_of_le (Nat.le_of_ble_eq_true rfl : 84 < 152) hN) (by decide) rfl rfl ⟨Nat.le_of_ble_eq_true rfl, Nat.le_of_ble_eq_true rfl⟩ ⟨Nat.le_refl 0, Nat.le_refl 0⟩ (As := []) (st := []) rfl (Nat.le_of_ble_eq_true rfl) (dOk_at dt_X9_ahead 29 rfl) (fun v_14 h_15 _ => ?_)
        refine j_aload_n hC 0 rfl rfl (dOk_at dt_X9_ahead 30 rfl) ?_
        refine j_getR hC flX9_38 (show shp 0 = (9, 12) from rfl) (Nat.lt_of_lt_of_le (Nat.le_of_ble_eq_true rfl : 0 < 152) hN) (by decide) (by decide) (fun _ _ _ => rfl) (fun hs => hs 0 5 72 rfl) (dOk_at dt_X9_ahead 31 rfl) ?_
        refine j_callVi hC clX9_222 (fun r0 hr0 => c_X8_wonByAll hN ((show shp 72 = (8, 15) from rfl)) _ r0 hr0) (show shp 72 = (8, 15) from rfl) (Nat.lt_of_lt_of_le (Nat.le_of_ble_eq_true rfl : 72 < 152) hN) (by decide) rfl rfl ⟨Nat.le_of_ble_eq_true rfl, Nat.le_of_ble_eq_true rfl⟩ ⟨Nat.le_refl 0, Nat.le_refl 0⟩ (As := []) (st := [.int v_14]) rfl (Nat.le_of_ble_eq_true rfl) (dOk_at dt_X9_ahead 32 rfl) (fun v_16 h_17 _ => ?_)
        refine j_isub hC (dOk_at dt_X9_ahead 33 rfl) ?_
        exact j_iret hC hret (dOk_at dt_X9_ahead 34 rfl)
      refine j_ite (P := x2 = (1 : Int32)) (fun q_18 => ?_) (fun _ => ?_)
      · refine j_tswIn hC (tgt := 96) q_18 (by decide) (by decide) rfl (by decide) (dOk_at dt_X9_ahead 26 rfl) ?_
        refine j_aload_n hC 0 rfl rfl (dOk_at dt_X9_ahead 35 rfl) ?_
        refine j_getR hC flX9_45 (show shp 0 = (9, 12) from rfl) (Nat.lt_of_lt_of_le (Nat.le_of_ble_eq_true rfl : 0 < 152) hN) (by decide) (by decide) (fun _ _ _ => rfl) (fun hs => hs 0 7 84 rfl) (dOk_at dt_X9_ahead 36 rfl) ?_
        refine j_callVi hC clX9_226 (fun r0 hr0 => c_X8_beatenByAll hN ((show shp 84 = (8, 15) from rfl)) _ r0 hr0) (show shp 84 = (8, 15) from rfl) (Nat.lt_of_lt_of_le (Nat.le_of_ble_eq_true rfl : 84 < 152) hN) (by decide) rfl rfl ⟨Nat.le_of_ble_eq_true rfl, Nat.le_of_ble_eq_true rfl⟩ ⟨Nat.le_refl 0, Nat.le_refl 0⟩ (As := []) (st := []) rfl (Nat.le_of_ble_eq_true rfl) (dOk_at dt_X9_ahead 37 rfl) (fun v_19 h_20 _ => ?_)
        refine j_aload_n hC 0 rfl rfl (dOk_at dt_X9_ahead 38 rfl) ?_
        refine j_getR hC flX9_38 (show shp 0 = (9, 12) from rfl) (Nat.lt_of_lt_of_le (Nat.le_of_ble_eq_true rfl : 0 < 152) hN) (by decide) (by decide) (fun _ _ _ => rfl) (fun hs => hs 0 5 72 rfl) (dOk_at dt_X9_ahead 39 rfl) ?_
        refine j_callVi hC clX9_226 (fun r0 hr0 => c_X8_beatenByAll hN ((show shp 72 = (8, 15) from rfl)) _ r0 hr0) (show shp 72 = (8, 15) from rfl) (Nat.lt_of_lt_of_le (Nat.le_of_ble_eq_true rfl : 72 < 152) hN) (by decide) rfl rfl ⟨Nat.le_of_ble_eq_true rfl, Nat.le_of_ble_eq_true rfl⟩ ⟨Nat.le_refl 0, Nat.le_refl 0⟩ (As := []) (st := [.int v_19]) rfl (Nat.le_of_ble_eq_true rfl) (dOk_at dt_X9_ahead 40 rfl) (fun v_21 h_22 _ => ?_)
        refine j_isub hC (dOk_at dt_X9_ahead 41 rfl) ?_
        exact j_iret hC hret (dOk_at dt_X9_ahead 42 rfl)
      refine j_ite (P := x2 = (2 : Int32)) (fun q_23 => ?_) (fun _ => ?_)
      · refine j_tswIn hC (tgt := 112) q_23 (by decide) (by decide) rfl (by decide) (dOk_at dt_X9_ahead 26 rfl) ?_
        refine j_aload_n hC 0 rfl rfl (dOk_at dt_X9_ahead 43 rfl) ?_
        refine j_getR hC flX9_45 (show shp 0 = (9, 12) from rfl) (Nat.lt_of_lt_of_le (Nat.le_of_ble_eq_true rfl : 0 < 152) hN) (by decide) (by decide) (fun _ _ _ => rfl) (fun hs => hs 0 7 84 rfl) (dOk_at dt_X9_ahead 44 rfl) ?_
        refine j_iload_n hC 3 rfl rfl (dOk_at dt_X9_ahead 45 rfl) ?_
        refine j_callVi hC clX9_162 (fun r0 hr0 => c_X8_fullOf hN ((show shp 84 = (8, 15) from rfl)) _ _ r0 hr0) (show shp 84 = (8, 15) from rfl) (Nat.lt_of_lt_of_le (Nat.le_of_ble_eq_true rfl : 84 < 152) hN) (by decide) rfl rfl ⟨Nat.le_of_ble_eq_true rfl, Nat.le_of_ble_eq_true rfl⟩ ⟨Nat.le_refl 0, Nat.le_refl 0⟩ (As := [.int x3]) (st := []) rfl (Nat.le_of_ble_eq_true rfl) (dOk_at dt_X9_ahead 46 rfl) (fun v_24 h_25 _ => ?_)
        exact j_iret hC hret (dOk_at dt_X9_ahead 47 rfl)
      refine j_ite (P := x2 = (3 : Int32)) (fun q_26 => ?_) (fun _ => ?_)
      · refine j_tswIn hC (tgt := 121) q_26 (by decide) (by decide) rfl (by decide) (dOk_at dt_X9_ahead 26 rfl) ?_
        refine j_aload_n hC 0 rfl rfl (dOk_at dt_X9_ahead 48 rfl) ?_
        refine j_getR hC flX9_45 (show shp 0 = (9, 12) from rfl) (Nat.lt_of_lt_of_le (Nat.le_of_ble_eq_true rfl : 0 < 152) hN) (by decide) (by decide) (fun _ _ _ => rfl) (fun hs => hs 0 7 84 rfl) (dOk_at dt_X9_ahead 49 rfl) ?_
        refine j_getI hC flX9_229 (show shp 84 = (8, 15) from rfl) (Nat.lt_of_lt_of_le (Nat.le_of_ble_eq_true rfl : 84 < 152) hN) (by decide) (by decide) (fun _ _ _ => rfl) (dOk_at dt_X9_ahead 50 rfl) ?_
        refine j_callSi hC clX9_208 (fun r0 hr0 => c_J6_bitCount_0f7a4 hN _ _ r0 hr0) rfl ⟨Nat.le_of_ble_eq_true rfl, Nat.le_of_ble_eq_true rfl⟩ ⟨Nat.le_refl 0, Nat.le_refl 0⟩ (As := [.int (hI h_12 84 2)]) (st := []) rfl (Nat.le_of_ble_eq_true rfl) (dOk_at dt_X9_ahead 51 rfl) (fun v_27 h_28 _ => ?_)
        exact j_iret hC hret (dOk_at dt_X9_ahead 52 rfl)
      exact j_none
    · refine j_tswOut hC (tgt := 132) q (by decide) (dOk_at dt_X9_ahead 26 rfl) ?_
      refine j_aload_n hC 0 rfl rfl (dOk_at dt_X9_ahead 53 rfl) ?_
      refine j_getR hC flX9_45 (show shp 0 = (9, 12) from rfl) (Nat.lt_of_lt_of_le (Nat.le_of_ble_eq_true rfl : 0 < 152) hN) (by decide) (by decide) (fun _ _ _ => rfl) (fun hs => hs 0 7 84 rfl) (dOk_at dt_X9_ahead 54 rfl) ?_
      refine j_getI hC flX9_232 (show shp 84 = (8, 15) from rfl) (Nat.lt_of_lt_of_le (Nat.le_of_ble_eq_true rfl : 84 < 152) hN) (by decide) (by decide) (fun _ _ _ => rfl) (dOk_at dt_X9_ahead 55 rfl) ?_
      refine j_aload_n hC 0 rfl rfl (dOk_at dt_X9_ahead 56 rfl) ?_
      refine j_getR hC flX9_38 (show shp 0 = (9, 12) from rfl) (Nat.lt_of_lt_of_le (Nat.le_of_ble_eq_true rfl : 0 < 152) hN) (by decide) (by decide) (fun _ _ _ => rfl) (fun hs => hs 0 5 72 rfl) (dOk_at dt_X9_ahead 57 rfl) ?_
      refine j_getI hC flX9_232 (show shp 72 = (8, 15) from rfl) (Nat.lt_of_lt_of_le (Nat.le_of_ble_eq_true rfl : 72 < 152) hN) (by decide) (by decide) (fun _ _ _ => rfl) (dOk_at dt_X9_ahead 58 rfl) ?_
      refine j_isub hC (dOk_at dt_X9_ahead 59 rfl) ?_
      exact j_iret hC hret (dOk_at dt_X9_ahead 60 rfl)
  unfold fX9_ahead
  refine j_iload_n hC 1 rfl rfl (dOk_at dt_X9_ahead 0 rfl) ?_
  refine j_if_lt hC (tgt := 33) (by decide) (dOk_at dt_X9_ahead 1 rfl) (fun q_1 => ?_) (fun q_1 => ?_)
  · refine j_iconst hC (v := (-1 : Int32)) rfl (dOk_at dt_X9_ahead 17 rfl) ?_
    exact j_iret hC hret (dOk_at dt_X9_ahead 18 rfl)
  · refine j_iload_n hC 1 rfl rfl (dOk_at dt_X9_ahead 2 rfl) ?_
    refine j_sipush hC (v := (200 : Int32)) rfl (dOk_at dt_X9_ahead 3 rfl) ?_
    refine j_icmp_gt hC (tgt := 33) (by decide) (dOk_at dt_X9_ahead 4 rfl) (fun q_2 => ?_) (fun q_2 => ?_)
    · refine j_iconst hC (v := (-1 : Int32)) rfl (dOk_at dt_X9_ahead 17 rfl) ?_
      exact j_iret hC hret (dOk_at dt_X9_ahead 18 rfl)
    · refine j_iload_n hC 2 rfl rfl (dOk_at dt_X9_ahead 5 rfl) ?_
      refine j_if_lt hC (tgt := 33) (by decide) (dOk_at dt_X9_ahead 6 rfl) (fun q_3 => ?_) (fun q_3 => ?_)
      · refine j_iconst hC (v := (-1 : Int32)) rfl (dOk_at dt_X9_ahead 17 rfl) ?_
        exact j_iret hC hret (dOk_at dt_X9_ahead 18 rfl)
      · refine j_iload_n hC 2 rfl rfl (dOk_at dt_X9_ahead 7 rfl) ?_
        refine j_iconst hC (v := (4 : Int32)) rfl (dOk_at dt_X9_ahead 8 rfl) ?_
        refine j_icmp_gt hC (tgt := 33) (by decide) (dOk_at dt_X9_ahead 9 rfl) (fun q_4 => ?_) (fun q_4 => ?_)
        · refine j_iconst hC (v := (-1 : Int32)) rfl (dOk_at dt_X9_ahead 17 rfl) ?_
          exact j_iret hC hret (dOk_at dt_X9_ahead 18 rfl)
        · refine j_iload_n hC 2 rfl rfl (dOk_at dt_X9_ahead 10 rfl) ?_
          refine j_iconst hC (v := (2 : Int32)) rfl (dOk_at dt_X9_ahead 11 rfl) ?_
          refine j_icmp_ne hC (tgt := 35) (by decide) (dOk_at dt_X9_ahead 12 rfl) (fun q_5 => ?_) (fun q_5 => ?_)
          · exact b35 h x1 x2 x3 
          · refine j_aload_n hC 0 rfl rfl (dOk_at dt_X9_ahead 13 rfl) ?_
            refine j_iload_n hC 3 rfl rfl (dOk_at dt_X9_ahead 14 rfl) ?_
            refine j_callVi hC clX9_156 (fun r0 hr0 => c_X9_isStraw hN _ _ r0 hr0) (show shp 0 = (9, 12) from rfl) (Nat.lt_of_lt_of_le (Nat.le_of_ble_eq_true rfl : 0 < 152) hN) (by decide) rfl rfl ⟨Nat.le_of_ble_eq_true rfl, Nat.le_of_ble_eq_true rfl⟩ ⟨Nat.le_refl 0, Nat.le_refl 0⟩ (As := [.int x3]) (st := []) rfl (Nat.le_of_ble_eq_true rfl) (dOk_at dt_X9_ahead 15 rfl) (fun v_6 h_7 _ => ?_)
            refine j_if_ne hC (tgt := 35) (by decide) (dOk_at dt_X9_ahead 16 rfl) (fun q_8 => ?_) (fun q_8 => ?_)
            · exact b35 h_7 x1 x2 x3 
            · refine j_iconst hC (v := (-1 : Int32)) rfl (dOk_at dt_X9_ahead 17 rfl) ?_
              exact j_iret hC hret (dOk_at dt_X9_ahead 18 rfl)
def tb_X9_sheds : List (Nat × Instr × Nat) := [(0, .aload_n 0, 1), (1, .iload_n 1, 1), (2, .invokevirtual 156, 3), (5, .ifCond .ne 5, 3), (8, .iconst (-1), 1), (9, .ireturn, 1), (10, .aload_n 0, 1), (11, .invokevirtual 219, 3), (14, .iconst 0, 1), (15, .istore_n 2, 1), (16, .iload_n 2, 1), (17, .sipush 199, 3), (20, .if_icmp .gt 29, 3), (23, .aload_n 0, 1), (24, .getfield 45, 3), (27, .iload_n 1, 1), (28, .invokevirtual 165, 3), (31, .ifCond .eq 5, 3), (34, .iload_n 2, 1), (35, .ireturn, 1), (36, .aload_n 0, 1), (37, .getfield 45, 3), (40, .invokevirtual 235, 3), (43, .iinc 2 1, 3), (46, .goto (-30), 3), (49, .bipush (-2), 2), (51, .ireturn, 1)]
theorem dt_X9_sheds : dOk cX9_sheds tb_X9_sheds = true := by decide +kernel
def fX9_sheds_16 : Nat → Hp → Int32 → Int32 → Option (Int32 × Hp)
  | 0, _, _, _ => none
  | fu + 1, h, x1, x2 => if (199 : Int32) < x2 then (some ((-2 : Int32), h)) else (bnd (fX8_inShed 84 h x1) (fun v_7 h_8 => if v_7 = 0 then ((fX8_passNight 84 h_8).bind (fun h_11 => (fX9_sheds_16 fu) h_11 x1 (x2 + (1 : Int32)))) else (some (x2, h_8))))
def fX9_sheds (h : Hp) (x1 : Int32) : Option (Int32 × Hp) := bnd (fX9_isStraw h x1) (fun v_1 h_2 => if v_1 = 0 then (some ((-1 : Int32), h_2)) else ((fX9_startTrial h_2).bind (fun h_5 => fX9_sheds_16 FU h_5 x1 (0 : Int32))))
set_option maxRecDepth 100000 in
set_option maxHeartbeats 4000000 in
theorem c_X9_sheds {l : Launch} {sb : State} {D : va_G} {ids : Nat → ClassId} {n : Nat} (hN : 152 ≤ n) (h : Hp) (x1 : Int32) (r : Int32 × Hp) (hr : fX9_sheds h x1 = some r) : jM l yX9_sheds cX9_sheds 3 (some .int) 6 sb D ids shp St n [.ref 0, .int x1] h (jQi sb D ids shp St n r) := by
  refine jM_of hr rfl (Nat.le_of_ble_eq_true rfl) ?_
  intro p e s m args below meth c hC hret
  have b16 : ∀ (fu : Nat) (h : Hp) (x1 : Int32) (x2 : Int32) , jJ p l e (rmD 6) s m args below meth c 3 sb D ids shp St (fun r => MQ below (jQi sb D ids shp St n r) args s 0 0 (jA sb)) n 0 0 h 16 [(0, .ref 0), (1, .int x1), (2, .int x2)] [] (fX9_sheds_16 fu h x1 x2) := by
    intro fu 
    induction fu with
    | zero => intro h x1 x2 ; exact j_none
    | succ fu ih =>
    intro h x1 x2 
    rw [fX9_sheds_16]
    refine j_iload_n hC 2 rfl rfl (dOk_at dt_X9_sheds 10 rfl) ?_
    refine j_sipush hC (v := (199 : Int32)) rfl (dOk_at dt_X9_sheds 11 rfl) ?_
    refine j_icmp_gt hC (tgt := 49) (by decide) (dOk_at dt_X9_sheds 12 rfl) (fun q_6 => ?_) (fun q_6 => ?_)
    · refine j_bipush hC (v := (-2 : Int32)) rfl (dOk_at dt_X9_sheds 25 rfl) ?_
      exact j_iret hC hret (dOk_at dt_X9_sheds 26 rfl)
    · refine j_aload_n hC 0 rfl rfl (dOk_at dt_X9_sheds 13 rfl) ?_
      refine j_getR hC flX9_45 (show shp 0 = (9, 12) from rfl) (Nat.lt_of_lt_of_le (Nat.le_of_ble_eq_true rfl : 0 < 152) hN) (by decide) (by decide) (fun _ _ _ => rfl) (fun hs => hs 0 7 84 rfl) (dOk_at dt_X9_sheds 14 rfl) ?_
      refine j_iload_n hC 1 rfl rfl (dOk_at dt_X9_sheds 15 rfl) ?_
      refine j_callVi hC clX9_165 (fun r0 hr0 => c_X8_inShed hN ((show shp 84 = (8, 15) from rfl)) _ _ r0 hr0) (show shp 84 = (8, 15) from rfl) (Nat.lt_of_lt_of_le (Nat.le_of_ble_eq_true rfl : 84 < 152) hN) (by decide) rfl rfl ⟨Nat.le_of_ble_eq_true rfl, Nat.le_of_ble_eq_true rfl⟩ ⟨Nat.le_refl 0, Nat.le_refl 0⟩ (As := [.int x1]) (st := []) rfl (Nat.le_of_ble_eq_true rfl) (dOk_at dt_X9_sheds 16 rfl) (fun v_7 h_8 _ => ?_)
      refine j_if_eq hC (tgt := 36) (by decide) (dOk_at dt_X9_sheds 17 rfl) (fun q_9 => ?_) (fun q_9 => ?_)
      · refine j_aload_n hC 0 rfl rfl (dOk_at dt_X9_sheds 20 rfl) ?_
        refine j_getR hC flX9_45 (show shp 0 = (9, 12) from rfl) (Nat.lt_of_lt_of_le (Nat.le_of_ble_eq_true rfl : 0 < 152) hN) (by decide) (by decide) (fun _ _ _ => rfl) (fun hs => hs 0 7 84 rfl) (dOk_at dt_X9_sheds 21 rfl) ?_
        refine j_callVv hC clX9_235 (fun r0 hr0 => c_X8_passNight hN ((show shp 84 = (8, 15) from rfl)) _ r0 hr0) (show shp 84 = (8, 15) from rfl) (Nat.lt_of_lt_of_le (Nat.le_of_ble_eq_true rfl : 84 < 152) hN) (by decide) rfl rfl ⟨Nat.le_of_ble_eq_true rfl, Nat.le_of_ble_eq_true rfl⟩ ⟨Nat.le_refl 0, Nat.le_refl 0⟩ (As := []) (st := []) rfl (Nat.le_of_ble_eq_true rfl) (dOk_at dt_X9_sheds 22 rfl) (fun h_11 _ => ?_)
        refine j_iinc hC (v := (x2 + (1 : Int32))) (lv' := [(2, .int (x2 + (1 : Int32))), (0, .ref 0), (1, .int x1)]) 2 rfl (congrArg (fun z => x2 + z) (show Int32.ofInt (1) = (1 : Int32) from by decide)) (by decide) rfl (dOk_at dt_X9_sheds 23 rfl) ?_
        refine j_goto hC (tgt := 16) (by decide) (dOk_at dt_X9_sheds 24 rfl) ?_
        refine j_sub [1, 2, 0] rfl ?_
        exact ih h_11 x1 (x2 + (1 : Int32)) 
      · refine j_iload_n hC 2 rfl rfl (dOk_at dt_X9_sheds 18 rfl) ?_
        exact j_iret hC hret (dOk_at dt_X9_sheds 19 rfl)
  unfold fX9_sheds
  refine j_aload_n hC 0 rfl rfl (dOk_at dt_X9_sheds 0 rfl) ?_
  refine j_iload_n hC 1 rfl rfl (dOk_at dt_X9_sheds 1 rfl) ?_
  refine j_callVi hC clX9_156 (fun r0 hr0 => c_X9_isStraw hN _ _ r0 hr0) (show shp 0 = (9, 12) from rfl) (Nat.lt_of_lt_of_le (Nat.le_of_ble_eq_true rfl : 0 < 152) hN) (by decide) rfl rfl ⟨Nat.le_of_ble_eq_true rfl, Nat.le_of_ble_eq_true rfl⟩ ⟨Nat.le_refl 0, Nat.le_refl 0⟩ (As := [.int x1]) (st := []) rfl (Nat.le_of_ble_eq_true rfl) (dOk_at dt_X9_sheds 2 rfl) (fun v_1 h_2 _ => ?_)
  refine j_if_ne hC (tgt := 10) (by decide) (dOk_at dt_X9_sheds 3 rfl) (fun q_3 => ?_) (fun q_3 => ?_)
  · refine j_aload_n hC 0 rfl rfl (dOk_at dt_X9_sheds 6 rfl) ?_
    refine j_callVv hC clX9_219 (fun r0 hr0 => c_X9_startTrial hN _ r0 hr0) (show shp 0 = (9, 12) from rfl) (Nat.lt_of_lt_of_le (Nat.le_of_ble_eq_true rfl : 0 < 152) hN) (by decide) rfl rfl ⟨Nat.le_of_ble_eq_true rfl, Nat.le_of_ble_eq_true rfl⟩ ⟨Nat.le_refl 0, Nat.le_refl 0⟩ (As := []) (st := []) rfl (Nat.le_of_ble_eq_true rfl) (dOk_at dt_X9_sheds 7 rfl) (fun h_5 _ => ?_)
    refine j_iconst hC (v := (0 : Int32)) rfl (dOk_at dt_X9_sheds 8 rfl) ?_
    refine j_istore_n hC rfl (lv' := [(2, .int (0 : Int32)), (0, .ref 0), (1, .int x1)]) (by decide) rfl (dOk_at dt_X9_sheds 9 rfl) ?_
    refine j_sub [1, 2, 0] rfl ?_
    exact b16 FU h_5 x1 (0 : Int32) 
  · refine j_iconst hC (v := (-1 : Int32)) rfl (dOk_at dt_X9_sheds 4 rfl) ?_
    exact j_iret hC hret (dOk_at dt_X9_sheds 5 rfl)
def tb_X9_set : List (Nat × Instr × Nat) := [(0, .iload_n 1, 1), (1, .ifCond .lt 17, 3), (4, .iload_n 1, 1), (5, .aload_n 0, 1), (6, .getfield 10, 3), (9, .getfield 106, 3), (12, .invokevirtual 238, 3), (15, .if_icmp .le 5, 3), (18, .iconst (-1), 1), (19, .ireturn, 1), (20, .iload_n 2, 1), (21, .tableswitch 87 0 2 #[27, 47, 67], 27), (48, .aload_n 0, 1), (49, .getfield 10, 3), (52, .getfield 106, 3), (55, .iload_n 1, 1), (56, .invokevirtual 241, 3), (59, .ifCond .eq 7, 3), (62, .iconst 1, 1), (63, .goto 4, 3), (66, .iconst 0, 1), (67, .ireturn, 1), (68, .aload_n 0, 1), (69, .getfield 10, 3), (72, .getfield 106, 3), (75, .iload_n 1, 1), (76, .invokevirtual 244, 3), (79, .ifCond .eq 7, 3), (82, .iconst 1, 1), (83, .goto 4, 3), (86, .iconst 0, 1), (87, .ireturn, 1), (88, .aload_n 0, 1), (89, .getfield 10, 3), (92, .getfield 106, 3), (95, .iload_n 1, 1), (96, .invokevirtual 247, 3), (99, .ifCond .eq 7, 3), (102, .iconst 1, 1), (103, .goto 4, 3), (106, .iconst 0, 1), (107, .ireturn, 1), (108, .iconst (-1), 1), (109, .ireturn, 1)]
theorem dt_X9_set : dOk cX9_set tb_X9_set = true := by decide +kernel
def fX9_set (h : Hp) (x1 : Int32) (x2 : Int32) : Option (Int32 × Hp) := if x1 < 0 then (some ((-1 : Int32), h)) else ((dref shp h 0 3 (7, 20)).bind (fun z_2 => bnd (fX0_all (rf z_2 0) h) (fun v_4 h_5 => if x1 ≤ v_4 then (if inT x2 0 2 then (if x2 = (0 : Int32) then ((dref shp h_5 0 3 (7, 20)).bind (fun z_8 => bnd (fX0_isCalm (rf z_8 0) h_5 x1) (fun v_10 h_11 => if v_10 = 0 then (some ((0 : Int32), h_11)) else (some ((1 : Int32), h_11))))) else (if x2 = (1 : Int32) then ((dref shp h_5 0 3 (7, 20)).bind (fun z_14 => bnd (fX0_isStanding (rf z_14 0) h_5 x1) (fun v_16 h_17 => if v_16 = 0 then (some ((0 : Int32), h_17)) else (some ((1 : Int32), h_17))))) else (if x2 = (2 : Int32) then ((dref shp h_5 0 3 (7, 20)).bind (fun z_20 => bnd (fX0_isDefended (rf z_20 0) h_5 x1) (fun v_22 h_23 => if v_22 = 0 then (some ((0 : Int32), h_23)) else (some ((1 : Int32), h_23))))) else none))) else (some ((-1 : Int32), h_5))) else (some ((-1 : Int32), h_5)))))
set_option maxRecDepth 100000 in
set_option maxHeartbeats 4000000 in
theorem c_X9_set {l : Launch} {sb : State} {D : va_G} {ids : Nat → ClassId} {n : Nat} (hN : 152 ≤ n) (h : Hp) (x1 : Int32) (x2 : Int32) (r : Int32 × Hp) (hr : fX9_set h x1 x2 = some r) : jM l yX9_set cX9_set 3 (some .int) 2 sb D ids shp St n [.ref 0, .int x1, .int x2] h (jQi sb D ids shp St n r) := by
  refine jM_of hr rfl (Nat.le_of_ble_eq_true rfl) ?_
  intro p e s m args below meth c hC hret
  unfold fX9_set
  refine j_iload_n hC 1 rfl rfl (dOk_at dt_X9_set 0 rfl) ?_
  refine j_if_lt hC (tgt := 18) (by decide) (dOk_at dt_X9_set 1 rfl) (fun q_1 => ?_) (fun q_1 => ?_)
  · refine j_iconst hC (v := (-1 : Int32)) rfl (dOk_at dt_X9_set 8 rfl) ?_
    exact j_iret hC hret (dOk_at dt_X9_set 9 rfl)
  · refine j_iload_n hC 1 rfl rfl (dOk_at dt_X9_set 2 rfl) ?_
    refine j_aload_n hC 0 rfl rfl (dOk_at dt_X9_set 3 rfl) ?_
    refine j_getD (q := (7, 20)) hC flX9_10 (show shp 0 = (9, 12) from rfl) (Nat.lt_of_lt_of_le (Nat.le_of_ble_eq_true rfl : 0 < 152) hN) (by decide) (by decide) (fun _ _ _ => rfl) (dOk_at dt_X9_set 4 rfl) (fun z_2 _ g_3 => ?_)
    refine j_getR hC flX9_106 g_3 (jlt hN g_3 (by decide)) (by decide) (by decide) (fun _ _ _ => rfl) (fun hs => hs _ _ _ (sf_7_0 g_3).1) (dOk_at dt_X9_set 5 rfl) ?_
    refine j_callVi hC clX9_238 (fun r0 hr0 => c_X0_all hN ((sf_7_0 g_3).2.1) _ r0 hr0) (sf_7_0 g_3).2.1 (Nat.lt_of_lt_of_le (sf_7_0 g_3).2.2 hN) (by decide) rfl rfl ⟨Nat.le_of_ble_eq_true rfl, Nat.le_of_ble_eq_true rfl⟩ ⟨Nat.le_refl 0, Nat.le_refl 0⟩ (As := []) (st := [.int x1]) rfl (Nat.le_of_ble_eq_true rfl) (dOk_at dt_X9_set 6 rfl) (fun v_4 h_5 _ => ?_)
    refine j_icmp_le hC (tgt := 20) (by decide) (dOk_at dt_X9_set 7 rfl) (fun q_6 => ?_) (fun q_6 => ?_)
    · refine j_iload_n hC 2 rfl rfl (dOk_at dt_X9_set 10 rfl) ?_
      refine j_ite (P := inT x2 0 2 = true) (fun _ => ?_) (fun q => ?_)
      · refine j_ite (P := x2 = (0 : Int32)) (fun q_7 => ?_) (fun _ => ?_)
        · refine j_tswIn hC (tgt := 48) q_7 (by decide) (by decide) rfl (by decide) (dOk_at dt_X9_set 11 rfl) ?_
          refine j_aload_n hC 0 rfl rfl (dOk_at dt_X9_set 12 rfl) ?_
          refine j_getD (q := (7, 20)) hC flX9_10 (show shp 0 = (9, 12) from rfl) (Nat.lt_of_lt_of_le (Nat.le_of_ble_eq_true rfl : 0 < 152) hN) (by decide) (by decide) (fun _ _ _ => rfl) (dOk_at dt_X9_set 13 rfl) (fun z_8 _ g_9 => ?_)
          refine j_getR hC flX9_106 g_9 (jlt hN g_9 (by decide)) (by decide) (by decide) (fun _ _ _ => rfl) (fun hs => hs _ _ _ (sf_7_0 g_9).1) (dOk_at dt_X9_set 14 rfl) ?_
          refine j_iload_n hC 1 rfl rfl (dOk_at dt_X9_set 15 rfl) ?_
          refine j_callVi hC clX9_241 (fun r0 hr0 => c_X0_isCalm hN ((sf_7_0 g_9).2.1) _ _ r0 hr0) (sf_7_0 g_9).2.1 (Nat.lt_of_lt_of_le (sf_7_0 g_9).2.2 hN) (by decide) rfl rfl ⟨Nat.le_of_ble_eq_true rfl, Nat.le_of_ble_eq_true rfl⟩ ⟨Nat.le_refl 0, Nat.le_refl 0⟩ (As := [.int x1]) (st := []) rfl (Nat.le_of_ble_eq_true rfl) (dOk_at dt_X9_set 16 rfl) (fun v_10 h_11 _ => ?_)
          refine j_if_eq hC (tgt := 66) (by decide) (dOk_at dt_X9_set 17 rfl) (fun q_12 => ?_) (fun q_12 => ?_)
          · refine j_iconst hC (v := (0 : Int32)) rfl (dOk_at dt_X9_set 20 rfl) ?_
            exact j_iret hC hret (dOk_at dt_X9_set 21 rfl)
          · refine j_iconst hC (v := (1 : Int32)) rfl (dOk_at dt_X9_set 18 rfl) ?_
            refine j_goto hC (tgt := 67) (by decide) (dOk_at dt_X9_set 19 rfl) ?_
            exact j_iret hC hret (dOk_at dt_X9_set 21 rfl)
        refine j_ite (P := x2 = (1 : Int32)) (fun q_13 => ?_) (fun _ => ?_)
        · refine j_tswIn hC (tgt := 68) q_13 (by decide) (by decide) rfl (by decide) (dOk_at dt_X9_set 11 rfl) ?_
          refine j_aload_n hC 0 rfl rfl (dOk_at dt_X9_set 22 rfl) ?_
          refine j_getD (q := (7, 20)) hC flX9_10 (show shp 0 = (9, 12) from rfl) (Nat.lt_of_lt_of_le (Nat.le_of_ble_eq_true rfl : 0 < 152) hN) (by decide) (by decide) (fun _ _ _ => rfl) (dOk_at dt_X9_set 23 rfl) (fun z_14 _ g_15 => ?_)
          refine j_getR hC flX9_106 g_15 (jlt hN g_15 (by decide)) (by decide) (by decide) (fun _ _ _ => rfl) (fun hs => hs _ _ _ (sf_7_0 g_15).1) (dOk_at dt_X9_set 24 rfl) ?_
          refine j_iload_n hC 1 rfl rfl (dOk_at dt_X9_set 25 rfl) ?_
          refine j_callVi hC clX9_244 (fun r0 hr0 => c_X0_isStanding hN ((sf_7_0 g_15).2.1) _ _ r0 hr0) (sf_7_0 g_15).2.1 (Nat.lt_of_lt_of_le (sf_7_0 g_15).2.2 hN) (by decide) rfl rfl ⟨Nat.le_of_ble_eq_true rfl, Nat.le_of_ble_eq_true rfl⟩ ⟨Nat.le_refl 0, Nat.le_refl 0⟩ (As := [.int x1]) (st := []) rfl (Nat.le_of_ble_eq_true rfl) (dOk_at dt_X9_set 26 rfl) (fun v_16 h_17 _ => ?_)
          refine j_if_eq hC (tgt := 86) (by decide) (dOk_at dt_X9_set 27 rfl) (fun q_18 => ?_) (fun q_18 => ?_)
          · refine j_iconst hC (v := (0 : Int32)) rfl (dOk_at dt_X9_set 30 rfl) ?_
            exact j_iret hC hret (dOk_at dt_X9_set 31 rfl)
          · refine j_iconst hC (v := (1 : Int32)) rfl (dOk_at dt_X9_set 28 rfl) ?_
            refine j_goto hC (tgt := 87) (by decide) (dOk_at dt_X9_set 29 rfl) ?_
            exact j_iret hC hret (dOk_at dt_X9_set 31 rfl)
        refine j_ite (P := x2 = (2 : Int32)) (fun q_19 => ?_) (fun _ => ?_)
        · refine j_tswIn hC (tgt := 88) q_19 (by decide) (by decide) rfl (by decide) (dOk_at dt_X9_set 11 rfl) ?_
          refine j_aload_n hC 0 rfl rfl (dOk_at dt_X9_set 32 rfl) ?_
          refine j_getD (q := (7, 20)) hC flX9_10 (show shp 0 = (9, 12) from rfl) (Nat.lt_of_lt_of_le (Nat.le_of_ble_eq_true rfl : 0 < 152) hN) (by decide) (by decide) (fun _ _ _ => rfl) (dOk_at dt_X9_set 33 rfl) (fun z_20 _ g_21 => ?_)
          refine j_getR hC flX9_106 g_21 (jlt hN g_21 (by decide)) (by decide) (by decide) (fun _ _ _ => rfl) (fun hs => hs _ _ _ (sf_7_0 g_21).1) (dOk_at dt_X9_set 34 rfl) ?_
          refine j_iload_n hC 1 rfl rfl (dOk_at dt_X9_set 35 rfl) ?_
          refine j_callVi hC clX9_247 (fun r0 hr0 => c_X0_isDefended hN ((sf_7_0 g_21).2.1) _ _ r0 hr0) (sf_7_0 g_21).2.1 (Nat.lt_of_lt_of_le (sf_7_0 g_21).2.2 hN) (by decide) rfl rfl ⟨Nat.le_of_ble_eq_true rfl, Nat.le_of_ble_eq_true rfl⟩ ⟨Nat.le_refl 0, Nat.le_refl 0⟩ (As := [.int x1]) (st := []) rfl (Nat.le_of_ble_eq_true rfl) (dOk_at dt_X9_set 36 rfl) (fun v_22 h_23 _ => ?_)
          refine j_if_eq hC (tgt := 106) (by decide) (dOk_at dt_X9_set 37 rfl) (fun q_24 => ?_) (fun q_24 => ?_)
          · refine j_iconst hC (v := (0 : Int32)) rfl (dOk_at dt_X9_set 40 rfl) ?_
            exact j_iret hC hret (dOk_at dt_X9_set 41 rfl)
          · refine j_iconst hC (v := (1 : Int32)) rfl (dOk_at dt_X9_set 38 rfl) ?_
            refine j_goto hC (tgt := 107) (by decide) (dOk_at dt_X9_set 39 rfl) ?_
            exact j_iret hC hret (dOk_at dt_X9_set 41 rfl)
        exact j_none
      · refine j_tswOut hC (tgt := 108) q (by decide) (dOk_at dt_X9_set 11 rfl) ?_
        refine j_iconst hC (v := (-1 : Int32)) rfl (dOk_at dt_X9_set 42 rfl) ?_
        exact j_iret hC hret (dOk_at dt_X9_set 43 rfl)
    · refine j_iconst hC (v := (-1 : Int32)) rfl (dOk_at dt_X9_set 8 rfl) ?_
      exact j_iret hC hret (dOk_at dt_X9_set 9 rfl)
def tb_X9_standing : List (Nat × Instr × Nat) := [(0, .iload_n 1, 1), (1, .tableswitch 60 0 2 #[27, 38, 49], 27), (28, .aload_n 0, 1), (29, .getfield 10, 3), (32, .getfield 106, 3), (35, .invokevirtual 250, 3), (38, .ireturn, 1), (39, .aload_n 0, 1), (40, .getfield 10, 3), (43, .getfield 106, 3), (46, .invokevirtual 253, 3), (49, .ireturn, 1), (50, .aload_n 0, 1), (51, .getfield 10, 3), (54, .getfield 106, 3), (57, .invokevirtual 256, 3), (60, .ireturn, 1), (61, .iconst (-1), 1), (62, .ireturn, 1)]
theorem dt_X9_standing : dOk cX9_standing tb_X9_standing = true := by decide +kernel
def fX9_standing (h : Hp) (x1 : Int32) : Option (Int32 × Hp) := if inT x1 0 2 then (if x1 = (0 : Int32) then ((dref shp h 0 3 (7, 20)).bind (fun z_2 => bnd (fX0_standingCount (rf z_2 0) h) (fun v_4 h_5 => some (v_4, h_5)))) else (if x1 = (1 : Int32) then ((dref shp h 0 3 (7, 20)).bind (fun z_7 => bnd (fX0_inAllStanding (rf z_7 0) h) (fun v_9 h_10 => some (v_9, h_10)))) else (if x1 = (2 : Int32) then ((dref shp h 0 3 (7, 20)).bind (fun z_12 => bnd (fX0_inAnyStanding (rf z_12 0) h) (fun v_14 h_15 => some (v_14, h_15)))) else none))) else (some ((-1 : Int32), h))
set_option maxRecDepth 100000 in
set_option maxHeartbeats 4000000 in
theorem c_X9_standing {l : Launch} {sb : State} {D : va_G} {ids : Nat → ClassId} {n : Nat} (hN : 152 ≤ n) (h : Hp) (x1 : Int32) (r : Int32 × Hp) (hr : fX9_standing h x1 = some r) : jM l yX9_standing cX9_standing 2 (some .int) 3 sb D ids shp St n [.ref 0, .int x1] h (jQi sb D ids shp St n r) := by
  refine jM_of hr rfl (Nat.le_of_ble_eq_true rfl) ?_
  intro p e s m args below meth c hC hret
  unfold fX9_standing
  refine j_iload_n hC 1 rfl rfl (dOk_at dt_X9_standing 0 rfl) ?_
  refine j_ite (P := inT x1 0 2 = true) (fun _ => ?_) (fun q => ?_)
  · refine j_ite (P := x1 = (0 : Int32)) (fun q_1 => ?_) (fun _ => ?_)
    · refine j_tswIn hC (tgt := 28) q_1 (by decide) (by decide) rfl (by decide) (dOk_at dt_X9_standing 1 rfl) ?_
      refine j_aload_n hC 0 rfl rfl (dOk_at dt_X9_standing 2 rfl) ?_
      refine j_getD (q := (7, 20)) hC flX9_10 (show shp 0 = (9, 12) from rfl) (Nat.lt_of_lt_of_le (Nat.le_of_ble_eq_true rfl : 0 < 152) hN) (by decide) (by decide) (fun _ _ _ => rfl) (dOk_at dt_X9_standing 3 rfl) (fun z_2 _ g_3 => ?_)
      refine j_getR hC flX9_106 g_3 (jlt hN g_3 (by decide)) (by decide) (by decide) (fun _ _ _ => rfl) (fun hs => hs _ _ _ (sf_7_0 g_3).1) (dOk_at dt_X9_standing 4 rfl) ?_
      refine j_callVi hC clX9_250 (fun r0 hr0 => c_X0_standingCount hN ((sf_7_0 g_3).2.1) _ r0 hr0) (sf_7_0 g_3).2.1 (Nat.lt_of_lt_of_le (sf_7_0 g_3).2.2 hN) (by decide) rfl rfl ⟨Nat.le_of_ble_eq_true rfl, Nat.le_of_ble_eq_true rfl⟩ ⟨Nat.le_refl 0, Nat.le_refl 0⟩ (As := []) (st := []) rfl (Nat.le_of_ble_eq_true rfl) (dOk_at dt_X9_standing 5 rfl) (fun v_4 h_5 _ => ?_)
      exact j_iret hC hret (dOk_at dt_X9_standing 6 rfl)
    refine j_ite (P := x1 = (1 : Int32)) (fun q_6 => ?_) (fun _ => ?_)
    · refine j_tswIn hC (tgt := 39) q_6 (by decide) (by decide) rfl (by decide) (dOk_at dt_X9_standing 1 rfl) ?_
      refine j_aload_n hC 0 rfl rfl (dOk_at dt_X9_standing 7 rfl) ?_
      refine j_getD (q := (7, 20)) hC flX9_10 (show shp 0 = (9, 12) from rfl) (Nat.lt_of_lt_of_le (Nat.le_of_ble_eq_true rfl : 0 < 152) hN) (by decide) (by decide) (fun _ _ _ => rfl) (dOk_at dt_X9_standing 8 rfl) (fun z_7 _ g_8 => ?_)
      refine j_getR hC flX9_106 g_8 (jlt hN g_8 (by decide)) (by decide) (by decide) (fun _ _ _ => rfl) (fun hs => hs _ _ _ (sf_7_0 g_8).1) (dOk_at dt_X9_standing 9 rfl) ?_
      refine j_callVi hC clX9_253 (fun r0 hr0 => c_X0_inAllStanding hN ((sf_7_0 g_8).2.1) _ r0 hr0) (sf_7_0 g_8).2.1 (Nat.lt_of_lt_of_le (sf_7_0 g_8).2.2 hN) (by decide) rfl rfl ⟨Nat.le_of_ble_eq_true rfl, Nat.le_of_ble_eq_true rfl⟩ ⟨Nat.le_refl 0, Nat.le_refl 0⟩ (As := []) (st := []) rfl (Nat.le_of_ble_eq_true rfl) (dOk_at dt_X9_standing 10 rfl) (fun v_9 h_10 _ => ?_)
      exact j_iret hC hret (dOk_at dt_X9_standing 11 rfl)
    refine j_ite (P := x1 = (2 : Int32)) (fun q_11 => ?_) (fun _ => ?_)
    · refine j_tswIn hC (tgt := 50) q_11 (by decide) (by decide) rfl (by decide) (dOk_at dt_X9_standing 1 rfl) ?_
      refine j_aload_n hC 0 rfl rfl (dOk_at dt_X9_standing 12 rfl) ?_
      refine j_getD (q := (7, 20)) hC flX9_10 (show shp 0 = (9, 12) from rfl) (Nat.lt_of_lt_of_le (Nat.le_of_ble_eq_true rfl : 0 < 152) hN) (by decide) (by decide) (fun _ _ _ => rfl) (dOk_at dt_X9_standing 13 rfl) (fun z_12 _ g_13 => ?_)
      refine j_getR hC flX9_106 g_13 (jlt hN g_13 (by decide)) (by decide) (by decide) (fun _ _ _ => rfl) (fun hs => hs _ _ _ (sf_7_0 g_13).1) (dOk_at dt_X9_standing 14 rfl) ?_
      refine j_callVi hC clX9_256 (fun r0 hr0 => c_X0_inAnyStanding hN ((sf_7_0 g_13).2.1) _ r0 hr0) (sf_7_0 g_13).2.1 (Nat.lt_of_lt_of_le (sf_7_0 g_13).2.2 hN) (by decide) rfl rfl ⟨Nat.le_of_ble_eq_true rfl, Nat.le_of_ble_eq_true rfl⟩ ⟨Nat.le_refl 0, Nat.le_refl 0⟩ (As := []) (st := []) rfl (Nat.le_of_ble_eq_true rfl) (dOk_at dt_X9_standing 15 rfl) (fun v_14 h_15 _ => ?_)
      exact j_iret hC hret (dOk_at dt_X9_standing 16 rfl)
    exact j_none
  · refine j_tswOut hC (tgt := 61) q (by decide) (dOk_at dt_X9_standing 1 rfl) ?_
    refine j_iconst hC (v := (-1 : Int32)) rfl (dOk_at dt_X9_standing 17 rfl) ?_
    exact j_iret hC hret (dOk_at dt_X9_standing 18 rfl)
def tb_X9_stand : List (Nat × Instr × Nat) := [(0, .iload_n 1, 1), (1, .ifCond .ge 7, 3), (4, .iconst (-1), 1), (5, .goto 14, 3), (8, .aload_n 0, 1), (9, .getfield 10, 3), (12, .getfield 106, 3), (15, .iload_n 1, 1), (16, .invokevirtual 259, 3), (19, .ireturn, 1)]
theorem dt_X9_stand : dOk cX9_stand tb_X9_stand = true := by decide +kernel
def fX9_stand (h : Hp) (x1 : Int32) : Option (Int32 × Hp) := if 0 ≤ x1 then ((dref shp h 0 3 (7, 20)).bind (fun z_2 => bnd (fX0_standingAt (rf z_2 0) h x1) (fun v_4 h_5 => some (v_4, h_5)))) else (some ((-1 : Int32), h))
set_option maxRecDepth 100000 in
set_option maxHeartbeats 4000000 in
theorem c_X9_stand {l : Launch} {sb : State} {D : va_G} {ids : Nat → ClassId} {n : Nat} (hN : 152 ≤ n) (h : Hp) (x1 : Int32) (r : Int32 × Hp) (hr : fX9_stand h x1 = some r) : jM l yX9_stand cX9_stand 2 (some .int) 3 sb D ids shp St n [.ref 0, .int x1] h (jQi sb D ids shp St n r) := by
  refine jM_of hr rfl (Nat.le_of_ble_eq_true rfl) ?_
  intro p e s m args below meth c hC hret
  unfold fX9_stand
  refine j_iload_n hC 1 rfl rfl (dOk_at dt_X9_stand 0 rfl) ?_
  refine j_if_ge hC (tgt := 8) (by decide) (dOk_at dt_X9_stand 1 rfl) (fun q_1 => ?_) (fun q_1 => ?_)
  · refine j_aload_n hC 0 rfl rfl (dOk_at dt_X9_stand 4 rfl) ?_
    refine j_getD (q := (7, 20)) hC flX9_10 (show shp 0 = (9, 12) from rfl) (Nat.lt_of_lt_of_le (Nat.le_of_ble_eq_true rfl : 0 < 152) hN) (by decide) (by decide) (fun _ _ _ => rfl) (dOk_at dt_X9_stand 5 rfl) (fun z_2 _ g_3 => ?_)
    refine j_getR hC flX9_106 g_3 (jlt hN g_3 (by decide)) (by decide) (by decide) (fun _ _ _ => rfl) (fun hs => hs _ _ _ (sf_7_0 g_3).1) (dOk_at dt_X9_stand 6 rfl) ?_
    refine j_iload_n hC 1 rfl rfl (dOk_at dt_X9_stand 7 rfl) ?_
    refine j_callVi hC clX9_259 (fun r0 hr0 => c_X0_standingAt hN ((sf_7_0 g_3).2.1) _ _ r0 hr0) (sf_7_0 g_3).2.1 (Nat.lt_of_lt_of_le (sf_7_0 g_3).2.2 hN) (by decide) rfl rfl ⟨Nat.le_of_ble_eq_true rfl, Nat.le_of_ble_eq_true rfl⟩ ⟨Nat.le_refl 0, Nat.le_refl 0⟩ (As := [.int x1]) (st := []) rfl (Nat.le_of_ble_eq_true rfl) (dOk_at dt_X9_stand 8 rfl) (fun v_4 h_5 _ => ?_)
    exact j_iret hC hret (dOk_at dt_X9_stand 9 rfl)
  · refine j_iconst hC (v := (-1 : Int32)) rfl (dOk_at dt_X9_stand 2 rfl) ?_
    refine j_goto hC (tgt := 19) (by decide) (dOk_at dt_X9_stand 3 rfl) ?_
    exact j_iret hC hret (dOk_at dt_X9_stand 9 rfl)
def tb_X9_ground : List (Nat × Instr × Nat) := [(0, .aload_n 0, 1), (1, .getfield 10, 3), (4, .getfield 106, 3), (7, .iconst (-1), 1), (8, .iconst (-1), 1), (9, .invokevirtual 262, 3), (12, .ireturn, 1)]
theorem dt_X9_ground : dOk cX9_ground tb_X9_ground = true := by decide +kernel
def fX9_ground (h : Hp) : Option (Int32 × Hp) := (dref shp h 0 3 (7, 20)).bind (fun z_1 => bnd (fX0_groundWithout (rf z_1 0) h (-1 : Int32) (-1 : Int32)) (fun v_3 h_4 => some (v_3, h_4)))
set_option maxRecDepth 100000 in
set_option maxHeartbeats 4000000 in
theorem c_X9_ground {l : Launch} {sb : State} {D : va_G} {ids : Nat → ClassId} {n : Nat} (hN : 152 ≤ n) (h : Hp) (r : Int32 × Hp) (hr : fX9_ground h = some r) : jM l yX9_ground cX9_ground 1 (some .int) 3 sb D ids shp St n [.ref 0] h (jQi sb D ids shp St n r) := by
  refine jM_of hr rfl (Nat.le_of_ble_eq_true rfl) ?_
  intro p e s m args below meth c hC hret
  unfold fX9_ground
  refine j_aload_n hC 0 rfl rfl (dOk_at dt_X9_ground 0 rfl) ?_
  refine j_getD (q := (7, 20)) hC flX9_10 (show shp 0 = (9, 12) from rfl) (Nat.lt_of_lt_of_le (Nat.le_of_ble_eq_true rfl : 0 < 152) hN) (by decide) (by decide) (fun _ _ _ => rfl) (dOk_at dt_X9_ground 1 rfl) (fun z_1 _ g_2 => ?_)
  refine j_getR hC flX9_106 g_2 (jlt hN g_2 (by decide)) (by decide) (by decide) (fun _ _ _ => rfl) (fun hs => hs _ _ _ (sf_7_0 g_2).1) (dOk_at dt_X9_ground 2 rfl) ?_
  refine j_iconst hC (v := (-1 : Int32)) rfl (dOk_at dt_X9_ground 3 rfl) ?_
  refine j_iconst hC (v := (-1 : Int32)) rfl (dOk_at dt_X9_ground 4 rfl) ?_
  refine j_callVi hC clX9_262 (fun r0 hr0 => c_X0_groundWithout hN ((sf_7_0 g_2).2.1) _ _ _ r0 hr0) (sf_7_0 g_2).2.1 (Nat.lt_of_lt_of_le (sf_7_0 g_2).2.2 hN) (by decide) rfl rfl ⟨Nat.le_of_ble_eq_true rfl, Nat.le_of_ble_eq_true rfl⟩ ⟨Nat.le_refl 0, Nat.le_refl 0⟩ (As := [.int (-1 : Int32), .int (-1 : Int32)]) (st := []) rfl (Nat.le_of_ble_eq_true rfl) (dOk_at dt_X9_ground 5 rfl) (fun v_3 h_4 _ => ?_)
  exact j_iret hC hret (dOk_at dt_X9_ground 6 rfl)
def tb_X9_largest : List (Nat × Instr × Nat) := [(0, .aload_n 0, 1), (1, .getfield 10, 3), (4, .getfield 106, 3), (7, .invokevirtual 265, 3), (10, .ireturn, 1)]
theorem dt_X9_largest : dOk cX9_largest tb_X9_largest = true := by decide +kernel
def fX9_largest (h : Hp) : Option (Int32 × Hp) := (dref shp h 0 3 (7, 20)).bind (fun z_1 => bnd (fX0_largestDefended (rf z_1 0) h) (fun v_3 h_4 => some (v_3, h_4)))
set_option maxRecDepth 100000 in
set_option maxHeartbeats 4000000 in
theorem c_X9_largest {l : Launch} {sb : State} {D : va_G} {ids : Nat → ClassId} {n : Nat} (hN : 152 ≤ n) (h : Hp) (r : Int32 × Hp) (hr : fX9_largest h = some r) : jM l yX9_largest cX9_largest 1 (some .int) 3 sb D ids shp St n [.ref 0] h (jQi sb D ids shp St n r) := by
  refine jM_of hr rfl (Nat.le_of_ble_eq_true rfl) ?_
  intro p e s m args below meth c hC hret
  unfold fX9_largest
  refine j_aload_n hC 0 rfl rfl (dOk_at dt_X9_largest 0 rfl) ?_
  refine j_getD (q := (7, 20)) hC flX9_10 (show shp 0 = (9, 12) from rfl) (Nat.lt_of_lt_of_le (Nat.le_of_ble_eq_true rfl : 0 < 152) hN) (by decide) (by decide) (fun _ _ _ => rfl) (dOk_at dt_X9_largest 1 rfl) (fun z_1 _ g_2 => ?_)
  refine j_getR hC flX9_106 g_2 (jlt hN g_2 (by decide)) (by decide) (by decide) (fun _ _ _ => rfl) (fun hs => hs _ _ _ (sf_7_0 g_2).1) (dOk_at dt_X9_largest 2 rfl) ?_
  refine j_callVi hC clX9_265 (fun r0 hr0 => c_X0_largestDefended hN ((sf_7_0 g_2).2.1) _ r0 hr0) (sf_7_0 g_2).2.1 (Nat.lt_of_lt_of_le (sf_7_0 g_2).2.2 hN) (by decide) rfl rfl ⟨Nat.le_of_ble_eq_true rfl, Nat.le_of_ble_eq_true rfl⟩ ⟨Nat.le_refl 0, Nat.le_refl 0⟩ (As := []) (st := []) rfl (Nat.le_of_ble_eq_true rfl) (dOk_at dt_X9_largest 3 rfl) (fun v_3 h_4 _ => ?_)
  exact j_iret hC hret (dOk_at dt_X9_largest 4 rfl)
def tb_X9_weaker : List (Nat × Instr × Nat) := [(0, .aload_n 0, 1), (1, .iload_n 1, 1), (2, .invokevirtual 128, 3), (5, .ifCond .eq 17, 3), (8, .aload_n 0, 1), (9, .getfield 10, 3), (12, .getfield 106, 3), (15, .iload_n 1, 1), (16, .invokevirtual 272, 3), (19, .goto 4, 3), (22, .iconst (-1), 1), (23, .ireturn, 1)]
theorem dt_X9_weaker : dOk cX9_weaker tb_X9_weaker = true := by decide +kernel
def fX9_weaker (h : Hp) (x1 : Int32) : Option (Int32 × Hp) := bnd (fX9_isClaim h x1) (fun v_1 h_2 => if v_1 = 0 then (some ((-1 : Int32), h_2)) else ((dref shp h_2 0 3 (7, 20)).bind (fun z_4 => bnd (fX0_weakerThan (rf z_4 0) h_2 x1) (fun v_6 h_7 => some (v_6, h_7)))))
set_option maxRecDepth 100000 in
set_option maxHeartbeats 4000000 in
theorem c_X9_weaker {l : Launch} {sb : State} {D : va_G} {ids : Nat → ClassId} {n : Nat} (hN : 152 ≤ n) (h : Hp) (x1 : Int32) (r : Int32 × Hp) (hr : fX9_weaker h x1 = some r) : jM l yX9_weaker cX9_weaker 2 (some .int) 2 sb D ids shp St n [.ref 0, .int x1] h (jQi sb D ids shp St n r) := by
  refine jM_of hr rfl (Nat.le_of_ble_eq_true rfl) ?_
  intro p e s m args below meth c hC hret
  unfold fX9_weaker
  refine j_aload_n hC 0 rfl rfl (dOk_at dt_X9_weaker 0 rfl) ?_
  refine j_iload_n hC 1 rfl rfl (dOk_at dt_X9_weaker 1 rfl) ?_
  refine j_callVi hC clX9_128 (fun r0 hr0 => c_X9_isClaim hN _ _ r0 hr0) (show shp 0 = (9, 12) from rfl) (Nat.lt_of_lt_of_le (Nat.le_of_ble_eq_true rfl : 0 < 152) hN) (by decide) rfl rfl ⟨Nat.le_of_ble_eq_true rfl, Nat.le_of_ble_eq_true rfl⟩ ⟨Nat.le_refl 0, Nat.le_refl 0⟩ (As := [.int x1]) (st := []) rfl (Nat.le_of_ble_eq_true rfl) (dOk_at dt_X9_weaker 2 rfl) (fun v_1 h_2 _ => ?_)
  refine j_if_eq hC (tgt := 22) (by decide) (dOk_at dt_X9_weaker 3 rfl) (fun q_3 => ?_) (fun q_3 => ?_)
  · refine j_iconst hC (v := (-1 : Int32)) rfl (dOk_at dt_X9_weaker 10 rfl) ?_
    exact j_iret hC hret (dOk_at dt_X9_weaker 11 rfl)
  · refine j_aload_n hC 0 rfl rfl (dOk_at dt_X9_weaker 4 rfl) ?_
    refine j_getD (q := (7, 20)) hC flX9_10 (show shp 0 = (9, 12) from rfl) (Nat.lt_of_lt_of_le (Nat.le_of_ble_eq_true rfl : 0 < 152) hN) (by decide) (by decide) (fun _ _ _ => rfl) (dOk_at dt_X9_weaker 5 rfl) (fun z_4 _ g_5 => ?_)
    refine j_getR hC flX9_106 g_5 (jlt hN g_5 (by decide)) (by decide) (by decide) (fun _ _ _ => rfl) (fun hs => hs _ _ _ (sf_7_0 g_5).1) (dOk_at dt_X9_weaker 6 rfl) ?_
    refine j_iload_n hC 1 rfl rfl (dOk_at dt_X9_weaker 7 rfl) ?_
    refine j_callVi hC clX9_272 (fun r0 hr0 => c_X0_weakerThan hN ((sf_7_0 g_5).2.1) _ _ r0 hr0) (sf_7_0 g_5).2.1 (Nat.lt_of_lt_of_le (sf_7_0 g_5).2.2 hN) (by decide) rfl rfl ⟨Nat.le_of_ble_eq_true rfl, Nat.le_of_ble_eq_true rfl⟩ ⟨Nat.le_refl 0, Nat.le_refl 0⟩ (As := [.int x1]) (st := []) rfl (Nat.le_of_ble_eq_true rfl) (dOk_at dt_X9_weaker 8 rfl) (fun v_6 h_7 _ => ?_)
    refine j_goto hC (tgt := 23) (by decide) (dOk_at dt_X9_weaker 9 rfl) ?_
    exact j_iret hC hret (dOk_at dt_X9_weaker 11 rfl)
def tb_X9_dropFor : List (Nat × Instr × Nat) := [(0, .aload_n 0, 1), (1, .iload_n 1, 1), (2, .invokevirtual 128, 3), (5, .ifCond .eq 12, 3), (8, .iload_n 2, 1), (9, .ifCond .lt 8, 3), (12, .iload_n 2, 1), (13, .iconst 2, 1), (14, .if_icmp .le 5, 3), (17, .iconst (-1), 1), (18, .ireturn, 1), (19, .aload_n 0, 1), (20, .getfield 10, 3), (23, .getfield 106, 3), (26, .iload_n 1, 1), (27, .iload_n 2, 1), (28, .invokevirtual 275, 3), (31, .ireturn, 1)]
theorem dt_X9_dropFor : dOk cX9_dropFor tb_X9_dropFor = true := by decide +kernel
def fX9_dropFor (h : Hp) (x1 : Int32) (x2 : Int32) : Option (Int32 × Hp) := bnd (fX9_isClaim h x1) (fun v_1 h_2 => if v_1 = 0 then (some ((-1 : Int32), h_2)) else (if x2 < 0 then (some ((-1 : Int32), h_2)) else (if x2 ≤ (2 : Int32) then ((dref shp h_2 0 3 (7, 20)).bind (fun z_6 => bnd (fX0_dropped (rf z_6 0) h_2 x1 x2) (fun v_8 h_9 => some (v_8, h_9)))) else (some ((-1 : Int32), h_2)))))
set_option maxRecDepth 100000 in
set_option maxHeartbeats 4000000 in
theorem c_X9_dropFor {l : Launch} {sb : State} {D : va_G} {ids : Nat → ClassId} {n : Nat} (hN : 152 ≤ n) (h : Hp) (x1 : Int32) (x2 : Int32) (r : Int32 × Hp) (hr : fX9_dropFor h x1 x2 = some r) : jM l yX9_dropFor cX9_dropFor 3 (some .int) 6 sb D ids shp St n [.ref 0, .int x1, .int x2] h (jQi sb D ids shp St n r) := by
  refine jM_of hr rfl (Nat.le_of_ble_eq_true rfl) ?_
  intro p e s m args below meth c hC hret
  unfold fX9_dropFor
  refine j_aload_n hC 0 rfl rfl (dOk_at dt_X9_dropFor 0 rfl) ?_
  refine j_iload_n hC 1 rfl rfl (dOk_at dt_X9_dropFor 1 rfl) ?_
  refine j_callVi hC clX9_128 (fun r0 hr0 => c_X9_isClaim hN _ _ r0 hr0) (show shp 0 = (9, 12) from rfl) (Nat.lt_of_lt_of_le (Nat.le_of_ble_eq_true rfl : 0 < 152) hN) (by decide) rfl rfl ⟨Nat.le_of_ble_eq_true rfl, Nat.le_of_ble_eq_true rfl⟩ ⟨Nat.le_refl 0, Nat.le_refl 0⟩ (As := [.int x1]) (st := []) rfl (Nat.le_of_ble_eq_true rfl) (dOk_at dt_X9_dropFor 2 rfl) (fun v_1 h_2 _ => ?_)
  refine j_if_eq hC (tgt := 17) (by decide) (dOk_at dt_X9_dropFor 3 rfl) (fun q_3 => ?_) (fun q_3 => ?_)
  · refine j_iconst hC (v := (-1 : Int32)) rfl (dOk_at dt_X9_dropFor 9 rfl) ?_
    exact j_iret hC hret (dOk_at dt_X9_dropFor 10 rfl)
  · refine j_iload_n hC 2 rfl rfl (dOk_at dt_X9_dropFor 4 rfl) ?_
    refine j_if_lt hC (tgt := 17) (by decide) (dOk_at dt_X9_dropFor 5 rfl) (fun q_4 => ?_) (fun q_4 => ?_)
    · refine j_iconst hC (v := (-1 : Int32)) rfl (dOk_at dt_X9_dropFor 9 rfl) ?_
      exact j_iret hC hret (dOk_at dt_X9_dropFor 10 rfl)
    · refine j_iload_n hC 2 rfl rfl (dOk_at dt_X9_dropFor 6 rfl) ?_
      refine j_iconst hC (v := (2 : Int32)) rfl (dOk_at dt_X9_dropFor 7 rfl) ?_
      refine j_icmp_le hC (tgt := 19) (by decide) (dOk_at dt_X9_dropFor 8 rfl) (fun q_5 => ?_) (fun q_5 => ?_)
      · refine j_aload_n hC 0 rfl rfl (dOk_at dt_X9_dropFor 11 rfl) ?_
        refine j_getD (q := (7, 20)) hC flX9_10 (show shp 0 = (9, 12) from rfl) (Nat.lt_of_lt_of_le (Nat.le_of_ble_eq_true rfl : 0 < 152) hN) (by decide) (by decide) (fun _ _ _ => rfl) (dOk_at dt_X9_dropFor 12 rfl) (fun z_6 _ g_7 => ?_)
        refine j_getR hC flX9_106 g_7 (jlt hN g_7 (by decide)) (by decide) (by decide) (fun _ _ _ => rfl) (fun hs => hs _ _ _ (sf_7_0 g_7).1) (dOk_at dt_X9_dropFor 13 rfl) ?_
        refine j_iload_n hC 1 rfl rfl (dOk_at dt_X9_dropFor 14 rfl) ?_
        refine j_iload_n hC 2 rfl rfl (dOk_at dt_X9_dropFor 15 rfl) ?_
        refine j_callVi hC clX9_275 (fun r0 hr0 => c_X0_dropped hN ((sf_7_0 g_7).2.1) _ _ _ r0 hr0) (sf_7_0 g_7).2.1 (Nat.lt_of_lt_of_le (sf_7_0 g_7).2.2 hN) (by decide) rfl rfl ⟨Nat.le_of_ble_eq_true rfl, Nat.le_of_ble_eq_true rfl⟩ ⟨Nat.le_refl 0, Nat.le_refl 0⟩ (As := [.int x1, .int x2]) (st := []) rfl (Nat.le_of_ble_eq_true rfl) (dOk_at dt_X9_dropFor 16 rfl) (fun v_8 h_9 _ => ?_)
        exact j_iret hC hret (dOk_at dt_X9_dropFor 17 rfl)
      · refine j_iconst hC (v := (-1 : Int32)) rfl (dOk_at dt_X9_dropFor 9 rfl) ?_
        exact j_iret hC hret (dOk_at dt_X9_dropFor 10 rfl)
def tb_X9_areTwo : List (Nat × Instr × Nat) := [(0, .aload_n 0, 1), (1, .iload_n 1, 1), (2, .invokevirtual 168, 3), (5, .ifCond .eq 20, 3), (8, .aload_n 0, 1), (9, .iload_n 2, 1), (10, .invokevirtual 168, 3), (13, .ifCond .eq 12, 3), (16, .iload_n 1, 1), (17, .iload_n 2, 1), (18, .if_icmp .eq 7, 3), (21, .iconst 1, 1), (22, .goto 4, 3), (25, .iconst 0, 1), (26, .ireturn, 1)]
theorem dt_X9_areTwo : dOk cX9_areTwo tb_X9_areTwo = true := by decide +kernel
def fX9_areTwo (h : Hp) (x1 : Int32) (x2 : Int32) : Option (Int32 × Hp) := bnd (fX9_isMember h x1) (fun v_1 h_2 => if v_1 = 0 then (some ((0 : Int32), h_2)) else (bnd (fX9_isMember h_2 x2) (fun v_4 h_5 => if v_4 = 0 then (some ((0 : Int32), h_5)) else (if x1 = x2 then (some ((0 : Int32), h_5)) else (some ((1 : Int32), h_5))))))
set_option maxRecDepth 100000 in
set_option maxHeartbeats 4000000 in
theorem c_X9_areTwo {l : Launch} {sb : State} {D : va_G} {ids : Nat → ClassId} {n : Nat} (hN : 152 ≤ n) (h : Hp) (x1 : Int32) (x2 : Int32) (r : Int32 × Hp) (hr : fX9_areTwo h x1 x2 = some r) : jM l yX9_areTwo cX9_areTwo 3 (some .boolean) 1 sb D ids shp St n [.ref 0, .int x1, .int x2] h (jQi sb D ids shp St n r) := by
  refine jM_of hr rfl (Nat.le_of_ble_eq_true rfl) ?_
  intro p e s m args below meth c hC hret
  unfold fX9_areTwo
  refine j_aload_n hC 0 rfl rfl (dOk_at dt_X9_areTwo 0 rfl) ?_
  refine j_iload_n hC 1 rfl rfl (dOk_at dt_X9_areTwo 1 rfl) ?_
  refine j_callVi hC clX9_168 (fun r0 hr0 => c_X9_isMember hN _ _ r0 hr0) (show shp 0 = (9, 12) from rfl) (Nat.lt_of_lt_of_le (Nat.le_of_ble_eq_true rfl : 0 < 152) hN) (by decide) rfl rfl ⟨Nat.le_of_ble_eq_true rfl, Nat.le_of_ble_eq_true rfl⟩ ⟨Nat.le_refl 0, Nat.le_refl 0⟩ (As := [.int x1]) (st := []) rfl (Nat.le_of_ble_eq_true rfl) (dOk_at dt_X9_areTwo 2 rfl) (fun v_1 h_2 _ => ?_)
  refine j_if_eq hC (tgt := 25) (by decide) (dOk_at dt_X9_areTwo 3 rfl) (fun q_3 => ?_) (fun q_3 => ?_)
  · refine j_iconst hC (v := (0 : Int32)) rfl (dOk_at dt_X9_areTwo 13 rfl) ?_
    exact j_zretK hC hret rfl (dOk_at dt_X9_areTwo 14 rfl)
  · refine j_aload_n hC 0 rfl rfl (dOk_at dt_X9_areTwo 4 rfl) ?_
    refine j_iload_n hC 2 rfl rfl (dOk_at dt_X9_areTwo 5 rfl) ?_
    refine j_callVi hC clX9_168 (fun r0 hr0 => c_X9_isMember hN _ _ r0 hr0) (show shp 0 = (9, 12) from rfl) (Nat.lt_of_lt_of_le (Nat.le_of_ble_eq_true rfl : 0 < 152) hN) (by decide) rfl rfl ⟨Nat.le_of_ble_eq_true rfl, Nat.le_of_ble_eq_true rfl⟩ ⟨Nat.le_refl 0, Nat.le_refl 0⟩ (As := [.int x2]) (st := []) rfl (Nat.le_of_ble_eq_true rfl) (dOk_at dt_X9_areTwo 6 rfl) (fun v_4 h_5 _ => ?_)
    refine j_if_eq hC (tgt := 25) (by decide) (dOk_at dt_X9_areTwo 7 rfl) (fun q_6 => ?_) (fun q_6 => ?_)
    · refine j_iconst hC (v := (0 : Int32)) rfl (dOk_at dt_X9_areTwo 13 rfl) ?_
      exact j_zretK hC hret rfl (dOk_at dt_X9_areTwo 14 rfl)
    · refine j_iload_n hC 1 rfl rfl (dOk_at dt_X9_areTwo 8 rfl) ?_
      refine j_iload_n hC 2 rfl rfl (dOk_at dt_X9_areTwo 9 rfl) ?_
      refine j_icmp_eq hC (tgt := 25) (by decide) (dOk_at dt_X9_areTwo 10 rfl) (fun q_7 => ?_) (fun q_7 => ?_)
      · refine j_iconst hC (v := (0 : Int32)) rfl (dOk_at dt_X9_areTwo 13 rfl) ?_
        exact j_zretK hC hret rfl (dOk_at dt_X9_areTwo 14 rfl)
      · refine j_iconst hC (v := (1 : Int32)) rfl (dOk_at dt_X9_areTwo 11 rfl) ?_
        refine j_goto hC (tgt := 26) (by decide) (dOk_at dt_X9_areTwo 12 rfl) ?_
        exact j_zretK hC hret rfl (dOk_at dt_X9_areTwo 14 rfl)
def tb_X9_pointsOf : List (Nat × Instr × Nat) := [(0, .aload_n 0, 1), (1, .getfield 10, 3), (4, .getfield 106, 3), (7, .aload_n 0, 1), (8, .getfield 38, 3), (11, .iload_n 1, 1), (12, .invokevirtual 171, 3), (15, .aload_n 0, 1), (16, .getfield 38, 3), (19, .iload_n 2, 1), (20, .invokevirtual 171, 3), (23, .invokevirtual 365, 3), (26, .ireturn, 1)]
theorem dt_X9_pointsOf : dOk cX9_pointsOf tb_X9_pointsOf = true := by decide +kernel
def fX9_pointsOf (h : Hp) (x1 : Int32) (x2 : Int32) : Option (Int32 × Hp) := (dref shp h 0 3 (7, 20)).bind (fun z_1 => bnd (fX8_holdsOf 72 h x1) (fun v_3 h_4 => bnd (fX8_holdsOf 72 h_4 x2) (fun v_5 h_6 => bnd (fX0_contrasBetween (rf z_1 0) h_6 v_3 v_5) (fun v_7 h_8 => some (v_7, h_8)))))
set_option maxRecDepth 100000 in
set_option maxHeartbeats 4000000 in
theorem c_X9_pointsOf {l : Launch} {sb : State} {D : va_G} {ids : Nat → ClassId} {n : Nat} (hN : 152 ≤ n) (h : Hp) (x1 : Int32) (x2 : Int32) (r : Int32 × Hp) (hr : fX9_pointsOf h x1 x2 = some r) : jM l yX9_pointsOf cX9_pointsOf 3 (some .int) 1 sb D ids shp St n [.ref 0, .int x1, .int x2] h (jQi sb D ids shp St n r) := by
  refine jM_of hr rfl (Nat.le_of_ble_eq_true rfl) ?_
  intro p e s m args below meth c hC hret
  unfold fX9_pointsOf
  refine j_aload_n hC 0 rfl rfl (dOk_at dt_X9_pointsOf 0 rfl) ?_
  refine j_getD (q := (7, 20)) hC flX9_10 (show shp 0 = (9, 12) from rfl) (Nat.lt_of_lt_of_le (Nat.le_of_ble_eq_true rfl : 0 < 152) hN) (by decide) (by decide) (fun _ _ _ => rfl) (dOk_at dt_X9_pointsOf 1 rfl) (fun z_1 _ g_2 => ?_)
  refine j_getR hC flX9_106 g_2 (jlt hN g_2 (by decide)) (by decide) (by decide) (fun _ _ _ => rfl) (fun hs => hs _ _ _ (sf_7_0 g_2).1) (dOk_at dt_X9_pointsOf 2 rfl) ?_
  refine j_aload_n hC 0 rfl rfl (dOk_at dt_X9_pointsOf 3 rfl) ?_
  refine j_getR hC flX9_38 (show shp 0 = (9, 12) from rfl) (Nat.lt_of_lt_of_le (Nat.le_of_ble_eq_true rfl : 0 < 152) hN) (by decide) (by decide) (fun _ _ _ => rfl) (fun hs => hs 0 5 72 rfl) (dOk_at dt_X9_pointsOf 4 rfl) ?_
  refine j_iload_n hC 1 rfl rfl (dOk_at dt_X9_pointsOf 5 rfl) ?_
  refine j_callVi hC clX9_171 (fun r0 hr0 => c_X8_holdsOf hN ((show shp 72 = (8, 15) from rfl)) _ _ r0 hr0) (show shp 72 = (8, 15) from rfl) (Nat.lt_of_lt_of_le (Nat.le_of_ble_eq_true rfl : 72 < 152) hN) (by decide) rfl rfl ⟨Nat.le_of_ble_eq_true rfl, Nat.le_of_ble_eq_true rfl⟩ ⟨Nat.le_refl 0, Nat.le_refl 0⟩ (As := [.int x1]) (st := [.ref (rf z_1 0)]) rfl (Nat.le_of_ble_eq_true rfl) (dOk_at dt_X9_pointsOf 6 rfl) (fun v_3 h_4 _ => ?_)
  refine j_aload_n hC 0 rfl rfl (dOk_at dt_X9_pointsOf 7 rfl) ?_
  refine j_getR hC flX9_38 (show shp 0 = (9, 12) from rfl) (Nat.lt_of_lt_of_le (Nat.le_of_ble_eq_true rfl : 0 < 152) hN) (by decide) (by decide) (fun _ _ _ => rfl) (fun hs => hs 0 5 72 rfl) (dOk_at dt_X9_pointsOf 8 rfl) ?_
  refine j_iload_n hC 2 rfl rfl (dOk_at dt_X9_pointsOf 9 rfl) ?_
  refine j_callVi hC clX9_171 (fun r0 hr0 => c_X8_holdsOf hN ((show shp 72 = (8, 15) from rfl)) _ _ r0 hr0) (show shp 72 = (8, 15) from rfl) (Nat.lt_of_lt_of_le (Nat.le_of_ble_eq_true rfl : 72 < 152) hN) (by decide) rfl rfl ⟨Nat.le_of_ble_eq_true rfl, Nat.le_of_ble_eq_true rfl⟩ ⟨Nat.le_refl 0, Nat.le_refl 0⟩ (As := [.int x2]) (st := [.int v_3, .ref (rf z_1 0)]) rfl (Nat.le_of_ble_eq_true rfl) (dOk_at dt_X9_pointsOf 10 rfl) (fun v_5 h_6 _ => ?_)
  refine j_callVi hC clX9_365 (fun r0 hr0 => c_X0_contrasBetween hN ((sf_7_0 g_2).2.1) _ _ _ r0 hr0) (sf_7_0 g_2).2.1 (Nat.lt_of_lt_of_le (sf_7_0 g_2).2.2 hN) (by decide) rfl rfl ⟨Nat.le_of_ble_eq_true rfl, Nat.le_of_ble_eq_true rfl⟩ ⟨Nat.le_refl 0, Nat.le_refl 0⟩ (As := [.int v_3, .int v_5]) (st := []) rfl (Nat.le_of_ble_eq_true rfl) (dOk_at dt_X9_pointsOf 11 rfl) (fun v_7 h_8 _ => ?_)
  exact j_iret hC hret (dOk_at dt_X9_pointsOf 12 rfl)
def tb_X9_points : List (Nat × Instr × Nat) := [(0, .aload_n 0, 1), (1, .iload_n 1, 1), (2, .iload_n 2, 1), (3, .invokevirtual 278, 3), (6, .ifCond .ne 5, 3), (9, .iconst (-1), 1), (10, .ireturn, 1), (11, .aload_n 0, 1), (12, .iload_n 1, 1), (13, .iload_n 2, 1), (14, .invokevirtual 281, 3), (17, .ireturn, 1)]
theorem dt_X9_points : dOk cX9_points tb_X9_points = true := by decide +kernel
def fX9_points (h : Hp) (x1 : Int32) (x2 : Int32) : Option (Int32 × Hp) := bnd (fX9_areTwo h x1 x2) (fun v_1 h_2 => if v_1 = 0 then (some ((-1 : Int32), h_2)) else (bnd (fX9_pointsOf h_2 x1 x2) (fun v_4 h_5 => some (v_4, h_5))))
set_option maxRecDepth 100000 in
set_option maxHeartbeats 4000000 in
theorem c_X9_points {l : Launch} {sb : State} {D : va_G} {ids : Nat → ClassId} {n : Nat} (hN : 152 ≤ n) (h : Hp) (x1 : Int32) (x2 : Int32) (r : Int32 × Hp) (hr : fX9_points h x1 x2 = some r) : jM l yX9_points cX9_points 3 (some .int) 2 sb D ids shp St n [.ref 0, .int x1, .int x2] h (jQi sb D ids shp St n r) := by
  refine jM_of hr rfl (Nat.le_of_ble_eq_true rfl) ?_
  intro p e s m args below meth c hC hret
  unfold fX9_points
  refine j_aload_n hC 0 rfl rfl (dOk_at dt_X9_points 0 rfl) ?_
  refine j_iload_n hC 1 rfl rfl (dOk_at dt_X9_points 1 rfl) ?_
  refine j_iload_n hC 2 rfl rfl (dOk_at dt_X9_points 2 rfl) ?_
  refine j_callVi hC clX9_278 (fun r0 hr0 => c_X9_areTwo hN _ _ _ r0 hr0) (show shp 0 = (9, 12) from rfl) (Nat.lt_of_lt_of_le (Nat.le_of_ble_eq_true rfl : 0 < 152) hN) (by decide) rfl rfl ⟨Nat.le_of_ble_eq_true rfl, Nat.le_of_ble_eq_true rfl⟩ ⟨Nat.le_refl 0, Nat.le_refl 0⟩ (As := [.int x1, .int x2]) (st := []) rfl (Nat.le_of_ble_eq_true rfl) (dOk_at dt_X9_points 3 rfl) (fun v_1 h_2 _ => ?_)
  refine j_if_ne hC (tgt := 11) (by decide) (dOk_at dt_X9_points 4 rfl) (fun q_3 => ?_) (fun q_3 => ?_)
  · refine j_aload_n hC 0 rfl rfl (dOk_at dt_X9_points 7 rfl) ?_
    refine j_iload_n hC 1 rfl rfl (dOk_at dt_X9_points 8 rfl) ?_
    refine j_iload_n hC 2 rfl rfl (dOk_at dt_X9_points 9 rfl) ?_
    refine j_callVi hC clX9_281 (fun r0 hr0 => c_X9_pointsOf hN _ _ _ r0 hr0) (show shp 0 = (9, 12) from rfl) (Nat.lt_of_lt_of_le (Nat.le_of_ble_eq_true rfl : 0 < 152) hN) (by decide) rfl rfl ⟨Nat.le_of_ble_eq_true rfl, Nat.le_of_ble_eq_true rfl⟩ ⟨Nat.le_refl 0, Nat.le_refl 0⟩ (As := [.int x1, .int x2]) (st := []) rfl (Nat.le_of_ble_eq_true rfl) (dOk_at dt_X9_points 10 rfl) (fun v_4 h_5 _ => ?_)
    exact j_iret hC hret (dOk_at dt_X9_points 11 rfl)
  · refine j_iconst hC (v := (-1 : Int32)) rfl (dOk_at dt_X9_points 5 rfl) ?_
    exact j_iret hC hret (dOk_at dt_X9_points 6 rfl)
def tb_X9_agreed : List (Nat × Instr × Nat) := [(0, .aload_n 0, 1), (1, .iload_n 1, 1), (2, .iload_n 2, 1), (3, .invokevirtual 278, 3), (6, .ifCond .ne 5, 3), (9, .iconst (-1), 1), (10, .ireturn, 1), (11, .aload_n 0, 1), (12, .getfield 38, 3), (15, .iload_n 1, 1), (16, .invokevirtual 171, 3), (19, .aload_n 0, 1), (20, .getfield 38, 3), (23, .iload_n 2, 1), (24, .invokevirtual 171, 3), (27, .iand, 1), (28, .ireturn, 1)]
theorem dt_X9_agreed : dOk cX9_agreed tb_X9_agreed = true := by decide +kernel
def fX9_agreed (h : Hp) (x1 : Int32) (x2 : Int32) : Option (Int32 × Hp) := bnd (fX9_areTwo h x1 x2) (fun v_1 h_2 => if v_1 = 0 then (some ((-1 : Int32), h_2)) else (bnd (fX8_holdsOf 72 h_2 x1) (fun v_4 h_5 => bnd (fX8_holdsOf 72 h_5 x2) (fun v_6 h_7 => some ((v_4 &&& v_6), h_7)))))
set_option maxRecDepth 100000 in
set_option maxHeartbeats 4000000 in
theorem c_X9_agreed {l : Launch} {sb : State} {D : va_G} {ids : Nat → ClassId} {n : Nat} (hN : 152 ≤ n) (h : Hp) (x1 : Int32) (x2 : Int32) (r : Int32 × Hp) (hr : fX9_agreed h x1 x2 = some r) : jM l yX9_agreed cX9_agreed 3 (some .int) 2 sb D ids shp St n [.ref 0, .int x1, .int x2] h (jQi sb D ids shp St n r) := by
  refine jM_of hr rfl (Nat.le_of_ble_eq_true rfl) ?_
  intro p e s m args below meth c hC hret
  unfold fX9_agreed
  refine j_aload_n hC 0 rfl rfl (dOk_at dt_X9_agreed 0 rfl) ?_
  refine j_iload_n hC 1 rfl rfl (dOk_at dt_X9_agreed 1 rfl) ?_
  refine j_iload_n hC 2 rfl rfl (dOk_at dt_X9_agreed 2 rfl) ?_
  refine j_callVi hC clX9_278 (fun r0 hr0 => c_X9_areTwo hN _ _ _ r0 hr0) (show shp 0 = (9, 12) from rfl) (Nat.lt_of_lt_of_le (Nat.le_of_ble_eq_true rfl : 0 < 152) hN) (by decide) rfl rfl ⟨Nat.le_of_ble_eq_true rfl, Nat.le_of_ble_eq_true rfl⟩ ⟨Nat.le_refl 0, Nat.le_refl 0⟩ (As := [.int x1, .int x2]) (st := []) rfl (Nat.le_of_ble_eq_true rfl) (dOk_at dt_X9_agreed 3 rfl) (fun v_1 h_2 _ => ?_)
  refine j_if_ne hC (tgt := 11) (by decide) (dOk_at dt_X9_agreed 4 rfl) (fun q_3 => ?_) (fun q_3 => ?_)
  · refine j_aload_n hC 0 rfl rfl (dOk_at dt_X9_agreed 7 rfl) ?_
    refine j_getR hC flX9_38 (show shp 0 = (9, 12) from rfl) (Nat.lt_of_lt_of_le (Nat.le_of_ble_eq_true rfl : 0 < 152) hN) (by decide) (by decide) (fun _ _ _ => rfl) (fun hs => hs 0 5 72 rfl) (dOk_at dt_X9_agreed 8 rfl) ?_
    refine j_iload_n hC 1 rfl rfl (dOk_at dt_X9_agreed 9 rfl) ?_
    refine j_callVi hC clX9_171 (fun r0 hr0 => c_X8_holdsOf hN ((show shp 72 = (8, 15) from rfl)) _ _ r0 hr0) (show shp 72 = (8, 15) from rfl) (Nat.lt_of_lt_of_le (Nat.le_of_ble_eq_true rfl : 72 < 152) hN) (by decide) rfl rfl ⟨Nat.le_of_ble_eq_true rfl, Nat.le_of_ble_eq_true rfl⟩ ⟨Nat.le_refl 0, Nat.le_refl 0⟩ (As := [.int x1]) (st := []) rfl (Nat.le_of_ble_eq_true rfl) (dOk_at dt_X9_agreed 10 rfl) (fun v_4 h_5 _ => ?_)
    refine j_aload_n hC 0 rfl rfl (dOk_at dt_X9_agreed 11 rfl) ?_
    refine j_getR hC flX9_38 (show shp 0 = (9, 12) from rfl) (Nat.lt_of_lt_of_le (Nat.le_of_ble_eq_true rfl : 0 < 152) hN) (by decide) (by decide) (fun _ _ _ => rfl) (fun hs => hs 0 5 72 rfl) (dOk_at dt_X9_agreed 12 rfl) ?_
    refine j_iload_n hC 2 rfl rfl (dOk_at dt_X9_agreed 13 rfl) ?_
    refine j_callVi hC clX9_171 (fun r0 hr0 => c_X8_holdsOf hN ((show shp 72 = (8, 15) from rfl)) _ _ r0 hr0) (show shp 72 = (8, 15) from rfl) (Nat.lt_of_lt_of_le (Nat.le_of_ble_eq_true rfl : 72 < 152) hN) (by decide) rfl rfl ⟨Nat.le_of_ble_eq_true rfl, Nat.le_of_ble_eq_true rfl⟩ ⟨Nat.le_refl 0, Nat.le_refl 0⟩ (As := [.int x2]) (st := [.int v_4]) rfl (Nat.le_of_ble_eq_true rfl) (dOk_at dt_X9_agreed 14 rfl) (fun v_6 h_7 _ => ?_)
    refine j_iand hC (dOk_at dt_X9_agreed 15 rfl) ?_
    exact j_iret hC hret (dOk_at dt_X9_agreed 16 rfl)
  · refine j_iconst hC (v := (-1 : Int32)) rfl (dOk_at dt_X9_agreed 5 rfl) ?_
    exact j_iret hC hret (dOk_at dt_X9_agreed 6 rfl)
def tb_X9_match : List (Nat × Instr × Nat) := [(0, .iload_n 1, 1), (1, .ifCond .lt 8, 3), (4, .iload_n 1, 1), (5, .iconst 5, 1), (6, .if_icmp .le 5, 3), (9, .iconst (-1), 1), (10, .ireturn, 1), (11, .aload_n 0, 1), (12, .getfield 69, 3), (15, .aload_n 0, 1), (16, .getfield 38, 3), (19, .invokevirtual 284, 3), (22, .iload_n 1, 1), (23, .iconst 5, 1), (24, .if_icmp .ne 13, 3), (27, .aload_n 0, 1), (28, .getfield 69, 3), (31, .getfield 288, 3), (34, .goto 11, 3), (37, .aload_n 0, 1), (38, .getfield 69, 3), (41, .iload_n 1, 1), (42, .invokevirtual 291, 3), (45, .ireturn, 1)]
theorem dt_X9_match : dOk cX9_match tb_X9_match = true := by decide +kernel
def fX9_match (h : Hp) (x1 : Int32) : Option (Int32 × Hp) := if x1 < 0 then (some ((-1 : Int32), h)) else (if x1 ≤ (5 : Int32) then ((fX3_pair 72 h).bind (fun h_4 => if x1 = (5 : Int32) then (some ((hI h_4 103 0), h_4)) else (bnd (fX3_strawOf h_4 x1) (fun v_6 h_7 => some (v_6, h_7))))) else (some ((-1 : Int32), h)))
set_option maxRecDepth 100000 in
set_option maxHeartbeats 4000000 in
theorem c_X9_match {l : Launch} {sb : State} {D : va_G} {ids : Nat → ClassId} {n : Nat} (hN : 152 ≤ n) (h : Hp) (x1 : Int32) (r : Int32 × Hp) (hr : fX9_match h x1 = some r) : jM l yX9_match cX9_match 2 (some .int) 6 sb D ids shp St n [.ref 0, .int x1] h (jQi sb D ids shp St n r) := by
  refine jM_of hr rfl (Nat.le_of_ble_eq_true rfl) ?_
  intro p e s m args below meth c hC hret
  unfold fX9_match
  refine j_iload_n hC 1 rfl rfl (dOk_at dt_X9_match 0 rfl) ?_
  refine j_if_lt hC (tgt := 9) (by decide) (dOk_at dt_X9_match 1 rfl) (fun q_1 => ?_) (fun q_1 => ?_)
  · refine j_iconst hC (v := (-1 : Int32)) rfl (dOk_at dt_X9_match 5 rfl) ?_
    exact j_iret hC hret (dOk_at dt_X9_match 6 rfl)
  · refine j_iload_n hC 1 rfl rfl (dOk_at dt_X9_match 2 rfl) ?_
    refine j_iconst hC (v := (5 : Int32)) rfl (dOk_at dt_X9_match 3 rfl) ?_
    refine j_icmp_le hC (tgt := 11) (by decide) (dOk_at dt_X9_match 4 rfl) (fun q_2 => ?_) (fun q_2 => ?_)
    · refine j_aload_n hC 0 rfl rfl (dOk_at dt_X9_match 7 rfl) ?_
      refine j_getR hC flX9_69 (show shp 0 = (9, 12) from rfl) (Nat.lt_of_lt_of_le (Nat.le_of_ble_eq_true rfl : 0 < 152) hN) (by decide) (by decide) (fun _ _ _ => rfl) (fun hs => hs 0 11 103 rfl) (dOk_at dt_X9_match 8 rfl) ?_
      refine j_aload_n hC 0 rfl rfl (dOk_at dt_X9_match 9 rfl) ?_
      refine j_getR hC flX9_38 (show shp 0 = (9, 12) from rfl) (Nat.lt_of_lt_of_le (Nat.le_of_ble_eq_true rfl : 0 < 152) hN) (by decide) (by decide) (fun _ _ _ => rfl) (fun hs => hs 0 5 72 rfl) (dOk_at dt_X9_match 10 rfl) ?_
      refine j_callVv hC clX9_284 (fun r0 hr0 => c_X3_pair hN ((show shp 72 = (8, 15) from rfl)) _ r0 hr0) (show shp 103 = (3, 4) from rfl) (Nat.lt_of_lt_of_le (Nat.le_of_ble_eq_true rfl : 103 < 152) hN) (by decide) rfl rfl ⟨Nat.le_of_ble_eq_true rfl, Nat.le_of_ble_eq_true rfl⟩ ⟨Nat.le_refl 0, Nat.le_refl 0⟩ (As := [.ref 72]) (st := []) rfl (Nat.le_of_ble_eq_true rfl) (dOk_at dt_X9_match 11 rfl) (fun h_4 _ => ?_)
      refine j_iload_n hC 1 rfl rfl (dOk_at dt_X9_match 12 rfl) ?_
      refine j_iconst hC (v := (5 : Int32)) rfl (dOk_at dt_X9_match 13 rfl) ?_
      refine j_icmp_ne hC (tgt := 37) (by decide) (dOk_at dt_X9_match 14 rfl) (fun q_5 => ?_) (fun q_5 => ?_)
      · refine j_aload_n hC 0 rfl rfl (dOk_at dt_X9_match 19 rfl) ?_
        refine j_getR hC flX9_69 (show shp 0 = (9, 12) from rfl) (Nat.lt_of_lt_of_le (Nat.le_of_ble_eq_true rfl : 0 < 152) hN) (by decide) (by decide) (fun _ _ _ => rfl) (fun hs => hs 0 11 103 rfl) (dOk_at dt_X9_match 20 rfl) ?_
        refine j_iload_n hC 1 rfl rfl (dOk_at dt_X9_match 21 rfl) ?_
        refine j_callVi hC clX9_291 (fun r0 hr0 => c_X3_strawOf hN _ _ r0 hr0) (show shp 103 = (3, 4) from rfl) (Nat.lt_of_lt_of_le (Nat.le_of_ble_eq_true rfl : 103 < 152) hN) (by decide) rfl rfl ⟨Nat.le_of_ble_eq_true rfl, Nat.le_of_ble_eq_true rfl⟩ ⟨Nat.le_refl 0, Nat.le_refl 0⟩ (As := [.int x1]) (st := []) rfl (Nat.le_of_ble_eq_true rfl) (dOk_at dt_X9_match 22 rfl) (fun v_6 h_7 _ => ?_)
        exact j_iret hC hret (dOk_at dt_X9_match 23 rfl)
      · refine j_aload_n hC 0 rfl rfl (dOk_at dt_X9_match 15 rfl) ?_
        refine j_getR hC flX9_69 (show shp 0 = (9, 12) from rfl) (Nat.lt_of_lt_of_le (Nat.le_of_ble_eq_true rfl : 0 < 152) hN) (by decide) (by decide) (fun _ _ _ => rfl) (fun hs => hs 0 11 103 rfl) (dOk_at dt_X9_match 16 rfl) ?_
        refine j_getI hC flX9_288 (show shp 103 = (3, 4) from rfl) (Nat.lt_of_lt_of_le (Nat.le_of_ble_eq_true rfl : 103 < 152) hN) (by decide) (by decide) (fun _ _ _ => rfl) (dOk_at dt_X9_match 17 rfl) ?_
        refine j_goto hC (tgt := 45) (by decide) (dOk_at dt_X9_match 18 rfl) ?_
        exact j_iret hC hret (dOk_at dt_X9_match 23 rfl)
    · refine j_iconst hC (v := (-1 : Int32)) rfl (dOk_at dt_X9_match 5 rfl) ?_
      exact j_iret hC hret (dOk_at dt_X9_match 6 rfl)
def tb_X9_gain : List (Nat × Instr × Nat) := [(0, .aload_n 0, 1), (1, .iload_n 1, 1), (2, .iload_n 2, 1), (3, .invokevirtual 281, 3), (6, .istore 5, 2), (8, .aload_n 0, 1), (9, .getfield 38, 3), (12, .iload_n 1, 1), (13, .invokevirtual 171, 3), (16, .aload_n 0, 1), (17, .getfield 38, 3), (20, .iload_n 2, 1), (21, .invokevirtual 171, 3), (24, .iand, 1), (25, .invokestatic 208, 3), (28, .istore 6, 2), (30, .iload_n 3, 1), (31, .ifCond .ne 28, 3), (34, .iload 4, 2), (36, .ifCond .ne 20, 3), (39, .aload_n 0, 1), (40, .getfield 38, 3), (43, .iload_n 1, 1), (44, .invokevirtual 171, 3), (47, .invokestatic 208, 3), (50, .iload 5, 2), (52, .isub, 1), (53, .goto 5, 3), (56, .iload 5, 2), (58, .ireturn, 1), (59, .iload 4, 2), (61, .ifCond .ne 8, 3), (64, .iload 6, 2), (66, .goto 7, 3), (69, .iconst 2, 1), (70, .iload 6, 2), (72, .imul, 1), (73, .ireturn, 1)]
theorem dt_X9_gain : dOk cX9_gain tb_X9_gain = true := by decide +kernel
def fX9_gain (h : Hp) (x1 : Int32) (x2 : Int32) (x3 : Int32) (x4 : Int32) : Option (Int32 × Hp) := bnd (fX9_pointsOf h x1 x2) (fun v_1 h_2 => bnd (fX8_holdsOf 72 h_2 x1) (fun v_3 h_4 => bnd (fX8_holdsOf 72 h_4 x2) (fun v_5 h_6 => bnd (fJ6_bitCount_0f7a4 h_6 (v_3 &&& v_5)) (fun v_7 h_8 => if x3 = 0 then (if x4 = 0 then (bnd (fX8_holdsOf 72 h_8 x1) (fun v_12 h_13 => bnd (fJ6_bitCount_0f7a4 h_13 v_12) (fun v_14 h_15 => some ((v_14 - v_1), h_15)))) else (some (v_1, h_8))) else (if x4 = 0 then (some (v_7, h_8)) else (some (((2 : Int32) * v_7), h_8)))))))
set_option maxRecDepth 100000 in
set_option maxHeartbeats 4000000 in
theorem c_X9_gain {l : Launch} {sb : State} {D : va_G} {ids : Nat → ClassId} {n : Nat} (hN : 152 ≤ n) (h : Hp) (x1 : Int32) (x2 : Int32) (x3 : Int32) (x4 : Int32) (r : Int32 × Hp) (hr : fX9_gain h x1 x2 x3 x4 = some r) : jM l yX9_gain cX9_gain 7 (some .int) 2 sb D ids shp St n [.ref 0, .int x1, .int x2, .int x3, .int x4] h (jQi sb D ids shp St n r) := by
  refine jM_of hr rfl (Nat.le_of_ble_eq_true rfl) ?_
  intro p e s m args below meth c hC hret
  unfold fX9_gain
  refine j_aload_n hC 0 rfl rfl (dOk_at dt_X9_gain 0 rfl) ?_
  refine j_iload_n hC 1 rfl rfl (dOk_at dt_X9_gain 1 rfl) ?_
  refine j_iload_n hC 2 rfl rfl (dOk_at dt_X9_gain 2 rfl) ?_
  refine j_callVi hC clX9_281 (fun r0 hr0 => c_X9_pointsOf hN _ _ _ r0 hr0) (show shp 0 = (9, 12) from rfl) (Nat.lt_of_lt_of_le (Nat.le_of_ble_eq_true rfl : 0 < 152) hN) (by decide) rfl rfl ⟨Nat.le_of_ble_eq_true rfl, Nat.le_of_ble_eq_true rfl⟩ ⟨Nat.le_refl 0, Nat.le_refl 0⟩ (As := [.int x1, .int x2]) (st := []) rfl (Nat.le_of_ble_eq_true rfl) (dOk_at dt_X9_gain 3 rfl) (fun v_1 h_2 _ => ?_)
  refine j_istore hC (lv' := [(5, .int v_1), (0, .ref 0), (1, .int x1), (2, .int x2), (3, .int x3), (4, .int x4)]) (by decide) rfl (dOk_at dt_X9_gain 4 rfl) ?_
  refine j_aload_n hC 1 rfl rfl (dOk_at dt_X9_gain 5 rfl) ?_
  refine j_getR hC flX9_38 (show shp 0 = (9, 12) from rfl) (Nat.lt_of_lt_of_le (Nat.le_of_ble_eq_true rfl : 0 < 152) hN) (by decide) (by decide) (fun _ _ _ => rfl) (fun hs => hs 0 5 72 rfl) (dOk_at dt_X9_gain 6 rfl) ?_
  refine j_iload_n hC 2 rfl rfl (dOk_at dt_X9_gain 7 rfl) ?_
  refine j_callVi hC clX9_171 (fun r0 hr0 => c_X8_holdsOf hN ((show shp 72 = (8, 15) from rfl)) _ _ r0 hr0) (show shp 72 = (8, 15) from rfl) (Nat.lt_of_lt_of_le (Nat.le_of_ble_eq_true rfl : 72 < 152) hN) (by decide) rfl rfl ⟨Nat.le_of_ble_eq_true rfl, Nat.le_of_ble_eq_true rfl⟩ ⟨Nat.le_refl 0, Nat.le_refl 0⟩ (As := [.int x1]) (st := []) rfl (Nat.le_of_ble_eq_true rfl) (dOk_at dt_X9_gain 8 rfl) (fun v_3 h_4 _ => ?_)
  refine j_aload_n hC 1 rfl rfl (dOk_at dt_X9_gain 9 rfl) ?_
  refine j_getR hC flX9_38 (show shp 0 = (9, 12) from rfl) (Nat.lt_of_lt_of_le (Nat.le_of_ble_eq_true rfl : 0 < 152) hN) (by decide) (by decide) (fun _ _ _ => rfl) (fun hs => hs 0 5 72 rfl) (dOk_at dt_X9_gain 10 rfl) ?_
  refine j_iload_n hC 3 rfl rfl (dOk_at dt_X9_gain 11 rfl) ?_
  refine j_callVi hC clX9_171 (fun r0 hr0 => c_X8_holdsOf hN ((show shp 72 = (8, 15) from rfl)) _ _ r0 hr0) (show shp 72 = (8, 15) from rfl) (Nat.lt_of_lt_of_le (Nat.le_of_ble_eq_true rfl : 72 < 152) hN) (by decide) rfl rfl ⟨Nat.le_of_ble_eq_true rfl, Nat.le_of_ble_eq_true rfl⟩ ⟨Nat.le_refl 0, Nat.le_refl 0⟩ (As := [.int x2]) (st := [.int v_3]) rfl (Nat.le_of_ble_eq_true rfl) (dOk_at dt_X9_gain 12 rfl) (fun v_5 h_6 _ => ?_)
  refine j_iand hC (dOk_at dt_X9_gain 13 rfl) ?_
  refine j_callSi hC clX9_208 (fun r0 hr0 => c_J6_bitCount_0f7a4 hN _ _ r0 hr0) rfl ⟨Nat.le_of_ble_eq_true rfl, Nat.le_of_ble_eq_true rfl⟩ ⟨Nat.le_refl 0, Nat.le_refl 0⟩ (As := [.int (v_3 &&& v_5)]) (st := []) rfl (Nat.le_of_ble_eq_true rfl) (dOk_at dt_X9_gain 14 rfl) (fun v_7 h_8 _ => ?_)
  refine j_istore hC (lv' := [(6, .int v_7), (5, .int v_1), (0, .ref 0), (1, .int x1), (2, .int x2), (3, .int x3), (4, .int x4)]) (by decide) rfl (dOk_at dt_X9_gain 15 rfl) ?_
  refine j_iload_n hC 5 rfl rfl (dOk_at dt_X9_gain 16 rfl) ?_
  refine j_if_ne hC (tgt := 59) (by decide) (dOk_at dt_X9_gain 17 rfl) (fun q_9 => ?_) (fun q_9 => ?_)
  · refine j_iload hC 6 rfl (dOk_at dt_X9_gain 30 rfl) ?_
    refine j_if_ne hC (tgt := 69) (by decide) (dOk_at dt_X9_gain 31 rfl) (fun q_10 => ?_) (fun q_10 => ?_)
    · refine j_iconst hC (v := (2 : Int32)) rfl (dOk_at dt_X9_gain 34 rfl) ?_
      refine j_iload hC 0 rfl (dOk_at dt_X9_gain 35 rfl) ?_
      refine j_imul hC (dOk_at dt_X9_gain 36 rfl) ?_
      exact j_iret hC hret (dOk_at dt_X9_gain 37 rfl)
    · refine j_iload hC 0 rfl (dOk_at dt_X9_gain 32 rfl) ?_
      refine j_goto hC (tgt := 73) (by decide) (dOk_at dt_X9_gain 33 rfl) ?_
      exact j_iret hC hret (dOk_at dt_X9_gain 37 rfl)
  · refine j_iload hC 6 rfl (dOk_at dt_X9_gain 18 rfl) ?_
    refine j_if_ne hC (tgt := 56) (by decide) (dOk_at dt_X9_gain 19 rfl) (fun q_11 => ?_) (fun q_11 => ?_)
    · refine j_iload hC 1 rfl (dOk_at dt_X9_gain 28 rfl) ?_
      exact j_iret hC hret (dOk_at dt_X9_gain 29 rfl)
    · refine j_aload_n hC 2 rfl rfl (dOk_at dt_X9_gain 20 rfl) ?_
      refine j_getR hC flX9_38 (show shp 0 = (9, 12) from rfl) (Nat.lt_of_lt_of_le (Nat.le_of_ble_eq_true rfl : 0 < 152) hN) (by decide) (by decide) (fun _ _ _ => rfl) (fun hs => hs 0 5 72 rfl) (dOk_at dt_X9_gain 21 rfl) ?_
      refine j_iload_n hC 3 rfl rfl (dOk_at dt_X9_gain 22 rfl) ?_
      refine j_callVi hC clX9_171 (fun r0 hr0 => c_X8_holdsOf hN ((show shp 72 = (8, 15) from rfl)) _ _ r0 hr0) (show shp 72 = (8, 15) from rfl) (Nat.lt_of_lt_of_le (Nat.le_of_ble_eq_true rfl : 72 < 152) hN) (by decide) rfl rfl ⟨Nat.le_of_ble_eq_true rfl, Nat.le_of_ble_eq_true rfl⟩ ⟨Nat.le_refl 0, Nat.le_refl 0⟩ (As := [.int x1]) (st := []) rfl (Nat.le_of_ble_eq_true rfl) (dOk_at dt_X9_gain 23 rfl) (fun v_12 h_13 _ => ?_)
      refine j_callSi hC clX9_208 (fun r0 hr0 => c_J6_bitCount_0f7a4 hN _ _ r0 hr0) rfl ⟨Nat.le_of_ble_eq_true rfl, Nat.le_of_ble_eq_true rfl⟩ ⟨Nat.le_refl 0, Nat.le_refl 0⟩ (As := [.int v_12]) (st := []) rfl (Nat.le_of_ble_eq_true rfl) (dOk_at dt_X9_gain 24 rfl) (fun v_14 h_15 _ => ?_)
      refine j_iload hC 1 rfl (dOk_at dt_X9_gain 25 rfl) ?_
      refine j_isub hC (dOk_at dt_X9_gain 26 rfl) ?_
      refine j_goto hC (tgt := 58) (by decide) (dOk_at dt_X9_gain 27 rfl) ?_
      exact j_iret hC hret (dOk_at dt_X9_gain 29 rfl)
def tb_X9_staysWith : List (Nat × Instr × Nat) := [(0, .aload_n 0, 1), (1, .iload_n 1, 1), (2, .iload_n 2, 1), (3, .iload_n 3, 1), (4, .iload 4, 2), (6, .invokevirtual 372, 3), (9, .aload_n 0, 1), (10, .iload_n 1, 1), (11, .iload_n 2, 1), (12, .iconst 1, 1), (13, .iload_n 3, 1), (14, .isub, 1), (15, .iload 4, 2), (17, .invokevirtual 372, 3), (20, .if_icmp .lt 7, 3), (23, .iconst 1, 1), (24, .goto 4, 3), (27, .iconst 0, 1), (28, .ireturn, 1)]
theorem dt_X9_staysWith : dOk cX9_staysWith tb_X9_staysWith = true := by decide +kernel
def fX9_staysWith (h : Hp) (x1 : Int32) (x2 : Int32) (x3 : Int32) (x4 : Int32) : Option (Int32 × Hp) := bnd (fX9_gain h x1 x2 x3 x4) (fun v_1 h_2 => bnd (fX9_gain h_2 x1 x2 ((1 : Int32) - x3) x4) (fun v_3 h_4 => if v_1 < v_3 then (some ((0 : Int32), h_4)) else (some ((1 : Int32), h_4))))
set_option maxRecDepth 100000 in
set_option maxHeartbeats 4000000 in
theorem c_X9_staysWith {l : Launch} {sb : State} {D : va_G} {ids : Nat → ClassId} {n : Nat} (hN : 152 ≤ n) (h : Hp) (x1 : Int32) (x2 : Int32) (x3 : Int32) (x4 : Int32) (r : Int32 × Hp) (hr : fX9_staysWith h x1 x2 x3 x4 = some r) : jM l yX9_staysWith cX9_staysWith 5 (some .boolean) 3 sb D ids shp St n [.ref 0, .int x1, .int x2, .int x3, .int x4] h (jQi sb D ids shp St n r) := by
  refine jM_of hr rfl (Nat.le_of_ble_eq_true rfl) ?_
  intro p e s m args below meth c hC hret
  unfold fX9_staysWith
  refine j_aload_n hC 0 rfl rfl (dOk_at dt_X9_staysWith 0 rfl) ?_
  refine j_iload_n hC 1 rfl rfl (dOk_at dt_X9_staysWith 1 rfl) ?_
  refine j_iload_n hC 2 rfl rfl (dOk_at dt_X9_staysWith 2 rfl) ?_
  refine j_iload_n hC 3 rfl rfl (dOk_at dt_X9_staysWith 3 rfl) ?_
  refine j_iload hC 4 rfl (dOk_at dt_X9_staysWith 4 rfl) ?_
  refine j_callVi hC clX9_372 (fun r0 hr0 => c_X9_gain hN _ _ _ _ _ r0 hr0) (show shp 0 = (9, 12) from rfl) (Nat.lt_of_lt_of_le (Nat.le_of_ble_eq_true rfl : 0 < 152) hN) (by decide) rfl rfl ⟨Nat.le_of_ble_eq_true rfl, Nat.le_of_ble_eq_true rfl⟩ ⟨Nat.le_refl 0, Nat.le_refl 0⟩ (As := [.int x1, .int x2, .int x3, .int x4]) (st := []) rfl (Nat.le_of_ble_eq_true rfl) (dOk_at dt_X9_staysWith 5 rfl) (fun v_1 h_2 _ => ?_)
  refine j_aload_n hC 0 rfl rfl (dOk_at dt_X9_staysWith 6 rfl) ?_
  refine j_iload_n hC 1 rfl rfl (dOk_at dt_X9_staysWith 7 rfl) ?_
  refine j_iload_n hC 2 rfl rfl (dOk_at dt_X9_staysWith 8 rfl) ?_
  refine j_iconst hC (v := (1 : Int32)) rfl (dOk_at dt_X9_staysWith 9 rfl) ?_
  refine j_iload_n hC 3 rfl rfl (dOk_at dt_X9_staysWith 10 rfl) ?_
  refine j_isub hC (dOk_at dt_X9_staysWith 11 rfl) ?_
  refine j_iload hC 4 rfl (dOk_at dt_X9_staysWith 12 rfl) ?_
  refine j_callVi hC clX9_372 (fun r0 hr0 => c_X9_gain hN _ _ _ _ _ r0 hr0) (show shp 0 = (9, 12) from rfl) (Nat.lt_of_lt_of_le (Nat.le_of_ble_eq_true rfl : 0 < 152) hN) (by decide) rfl rfl ⟨Nat.le_of_ble_eq_true rfl, Nat.le_of_ble_eq_true rfl⟩ ⟨Nat.le_refl 0, Nat.le_refl 0⟩ (As := [.int x1, .int x2, .int ((1 : Int32) - x3), .int x4]) (st := [.int v_1]) rfl (Nat.le_of_ble_eq_true rfl) (dOk_at dt_X9_staysWith 13 rfl) (fun v_3 h_4 _ => ?_)
  refine j_icmp_lt hC (tgt := 27) (by decide) (dOk_at dt_X9_staysWith 14 rfl) (fun q_5 => ?_) (fun q_5 => ?_)
  · refine j_iconst hC (v := (0 : Int32)) rfl (dOk_at dt_X9_staysWith 17 rfl) ?_
    exact j_zretK hC hret rfl (dOk_at dt_X9_staysWith 18 rfl)
  · refine j_iconst hC (v := (1 : Int32)) rfl (dOk_at dt_X9_staysWith 15 rfl) ?_
    refine j_goto hC (tgt := 28) (by decide) (dOk_at dt_X9_staysWith 16 rfl) ?_
    exact j_zretK hC hret rfl (dOk_at dt_X9_staysWith 18 rfl)
