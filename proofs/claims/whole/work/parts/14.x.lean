def tb_X8_begin : List (Nat × Instr × Nat) := [(0, .aload_n 0, 1), (1, .aload_n 1, 1), (2, .putfield 9, 3), (5, .aload_n 0, 1), (6, .iconst 0, 1), (7, .putfield 40, 3), (10, .aload_n 0, 1), (11, .iconst 0, 1), (12, .putfield 43, 3), (15, .aload_n 0, 1), (16, .iconst 0, 1), (17, .putfield 46, 3), (20, .aload_n 0, 1), (21, .aload_n 1, 1), (22, .getfield 49, 3), (25, .putfield 54, 3), (28, .iconst 0, 1), (29, .istore_n 2, 1), (30, .iload_n 2, 1), (31, .iconst 5, 1), (32, .if_icmp .ge 36, 3), (35, .aload_n 0, 1), (36, .getfield 15, 3), (39, .iload_n 2, 1), (40, .iload_n 2, 1), (41, .aload_n 1, 1), (42, .getfield 57, 3), (45, .getfield 61, 3), (48, .if_icmp .ge 12, 3), (51, .aload_n 1, 1), (52, .getfield 66, 3), (55, .iload_n 2, 1), (56, .iaload, 1), (57, .goto 4, 3), (60, .iconst 0, 1), (61, .iastore, 1), (62, .iinc 2 1, 3), (65, .goto (-35), 3), (68, .iconst 0, 1), (69, .istore_n 2, 1), (70, .iload_n 2, 1), (71, .iconst 5, 1), (72, .if_icmp .ge 50, 3), (75, .aload_n 0, 1), (76, .getfield 19, 3), (79, .iload_n 2, 1), (80, .iload_n 2, 1), (81, .aload_n 1, 1), (82, .getfield 69, 3), (85, .getfield 61, 3), (88, .if_icmp .ge 12, 3), (91, .aload_n 1, 1), (92, .getfield 72, 3), (95, .iload_n 2, 1), (96, .iaload, 1), (97, .goto 4, 3), (100, .iconst 0, 1), (101, .iastore, 1), (102, .aload_n 0, 1), (103, .getfield 22, 3), (106, .iload_n 2, 1), (107, .iconst 0, 1), (108, .iastore, 1), (109, .aload_n 0, 1), (110, .getfield 25, 3), (113, .iload_n 2, 1), (114, .iconst 0, 1), (115, .iastore, 1), (116, .iinc 2 1, 3), (119, .goto (-49), 3), (122, .aload_n 0, 1), (123, .invokevirtual 75, 3), (126, .return_, 1)]
theorem dt_X8_begin : dOk cX8_begin tb_X8_begin = true := by decide +kernel
def fX8_begin_101 (tt : Nat) (r1 : Nat) (rec70 : Hp → Int32 → Option (Hp)) (h : Hp) (x2 : Int32) (s1 : Int32) (s2 : Int32) : Option (Hp) := if inb s1 5 then (if inb x2 5 then (if inb x2 5 then (rec70 (uI (uI (uI h (rf tt 6) (Int32.toNatClampNeg s1) s2) (rf tt 7) (Int32.toNatClampNeg x2) (0 : Int32)) (rf tt 8) (Int32.toNatClampNeg x2) (0 : Int32)) (x2 + (1 : Int32))) else none) else none) else none
def fX8_begin_70 : Nat → (Nat) → (Nat) → Hp → Int32 → Option (Hp)
  | 0, _, _, _, _ => none
  | fu + 1, tt, r1, h, x2 => if (5 : Int32) ≤ x2 then ((fX8_goPlainly tt h).bind (fun h_5 => some h_5)) else (if (hI h (rf r1 4) 2) ≤ x2 then (fX8_begin_101 tt r1 (fX8_begin_70 fu tt r1) h x2 x2 (0 : Int32)) else (if inb x2 5 then (fX8_begin_101 tt r1 (fX8_begin_70 fu tt r1) h x2 x2 (hI h (rf r1 5) (Int32.toNatClampNeg x2))) else none))
def fX8_begin_61 (tt : Nat) (r1 : Nat) (rec30 : Hp → Int32 → Option (Hp)) (h : Hp) (x2 : Int32) (s1 : Int32) (s2 : Int32) : Option (Hp) := if inb s1 5 then (rec30 (uI h (rf tt 5) (Int32.toNatClampNeg s1) s2) (x2 + (1 : Int32))) else none
def fX8_begin_30 : Nat → (Nat) → (Nat) → Hp → Int32 → Option (Hp)
  | 0, _, _, _, _ => none
  | fu + 1, tt, r1, h, x2 => if (5 : Int32) ≤ x2 then (fX8_begin_70 FU tt r1 h (0 : Int32)) else (if (hI h (rf r1 1) 2) ≤ x2 then (fX8_begin_61 tt r1 (fX8_begin_30 fu tt r1) h x2 x2 (0 : Int32)) else (if inb x2 5 then (fX8_begin_61 tt r1 (fX8_begin_30 fu tt r1) h x2 x2 (hI h (rf r1 3) (Int32.toNatClampNeg x2))) else none))
def fX8_begin (tt : Nat) (r1 : Nat) (h : Hp) : Option (Hp) := fX8_begin_30 FU tt r1 (uI (uI (uI (uI (uR h tt 0 (some r1)) tt 1 (0 : Int32)) tt 2 (0 : Int32)) tt 3 (0 : Int32)) tt 4 (hI (uI (uI (uI (uR h tt 0 (some r1)) tt 1 (0 : Int32)) tt 2 (0 : Int32)) tt 3 (0 : Int32)) r1 15)) (0 : Int32)
set_option maxRecDepth 100000 in
set_option maxHeartbeats 4000000 in
theorem c_X8_begin {l : Launch} {sb : State} {D : va_G} {ids : Nat → ClassId} {n : Nat} (hN : 152 ≤ n) {tt : Nat} {r1 : Nat} (ht : shp tt = (8, 15)) (h1 : shp r1 = (7, 20)) (h : Hp) (r : Hp) (hr : fX8_begin tt r1 h = some r) : jM l yX8_begin cX8_begin 3 none 1 sb D ids shp St n [.ref tt, .ref r1] h (jQv sb D ids shp St n r) := by
  refine jM_of hr rfl (Nat.le_of_ble_eq_true rfl) ?_
  intro p e s m args below meth c hC hret
  have b101 : ∀ (rec70 : Hp → Int32 → Option (Hp)) (hrec70 : ∀ (h : Hp) (x2 : Int32) , jJ p l e (rmD 1) s m args below meth c 3 sb D ids shp St (fun r => MQ below (jQv sb D ids shp St n r) args s 0 0 (jA sb)) n 0 0 h 70 [(0, .ref tt), (1, .ref r1), (2, .int x2)] [] (rec70 h x2)) (h : Hp) (x2 : Int32) (s1 : Int32) (s2 : Int32) , jJ p l e (rmD 1) s m args below meth c 3 sb D ids shp St (fun r => MQ below (jQv sb D ids shp St n r) args s 0 0 (jA sb)) n 0 0 h 101 [(0, .ref tt), (1, .ref r1), (2, .int x2)] [.int s2, .int s1, .ref (rf tt 6)] (fX8_begin_101 tt r1 rec70 h x2 s1 s2) := by
    intro rec70 hrec70 h x2 s1 s2 
    unfold fX8_begin_101
    refine j_iast hC St_SP (sf_8_6 ht).2.1 (Nat.lt_of_lt_of_le (sf_8_6 ht).2.2 hN) (dOk_at dt_X8_begin 57 rfl) ?_
    refine j_aload_n hC 0 rfl rfl (dOk_at dt_X8_begin 58 rfl) ?_
    refine j_getR hC flX8_22 ht (jlt hN ht (by decide)) (by decide) (by decide) (fun _ _ _ => rfl) (fun hs => hs _ _ _ (sf_8_7 ht).1) (dOk_at dt_X8_begin 59 rfl) ?_
    refine j_iload_n hC 2 rfl rfl (dOk_at dt_X8_begin 60 rfl) ?_
    refine j_iconst hC (v := (0 : Int32)) rfl (dOk_at dt_X8_begin 61 rfl) ?_
    refine j_iast hC St_SP (sf_8_7 ht).2.1 (Nat.lt_of_lt_of_le (sf_8_7 ht).2.2 hN) (dOk_at dt_X8_begin 62 rfl) ?_
    refine j_aload_n hC 0 rfl rfl (dOk_at dt_X8_begin 63 rfl) ?_
    refine j_getR hC flX8_25 ht (jlt hN ht (by decide)) (by decide) (by decide) (fun _ _ _ => rfl) (fun hs => hs _ _ _ (sf_8_8 ht).1) (dOk_at dt_X8_begin 64 rfl) ?_
    refine j_iload_n hC 2 rfl rfl (dOk_at dt_X8_begin 65 rfl) ?_
    refine j_iconst hC (v := (0 : Int32)) rfl (dOk_at dt_X8_begin 66 rfl) ?_
    refine j_iast hC St_SP (sf_8_8 ht).2.1 (Nat.lt_of_lt_of_le (sf_8_8 ht).2.2 hN) (dOk_at dt_X8_begin 67 rfl) ?_
    refine j_iinc hC (v := (x2 + (1 : Int32))) (lv' := [(2, .int (x2 + (1 : Int32))), (0, .ref tt), (1, .ref r1)]) 2 rfl (congrArg (fun z => x2 + z) (show Int32.ofInt (1) = (1 : Int32) from by decide)) (by decide) rfl (dOk_at dt_X8_begin 68 rfl) ?_
    refine j_goto hC (tgt := 70) (by decide) (dOk_at dt_X8_begin 69 rfl) ?_
    refine j_sub [1, 2, 0] rfl ?_
    exact hrec70 (uI (uI (uI h (rf tt 6) (Int32.toNatClampNeg s1) s2) (rf tt 7) (Int32.toNatClampNeg x2) (0 : Int32)) (rf tt 8) (Int32.toNatClampNeg x2) (0 : Int32)) (x2 + (1 : Int32)) 
  have b70 : ∀ (fu : Nat) (h : Hp) (x2 : Int32) , jJ p l e (rmD 1) s m args below meth c 3 sb D ids shp St (fun r => MQ below (jQv sb D ids shp St n r) args s 0 0 (jA sb)) n 0 0 h 70 [(0, .ref tt), (1, .ref r1), (2, .int x2)] [] (fX8_begin_70 fu tt r1 h x2) := by
    intro fu 
    induction fu with
    | zero => intro h x2 ; exact j_none
    | succ fu ih =>
    intro h x2 
    rw [fX8_begin_70]
    refine j_iload_n hC 2 rfl rfl (dOk_at dt_X8_begin 40 rfl) ?_
    refine j_iconst hC (v := (5 : Int32)) rfl (dOk_at dt_X8_begin 41 rfl) ?_
    refine j_icmp_ge hC (tgt := 122) (by decide) (dOk_at dt_X8_begin 42 rfl) (fun q_3 => ?_) (fun q_3 => ?_)
    · refine j_aload_n hC 0 rfl rfl (dOk_at dt_X8_begin 70 rfl) ?_
      refine j_callVv hC clX8_75 (fun rz hrz => c_X8_goPlainly hN (ht) _ rz hrz) ht (jlt hN ht (by decide)) (by decide) rfl rfl ⟨Nat.le_of_ble_eq_true rfl, Nat.le_of_ble_eq_true rfl⟩ ⟨Nat.le_refl 0, Nat.le_refl 0⟩ (As := []) (st := []) rfl (Nat.le_of_ble_eq_true rfl) (dOk_at dt_X8_begin 71 rfl) (fun h_5 _ => ?_)
      exact j_vret hC hret (dOk_at dt_X8_begin 72 rfl)
    · refine j_aload_n hC 0 rfl rfl (dOk_at dt_X8_begin 43 rfl) ?_
      refine j_getR hC flX8_19 ht (jlt hN ht (by decide)) (by decide) (by decide) (fun _ _ _ => rfl) (fun hs => hs _ _ _ (sf_8_6 ht).1) (dOk_at dt_X8_begin 44 rfl) ?_
      refine j_iload_n hC 2 rfl rfl (dOk_at dt_X8_begin 45 rfl) ?_
      refine j_iload_n hC 2 rfl rfl (dOk_at dt_X8_begin 46 rfl) ?_
      refine j_aload_n hC 1 rfl rfl (dOk_at dt_X8_begin 47 rfl) ?_
      refine j_getR hC flX8_69 h1 (jlt hN h1 (by decide)) (by decide) (by decide) (fun _ _ _ => rfl) (fun hs => hs _ _ _ (sf_7_4 h1).1) (dOk_at dt_X8_begin 48 rfl) ?_
      refine j_getI hC flX8_61 (sf_7_4 h1).2.1 (Nat.lt_of_lt_of_le (sf_7_4 h1).2.2 hN) (by decide) (by decide) (fun _ _ _ => rfl) (dOk_at dt_X8_begin 49 rfl) ?_
      refine j_icmp_ge hC (tgt := 100) (by decide) (dOk_at dt_X8_begin 50 rfl) (fun q_6 => ?_) (fun q_6 => ?_)
      · refine j_iconst hC (v := (0 : Int32)) rfl (dOk_at dt_X8_begin 56 rfl) ?_
        exact b101 (fX8_begin_70 fu tt r1) ih h x2 x2 (0 : Int32) 
      · refine j_aload_n hC 1 rfl rfl (dOk_at dt_X8_begin 51 rfl) ?_
        refine j_getR hC flX8_72 h1 (jlt hN h1 (by decide)) (by decide) (by decide) (fun _ _ _ => rfl) (fun hs => hs _ _ _ (sf_7_5 h1).1) (dOk_at dt_X8_begin 52 rfl) ?_
        refine j_iload_n hC 2 rfl rfl (dOk_at dt_X8_begin 53 rfl) ?_
        refine j_iald hC (sf_7_5 h1).2.1 (Nat.lt_of_lt_of_le (sf_7_5 h1).2.2 hN) (dOk_at dt_X8_begin 54 rfl) ?_
        refine j_goto hC (tgt := 101) (by decide) (dOk_at dt_X8_begin 55 rfl) ?_
        exact b101 (fX8_begin_70 fu tt r1) ih h x2 x2 (hI h (rf r1 5) (Int32.toNatClampNeg x2)) 
  have b61 : ∀ (rec30 : Hp → Int32 → Option (Hp)) (hrec30 : ∀ (h : Hp) (x2 : Int32) , jJ p l e (rmD 1) s m args below meth c 3 sb D ids shp St (fun r => MQ below (jQv sb D ids shp St n r) args s 0 0 (jA sb)) n 0 0 h 30 [(0, .ref tt), (1, .ref r1), (2, .int x2)] [] (rec30 h x2)) (h : Hp) (x2 : Int32) (s1 : Int32) (s2 : Int32) , jJ p l e (rmD 1) s m args below meth c 3 sb D ids shp St (fun r => MQ below (jQv sb D ids shp St n r) args s 0 0 (jA sb)) n 0 0 h 61 [(0, .ref tt), (1, .ref r1), (2, .int x2)] [.int s2, .int s1, .ref (rf tt 5)] (fX8_begin_61 tt r1 rec30 h x2 s1 s2) := by
    intro rec30 hrec30 h x2 s1 s2 
    unfold fX8_begin_61
    refine j_iast hC St_SP (sf_8_5 ht).2.1 (Nat.lt_of_lt_of_le (sf_8_5 ht).2.2 hN) (dOk_at dt_X8_begin 35 rfl) ?_
    refine j_iinc hC (v := (x2 + (1 : Int32))) (lv' := [(2, .int (x2 + (1 : Int32))), (0, .ref tt), (1, .ref r1)]) 2 rfl (congrArg (fun z => x2 + z) (show Int32.ofInt (1) = (1 : Int32) from by decide)) (by decide) rfl (dOk_at dt_X8_begin 36 rfl) ?_
    refine j_goto hC (tgt := 30) (by decide) (dOk_at dt_X8_begin 37 rfl) ?_
    refine j_sub [1, 2, 0] rfl ?_
    exact hrec30 (uI h (rf tt 5) (Int32.toNatClampNeg s1) s2) (x2 + (1 : Int32)) 
  have b30 : ∀ (fu : Nat) (h : Hp) (x2 : Int32) , jJ p l e (rmD 1) s m args below meth c 3 sb D ids shp St (fun r => MQ below (jQv sb D ids shp St n r) args s 0 0 (jA sb)) n 0 0 h 30 [(0, .ref tt), (1, .ref r1), (2, .int x2)] [] (fX8_begin_30 fu tt r1 h x2) := by
    intro fu 
    induction fu with
    | zero => intro h x2 ; exact j_none
    | succ fu ih =>
    intro h x2 
    rw [fX8_begin_30]
    refine j_iload_n hC 2 rfl rfl (dOk_at dt_X8_begin 18 rfl) ?_
    refine j_iconst hC (v := (5 : Int32)) rfl (dOk_at dt_X8_begin 19 rfl) ?_
    refine j_icmp_ge hC (tgt := 68) (by decide) (dOk_at dt_X8_begin 20 rfl) (fun q_1 => ?_) (fun q_1 => ?_)
    · refine j_iconst hC (v := (0 : Int32)) rfl (dOk_at dt_X8_begin 38 rfl) ?_
      refine j_istore_n hC rfl (lv' := [(2, .int (0 : Int32)), (0, .ref tt), (1, .ref r1)]) (by decide) rfl (dOk_at dt_X8_begin 39 rfl) ?_
      refine j_sub [1, 2, 0] rfl ?_
      exact b70 FU h (0 : Int32) 
    · refine j_aload_n hC 0 rfl rfl (dOk_at dt_X8_begin 21 rfl) ?_
      refine j_getR hC flX8_15 ht (jlt hN ht (by decide)) (by decide) (by decide) (fun _ _ _ => rfl) (fun hs => hs _ _ _ (sf_8_5 ht).1) (dOk_at dt_X8_begin 22 rfl) ?_
      refine j_iload_n hC 2 rfl rfl (dOk_at dt_X8_begin 23 rfl) ?_
      refine j_iload_n hC 2 rfl rfl (dOk_at dt_X8_begin 24 rfl) ?_
      refine j_aload_n hC 1 rfl rfl (dOk_at dt_X8_begin 25 rfl) ?_
      refine j_getR hC flX8_57 h1 (jlt hN h1 (by decide)) (by decide) (by decide) (fun _ _ _ => rfl) (fun hs => hs _ _ _ (sf_7_1 h1).1) (dOk_at dt_X8_begin 26 rfl) ?_
      refine j_getI hC flX8_61 (sf_7_1 h1).2.1 (Nat.lt_of_lt_of_le (sf_7_1 h1).2.2 hN) (by decide) (by decide) (fun _ _ _ => rfl) (dOk_at dt_X8_begin 27 rfl) ?_
      refine j_icmp_ge hC (tgt := 60) (by decide) (dOk_at dt_X8_begin 28 rfl) (fun q_2 => ?_) (fun q_2 => ?_)
      · refine j_iconst hC (v := (0 : Int32)) rfl (dOk_at dt_X8_begin 34 rfl) ?_
        exact b61 (fX8_begin_30 fu tt r1) ih h x2 x2 (0 : Int32) 
      · refine j_aload_n hC 1 rfl rfl (dOk_at dt_X8_begin 29 rfl) ?_
        refine j_getR hC flX8_66 h1 (jlt hN h1 (by decide)) (by decide) (by decide) (fun _ _ _ => rfl) (fun hs => hs _ _ _ (sf_7_3 h1).1) (dOk_at dt_X8_begin 30 rfl) ?_
        refine j_iload_n hC 2 rfl rfl (dOk_at dt_X8_begin 31 rfl) ?_
        refine j_iald hC (sf_7_3 h1).2.1 (Nat.lt_of_lt_of_le (sf_7_3 h1).2.2 hN) (dOk_at dt_X8_begin 32 rfl) ?_
        refine j_goto hC (tgt := 61) (by decide) (dOk_at dt_X8_begin 33 rfl) ?_
        exact b61 (fX8_begin_30 fu tt r1) ih h x2 x2 (hI h (rf r1 3) (Int32.toNatClampNeg x2)) 
  unfold fX8_begin
  refine j_aload_n hC 0 rfl rfl (dOk_at dt_X8_begin 0 rfl) ?_
  refine j_aload_n hC 1 rfl rfl (dOk_at dt_X8_begin 1 rfl) ?_
  refine j_putR hC flX8_9 ht (jlt hN ht (by decide)) (by decide) (by decide) rfl rfl (fun hs => St_uR hs (ns_8_0 ht)) (dOk_at dt_X8_begin 2 rfl) ?_
  refine j_aload_n hC 0 rfl rfl (dOk_at dt_X8_begin 3 rfl) ?_
  refine j_iconst hC (v := (0 : Int32)) rfl (dOk_at dt_X8_begin 4 rfl) ?_
  refine j_putI hC St_SP flX8_40 ht (jlt hN ht (by decide)) (by decide) (by decide) rfl rfl (dOk_at dt_X8_begin 5 rfl) ?_
  refine j_aload_n hC 0 rfl rfl (dOk_at dt_X8_begin 6 rfl) ?_
  refine j_iconst hC (v := (0 : Int32)) rfl (dOk_at dt_X8_begin 7 rfl) ?_
  refine j_putI hC St_SP flX8_43 ht (jlt hN ht (by decide)) (by decide) (by decide) rfl rfl (dOk_at dt_X8_begin 8 rfl) ?_
  refine j_aload_n hC 0 rfl rfl (dOk_at dt_X8_begin 9 rfl) ?_
  refine j_iconst hC (v := (0 : Int32)) rfl (dOk_at dt_X8_begin 10 rfl) ?_
  refine j_putI hC St_SP flX8_46 ht (jlt hN ht (by decide)) (by decide) (by decide) rfl rfl (dOk_at dt_X8_begin 11 rfl) ?_
  refine j_aload_n hC 0 rfl rfl (dOk_at dt_X8_begin 12 rfl) ?_
  refine j_aload_n hC 1 rfl rfl (dOk_at dt_X8_begin 13 rfl) ?_
  refine j_getI hC flX8_49 h1 (jlt hN h1 (by decide)) (by decide) (by decide) (fun _ _ _ => rfl) (dOk_at dt_X8_begin 14 rfl) ?_
  refine j_putI hC St_SP flX8_54 ht (jlt hN ht (by decide)) (by decide) (by decide) rfl rfl (dOk_at dt_X8_begin 15 rfl) ?_
  refine j_iconst hC (v := (0 : Int32)) rfl (dOk_at dt_X8_begin 16 rfl) ?_
  refine j_istore_n hC rfl (lv' := [(2, .int (0 : Int32)), (0, .ref tt), (1, .ref r1)]) (by decide) rfl (dOk_at dt_X8_begin 17 rfl) ?_
  refine j_sub [1, 2, 0] rfl ?_
  exact b30 FU (uI (uI (uI (uI (uR h tt 0 (some r1)) tt 1 (0 : Int32)) tt 2 (0 : Int32)) tt 3 (0 : Int32)) tt 4 (hI (uI (uI (uI (uR h tt 0 (some r1)) tt 1 (0 : Int32)) tt 2 (0 : Int32)) tt 3 (0 : Int32)) r1 15)) (0 : Int32) 
def tb_X8_copyFrom : List (Nat × Instr × Nat) := [(0, .aload_n 0, 1), (1, .aload_n 1, 1), (2, .getfield 9, 3), (5, .putfield 9, 3), (8, .aload_n 0, 1), (9, .aload_n 1, 1), (10, .getfield 40, 3), (13, .putfield 40, 3), (16, .aload_n 0, 1), (17, .aload_n 1, 1), (18, .getfield 43, 3), (21, .putfield 43, 3), (24, .aload_n 0, 1), (25, .aload_n 1, 1), (26, .getfield 46, 3), (29, .putfield 46, 3), (32, .aload_n 0, 1), (33, .aload_n 1, 1), (34, .getfield 54, 3), (37, .putfield 54, 3), (40, .iconst 0, 1), (41, .istore_n 2, 1), (42, .iload_n 2, 1), (43, .iconst 5, 1), (44, .if_icmp .ge 21, 3), (47, .aload_n 0, 1), (48, .getfield 15, 3), (51, .iload_n 2, 1), (52, .aload_n 1, 1), (53, .getfield 15, 3), (56, .iload_n 2, 1), (57, .iaload, 1), (58, .iastore, 1), (59, .iinc 2 1, 3), (62, .goto (-20), 3), (65, .iconst 0, 1), (66, .istore_n 2, 1), (67, .iload_n 2, 1), (68, .iconst 5, 1), (69, .if_icmp .ge 45, 3), (72, .aload_n 0, 1), (73, .getfield 19, 3), (76, .iload_n 2, 1), (77, .aload_n 1, 1), (78, .getfield 19, 3), (81, .iload_n 2, 1), (82, .iaload, 1), (83, .iastore, 1), (84, .aload_n 0, 1), (85, .getfield 22, 3), (88, .iload_n 2, 1), (89, .aload_n 1, 1), (90, .getfield 22, 3), (93, .iload_n 2, 1), (94, .iaload, 1), (95, .iastore, 1), (96, .aload_n 0, 1), (97, .getfield 25, 3), (100, .iload_n 2, 1), (101, .aload_n 1, 1), (102, .getfield 25, 3), (105, .iload_n 2, 1), (106, .iaload, 1), (107, .iastore, 1), (108, .iinc 2 1, 3), (111, .goto (-44), 3), (114, .aload_n 0, 1), (115, .invokevirtual 75, 3), (118, .return_, 1)]
theorem dt_X8_copyFrom : dOk cX8_copyFrom tb_X8_copyFrom = true := by decide +kernel
def fX8_copyFrom_67 : Nat → (Nat) → (Nat) → Hp → Int32 → Option (Hp)
  | 0, _, _, _, _ => none
  | fu + 1, tt, r1, h, x2 => if (5 : Int32) ≤ x2 then ((fX8_goPlainly tt h).bind (fun h_6 => some h_6)) else (if inb x2 5 then (if inb x2 5 then (if inb x2 5 then (if inb x2 5 then (if inb x2 5 then (if inb x2 5 then ((fX8_copyFrom_67 fu tt r1) (uI (uI (uI h (rf tt 6) (Int32.toNatClampNeg x2) (hI h (rf r1 6) (Int32.toNatClampNeg x2))) (rf tt 7) (Int32.toNatClampNeg x2) (hI (uI h (rf tt 6) (Int32.toNatClampNeg x2) (hI h (rf r1 6) (Int32.toNatClampNeg x2))) (rf r1 7) (Int32.toNatClampNeg x2))) (rf tt 8) (Int32.toNatClampNeg x2) (hI (uI (uI h (rf tt 6) (Int32.toNatClampNeg x2) (hI h (rf r1 6) (Int32.toNatClampNeg x2))) (rf tt 7) (Int32.toNatClampNeg x2) (hI (uI h (rf tt 6) (Int32.toNatClampNeg x2) (hI h (rf r1 6) (Int32.toNatClampNeg x2))) (rf r1 7) (Int32.toNatClampNeg x2))) (rf r1 8) (Int32.toNatClampNeg x2))) (x2 + (1 : Int32))) else none) else none) else none) else none) else none) else none)
def fX8_copyFrom_42 : Nat → (Nat) → (Nat) → Hp → Int32 → Option (Hp)
  | 0, _, _, _, _ => none
  | fu + 1, tt, r1, h, x2 => if (5 : Int32) ≤ x2 then (fX8_copyFrom_67 FU tt r1 h (0 : Int32)) else (if inb x2 5 then (if inb x2 5 then ((fX8_copyFrom_42 fu tt r1) (uI h (rf tt 5) (Int32.toNatClampNeg x2) (hI h (rf r1 5) (Int32.toNatClampNeg x2))) (x2 + (1 : Int32))) else none) else none)
def fX8_copyFrom (tt : Nat) (r1 : Nat) (h : Hp) : Option (Hp) := (dref shp h r1 0 (7, 20)).bind (fun z_1 => fX8_copyFrom_42 FU tt r1 (uI (uI (uI (uI (uR h tt 0 (some z_1)) tt 1 (hI (uR h tt 0 (some z_1)) r1 1)) tt 2 (hI (uI (uR h tt 0 (some z_1)) tt 1 (hI (uR h tt 0 (some z_1)) r1 1)) r1 2)) tt 3 (hI (uI (uI (uR h tt 0 (some z_1)) tt 1 (hI (uR h tt 0 (some z_1)) r1 1)) tt 2 (hI (uI (uR h tt 0 (some z_1)) tt 1 (hI (uR h tt 0 (some z_1)) r1 1)) r1 2)) r1 3)) tt 4 (hI (uI (uI (uI (uR h tt 0 (some z_1)) tt 1 (hI (uR h tt 0 (some z_1)) r1 1)) tt 2 (hI (uI (uR h tt 0 (some z_1)) tt 1 (hI (uR h tt 0 (some z_1)) r1 1)) r1 2)) tt 3 (hI (uI (uI (uR h tt 0 (some z_1)) tt 1 (hI (uR h tt 0 (some z_1)) r1 1)) tt 2 (hI (uI (uR h tt 0 (some z_1)) tt 1 (hI (uR h tt 0 (some z_1)) r1 1)) r1 2)) r1 3)) r1 4)) (0 : Int32))
set_option maxRecDepth 100000 in
set_option maxHeartbeats 4000000 in
theorem c_X8_copyFrom {l : Launch} {sb : State} {D : va_G} {ids : Nat → ClassId} {n : Nat} (hN : 152 ≤ n) {tt : Nat} {r1 : Nat} (ht : shp tt = (8, 15)) (h1 : shp r1 = (8, 15)) (h : Hp) (r : Hp) (hr : fX8_copyFrom tt r1 h = some r) : jM l yX8_copyFrom cX8_copyFrom 3 none 1 sb D ids shp St n [.ref tt, .ref r1] h (jQv sb D ids shp St n r) := by
  refine jM_of hr rfl (Nat.le_of_ble_eq_true rfl) ?_
  intro p e s m args below meth c hC hret
  have b67 : ∀ (fu : Nat) (h : Hp) (x2 : Int32) , jJ p l e (rmD 1) s m args below meth c 3 sb D ids shp St (fun r => MQ below (jQv sb D ids shp St n r) args s 0 0 (jA sb)) n 0 0 h 67 [(0, .ref tt), (1, .ref r1), (2, .int x2)] [] (fX8_copyFrom_67 fu tt r1 h x2) := by
    intro fu 
    induction fu with
    | zero => intro h x2 ; exact j_none
    | succ fu ih =>
    intro h x2 
    rw [fX8_copyFrom_67]
    refine j_iload_n hC 2 rfl rfl (dOk_at dt_X8_copyFrom 37 rfl) ?_
    refine j_iconst hC (v := (5 : Int32)) rfl (dOk_at dt_X8_copyFrom 38 rfl) ?_
    refine j_icmp_ge hC (tgt := 114) (by decide) (dOk_at dt_X8_copyFrom 39 rfl) (fun q_4 => ?_) (fun q_4 => ?_)
    · refine j_aload_n hC 0 rfl rfl (dOk_at dt_X8_copyFrom 66 rfl) ?_
      refine j_callVv hC clX8_75 (fun rz hrz => c_X8_goPlainly hN (ht) _ rz hrz) ht (jlt hN ht (by decide)) (by decide) rfl rfl ⟨Nat.le_of_ble_eq_true rfl, Nat.le_of_ble_eq_true rfl⟩ ⟨Nat.le_refl 0, Nat.le_refl 0⟩ (As := []) (st := []) rfl (Nat.le_of_ble_eq_true rfl) (dOk_at dt_X8_copyFrom 67 rfl) (fun h_6 _ => ?_)
      exact j_vret hC hret (dOk_at dt_X8_copyFrom 68 rfl)
    · refine j_aload_n hC 0 rfl rfl (dOk_at dt_X8_copyFrom 40 rfl) ?_
      refine j_getR hC flX8_19 ht (jlt hN ht (by decide)) (by decide) (by decide) (fun _ _ _ => rfl) (fun hs => hs _ _ _ (sf_8_6 ht).1) (dOk_at dt_X8_copyFrom 41 rfl) ?_
      refine j_iload_n hC 2 rfl rfl (dOk_at dt_X8_copyFrom 42 rfl) ?_
      refine j_aload_n hC 1 rfl rfl (dOk_at dt_X8_copyFrom 43 rfl) ?_
      refine j_getR hC flX8_19 h1 (jlt hN h1 (by decide)) (by decide) (by decide) (fun _ _ _ => rfl) (fun hs => hs _ _ _ (sf_8_6 h1).1) (dOk_at dt_X8_copyFrom 44 rfl) ?_
      refine j_iload_n hC 2 rfl rfl (dOk_at dt_X8_copyFrom 45 rfl) ?_
      refine j_iald hC (sf_8_6 h1).2.1 (Nat.lt_of_lt_of_le (sf_8_6 h1).2.2 hN) (dOk_at dt_X8_copyFrom 46 rfl) ?_
      refine j_iast hC St_SP (sf_8_6 ht).2.1 (Nat.lt_of_lt_of_le (sf_8_6 ht).2.2 hN) (dOk_at dt_X8_copyFrom 47 rfl) ?_
      refine j_aload_n hC 0 rfl rfl (dOk_at dt_X8_copyFrom 48 rfl) ?_
      refine j_getR hC flX8_22 ht (jlt hN ht (by decide)) (by decide) (by decide) (fun _ _ _ => rfl) (fun hs => hs _ _ _ (sf_8_7 ht).1) (dOk_at dt_X8_copyFrom 49 rfl) ?_
      refine j_iload_n hC 2 rfl rfl (dOk_at dt_X8_copyFrom 50 rfl) ?_
      refine j_aload_n hC 1 rfl rfl (dOk_at dt_X8_copyFrom 51 rfl) ?_
      refine j_getR hC flX8_22 h1 (jlt hN h1 (by decide)) (by decide) (by decide) (fun _ _ _ => rfl) (fun hs => hs _ _ _ (sf_8_7 h1).1) (dOk_at dt_X8_copyFrom 52 rfl) ?_
      refine j_iload_n hC 2 rfl rfl (dOk_at dt_X8_copyFrom 53 rfl) ?_
      refine j_iald hC (sf_8_7 h1).2.1 (Nat.lt_of_lt_of_le (sf_8_7 h1).2.2 hN) (dOk_at dt_X8_copyFrom 54 rfl) ?_
      refine j_iast hC St_SP (sf_8_7 ht).2.1 (Nat.lt_of_lt_of_le (sf_8_7 ht).2.2 hN) (dOk_at dt_X8_copyFrom 55 rfl) ?_
      refine j_aload_n hC 0 rfl rfl (dOk_at dt_X8_copyFrom 56 rfl) ?_
      refine j_getR hC flX8_25 ht (jlt hN ht (by decide)) (by decide) (by decide) (fun _ _ _ => rfl) (fun hs => hs _ _ _ (sf_8_8 ht).1) (dOk_at dt_X8_copyFrom 57 rfl) ?_
      refine j_iload_n hC 2 rfl rfl (dOk_at dt_X8_copyFrom 58 rfl) ?_
      refine j_aload_n hC 1 rfl rfl (dOk_at dt_X8_copyFrom 59 rfl) ?_
      refine j_getR hC flX8_25 h1 (jlt hN h1 (by decide)) (by decide) (by decide) (fun _ _ _ => rfl) (fun hs => hs _ _ _ (sf_8_8 h1).1) (dOk_at dt_X8_copyFrom 60 rfl) ?_
      refine j_iload_n hC 2 rfl rfl (dOk_at dt_X8_copyFrom 61 rfl) ?_
      refine j_iald hC (sf_8_8 h1).2.1 (Nat.lt_of_lt_of_le (sf_8_8 h1).2.2 hN) (dOk_at dt_X8_copyFrom 62 rfl) ?_
      refine j_iast hC St_SP (sf_8_8 ht).2.1 (Nat.lt_of_lt_of_le (sf_8_8 ht).2.2 hN) (dOk_at dt_X8_copyFrom 63 rfl) ?_
      refine j_iinc hC (v := (x2 + (1 : Int32))) (lv' := [(2, .int (x2 + (1 : Int32))), (0, .ref tt), (1, .ref r1)]) 2 rfl (congrArg (fun z => x2 + z) (show Int32.ofInt (1) = (1 : Int32) from by decide)) (by decide) rfl (dOk_at dt_X8_copyFrom 64 rfl) ?_
      refine j_goto hC (tgt := 67) (by decide) (dOk_at dt_X8_copyFrom 65 rfl) ?_
      refine j_sub [1, 2, 0] rfl ?_
      exact ih (uI (uI (uI h (rf tt 6) (Int32.toNatClampNeg x2) (hI h (rf r1 6) (Int32.toNatClampNeg x2))) (rf tt 7) (Int32.toNatClampNeg x2) (hI (uI h (rf tt 6) (Int32.toNatClampNeg x2) (hI h (rf r1 6) (Int32.toNatClampNeg x2))) (rf r1 7) (Int32.toNatClampNeg x2))) (rf tt 8) (Int32.toNatClampNeg x2) (hI (uI (uI h (rf tt 6) (Int32.toNatClampNeg x2) (hI h (rf r1 6) (Int32.toNatClampNeg x2))) (rf tt 7) (Int32.toNatClampNeg x2) (hI (uI h (rf tt 6) (Int32.toNatClampNeg x2) (hI h (rf r1 6) (Int32.toNatClampNeg x2))) (rf r1 7) (Int32.toNatClampNeg x2))) (rf r1 8) (Int32.toNatClampNeg x2))) (x2 + (1 : Int32)) 
  have b42 : ∀ (fu : Nat) (h : Hp) (x2 : Int32) , jJ p l e (rmD 1) s m args below meth c 3 sb D ids shp St (fun r => MQ below (jQv sb D ids shp St n r) args s 0 0 (jA sb)) n 0 0 h 42 [(0, .ref tt), (1, .ref r1), (2, .int x2)] [] (fX8_copyFrom_42 fu tt r1 h x2) := by
    intro fu 
    induction fu with
    | zero => intro h x2 ; exact j_none
    | succ fu ih =>
    intro h x2 
    rw [fX8_copyFrom_42]
    refine j_iload_n hC 2 rfl rfl (dOk_at dt_X8_copyFrom 22 rfl) ?_
    refine j_iconst hC (v := (5 : Int32)) rfl (dOk_at dt_X8_copyFrom 23 rfl) ?_
    refine j_icmp_ge hC (tgt := 65) (by decide) (dOk_at dt_X8_copyFrom 24 rfl) (fun q_3 => ?_) (fun q_3 => ?_)
    · refine j_iconst hC (v := (0 : Int32)) rfl (dOk_at dt_X8_copyFrom 35 rfl) ?_
      refine j_istore_n hC rfl (lv' := [(2, .int (0 : Int32)), (0, .ref tt), (1, .ref r1)]) (by decide) rfl (dOk_at dt_X8_copyFrom 36 rfl) ?_
      refine j_sub [1, 2, 0] rfl ?_
      exact b67 FU h (0 : Int32) 
    · refine j_aload_n hC 0 rfl rfl (dOk_at dt_X8_copyFrom 25 rfl) ?_
      refine j_getR hC flX8_15 ht (jlt hN ht (by decide)) (by decide) (by decide) (fun _ _ _ => rfl) (fun hs => hs _ _ _ (sf_8_5 ht).1) (dOk_at dt_X8_copyFrom 26 rfl) ?_
      refine j_iload_n hC 2 rfl rfl (dOk_at dt_X8_copyFrom 27 rfl) ?_
      refine j_aload_n hC 1 rfl rfl (dOk_at dt_X8_copyFrom 28 rfl) ?_
      refine j_getR hC flX8_15 h1 (jlt hN h1 (by decide)) (by decide) (by decide) (fun _ _ _ => rfl) (fun hs => hs _ _ _ (sf_8_5 h1).1) (dOk_at dt_X8_copyFrom 29 rfl) ?_
      refine j_iload_n hC 2 rfl rfl (dOk_at dt_X8_copyFrom 30 rfl) ?_
      refine j_iald hC (sf_8_5 h1).2.1 (Nat.lt_of_lt_of_le (sf_8_5 h1).2.2 hN) (dOk_at dt_X8_copyFrom 31 rfl) ?_
      refine j_iast hC St_SP (sf_8_5 ht).2.1 (Nat.lt_of_lt_of_le (sf_8_5 ht).2.2 hN) (dOk_at dt_X8_copyFrom 32 rfl) ?_
      refine j_iinc hC (v := (x2 + (1 : Int32))) (lv' := [(2, .int (x2 + (1 : Int32))), (0, .ref tt), (1, .ref r1)]) 2 rfl (congrArg (fun z => x2 + z) (show Int32.ofInt (1) = (1 : Int32) from by decide)) (by decide) rfl (dOk_at dt_X8_copyFrom 33 rfl) ?_
      refine j_goto hC (tgt := 42) (by decide) (dOk_at dt_X8_copyFrom 34 rfl) ?_
      refine j_sub [1, 2, 0] rfl ?_
      exact ih (uI h (rf tt 5) (Int32.toNatClampNeg x2) (hI h (rf r1 5) (Int32.toNatClampNeg x2))) (x2 + (1 : Int32)) 
  unfold fX8_copyFrom
  refine j_aload_n hC 0 rfl rfl (dOk_at dt_X8_copyFrom 0 rfl) ?_
  refine j_aload_n hC 1 rfl rfl (dOk_at dt_X8_copyFrom 1 rfl) ?_
  refine j_getD (q := (7, 20)) hC flX8_9 h1 (jlt hN h1 (by decide)) (by decide) (by decide) (fun _ _ _ => rfl) (dOk_at dt_X8_copyFrom 2 rfl) (fun z_1 _ g_2 => ?_)
  refine j_putR hC flX8_9 ht (jlt hN ht (by decide)) (by decide) (by decide) rfl rfl (fun hs => St_uR hs (ns_8_0 ht)) (dOk_at dt_X8_copyFrom 3 rfl) ?_
  refine j_aload_n hC 0 rfl rfl (dOk_at dt_X8_copyFrom 4 rfl) ?_
  refine j_aload_n hC 1 rfl rfl (dOk_at dt_X8_copyFrom 5 rfl) ?_
  refine j_getI hC flX8_40 h1 (jlt hN h1 (by decide)) (by decide) (by decide) (fun _ _ _ => rfl) (dOk_at dt_X8_copyFrom 6 rfl) ?_
  refine j_putI hC St_SP flX8_40 ht (jlt hN ht (by decide)) (by decide) (by decide) rfl rfl (dOk_at dt_X8_copyFrom 7 rfl) ?_
  refine j_aload_n hC 0 rfl rfl (dOk_at dt_X8_copyFrom 8 rfl) ?_
  refine j_aload_n hC 1 rfl rfl (dOk_at dt_X8_copyFrom 9 rfl) ?_
  refine j_getI hC flX8_43 h1 (jlt hN h1 (by decide)) (by decide) (by decide) (fun _ _ _ => rfl) (dOk_at dt_X8_copyFrom 10 rfl) ?_
  refine j_putI hC St_SP flX8_43 ht (jlt hN ht (by decide)) (by decide) (by decide) rfl rfl (dOk_at dt_X8_copyFrom 11 rfl) ?_
  refine j_aload_n hC 0 rfl rfl (dOk_at dt_X8_copyFrom 12 rfl) ?_
  refine j_aload_n hC 1 rfl rfl (dOk_at dt_X8_copyFrom 13 rfl) ?_
  refine j_getI hC flX8_46 h1 (jlt hN h1 (by decide)) (by decide) (by decide) (fun _ _ _ => rfl) (dOk_at dt_X8_copyFrom 14 rfl) ?_
  refine j_putI hC St_SP flX8_46 ht (jlt hN ht (by decide)) (by decide) (by decide) rfl rfl (dOk_at dt_X8_copyFrom 15 rfl) ?_
  refine j_aload_n hC 0 rfl rfl (dOk_at dt_X8_copyFrom 16 rfl) ?_
  refine j_aload_n hC 1 rfl rfl (dOk_at dt_X8_copyFrom 17 rfl) ?_
  refine j_getI hC flX8_54 h1 (jlt hN h1 (by decide)) (by decide) (by decide) (fun _ _ _ => rfl) (dOk_at dt_X8_copyFrom 18 rfl) ?_
  refine j_putI hC St_SP flX8_54 ht (jlt hN ht (by decide)) (by decide) (by decide) rfl rfl (dOk_at dt_X8_copyFrom 19 rfl) ?_
  refine j_iconst hC (v := (0 : Int32)) rfl (dOk_at dt_X8_copyFrom 20 rfl) ?_
  refine j_istore_n hC rfl (lv' := [(2, .int (0 : Int32)), (0, .ref tt), (1, .ref r1)]) (by decide) rfl (dOk_at dt_X8_copyFrom 21 rfl) ?_
  refine j_sub [1, 2, 0] rfl ?_
  exact b42 FU (uI (uI (uI (uI (uR h tt 0 (some z_1)) tt 1 (hI (uR h tt 0 (some z_1)) r1 1)) tt 2 (hI (uI (uR h tt 0 (some z_1)) tt 1 (hI (uR h tt 0 (some z_1)) r1 1)) r1 2)) tt 3 (hI (uI (uI (uR h tt 0 (some z_1)) tt 1 (hI (uR h tt 0 (some z_1)) r1 1)) tt 2 (hI (uI (uR h tt 0 (some z_1)) tt 1 (hI (uR h tt 0 (some z_1)) r1 1)) r1 2)) r1 3)) tt 4 (hI (uI (uI (uI (uR h tt 0 (some z_1)) tt 1 (hI (uR h tt 0 (some z_1)) r1 1)) tt 2 (hI (uI (uR h tt 0 (some z_1)) tt 1 (hI (uR h tt 0 (some z_1)) r1 1)) r1 2)) tt 3 (hI (uI (uI (uR h tt 0 (some z_1)) tt 1 (hI (uR h tt 0 (some z_1)) r1 1)) tt 2 (hI (uI (uR h tt 0 (some z_1)) tt 1 (hI (uR h tt 0 (some z_1)) r1 1)) r1 2)) r1 3)) r1 4)) (0 : Int32) 
def tb_X8_holdsClaim : List (Nat × Instr × Nat) := [(0, .aload_n 0, 1), (1, .iload_n 1, 1), (2, .invokevirtual 87, 3), (5, .iload_n 2, 1), (6, .ishr, 1), (7, .iconst 1, 1), (8, .iand, 1), (9, .iconst 1, 1), (10, .if_icmp .ne 7, 3), (13, .iconst 1, 1), (14, .goto 4, 3), (17, .iconst 0, 1), (18, .ireturn, 1)]
theorem dt_X8_holdsClaim : dOk cX8_holdsClaim tb_X8_holdsClaim = true := by decide +kernel
def fX8_holdsClaim (tt : Nat) (h : Hp) (x1 : Int32) (x2 : Int32) : Option (Int32 × Hp) := bnd (fX8_holdsOf tt h x1) (fun v_1 h_2 => if ((v_1 >>> (x2 &&& 31)) &&& (1 : Int32)) = (1 : Int32) then (some ((1 : Int32), h_2)) else (some ((0 : Int32), h_2)))
set_option maxRecDepth 100000 in
set_option maxHeartbeats 4000000 in
theorem c_X8_holdsClaim {l : Launch} {sb : State} {D : va_G} {ids : Nat → ClassId} {n : Nat} (hN : 152 ≤ n) {tt : Nat} (ht : shp tt = (8, 15)) (h : Hp) (x1 : Int32) (x2 : Int32) (r : Int32 × Hp) (hr : fX8_holdsClaim tt h x1 x2 = some r) : jM l yX8_holdsClaim cX8_holdsClaim 3 (some .boolean) 1 sb D ids shp St n [.ref tt, .int x1, .int x2] h (jQi sb D ids shp St n r) := by
  refine jM_of hr rfl (Nat.le_of_ble_eq_true rfl) ?_
  intro p e s m args below meth c hC hret
  unfold fX8_holdsClaim
  refine j_aload_n hC 0 rfl rfl (dOk_at dt_X8_holdsClaim 0 rfl) ?_
  refine j_iload_n hC 1 rfl rfl (dOk_at dt_X8_holdsClaim 1 rfl) ?_
  refine j_callVi hC clX8_87 (fun rz hrz => c_X8_holdsOf hN (ht) _ _ rz hrz) ht (jlt hN ht (by decide)) (by decide) rfl rfl ⟨Nat.le_of_ble_eq_true rfl, Nat.le_of_ble_eq_true rfl⟩ ⟨Nat.le_refl 0, Nat.le_refl 0⟩ (As := [.int x1]) (st := []) rfl (Nat.le_of_ble_eq_true rfl) (dOk_at dt_X8_holdsClaim 2 rfl) (fun v_1 h_2 _ => ?_)
  refine j_iload_n hC 2 rfl rfl (dOk_at dt_X8_holdsClaim 3 rfl) ?_
  refine j_ishr hC (dOk_at dt_X8_holdsClaim 4 rfl) ?_
  refine j_iconst hC (v := (1 : Int32)) rfl (dOk_at dt_X8_holdsClaim 5 rfl) ?_
  refine j_iand hC (dOk_at dt_X8_holdsClaim 6 rfl) ?_
  refine j_iconst hC (v := (1 : Int32)) rfl (dOk_at dt_X8_holdsClaim 7 rfl) ?_
  refine j_icmp_ne hC (tgt := 17) (by decide) (dOk_at dt_X8_holdsClaim 8 rfl) (fun q_3 => ?_) (fun q_3 => ?_)
  · refine j_iconst hC (v := (0 : Int32)) rfl (dOk_at dt_X8_holdsClaim 11 rfl) ?_
    exact j_zretK hC hret rfl (dOk_at dt_X8_holdsClaim 12 rfl)
  · refine j_iconst hC (v := (1 : Int32)) rfl (dOk_at dt_X8_holdsClaim 9 rfl) ?_
    refine j_goto hC (tgt := 18) (by decide) (dOk_at dt_X8_holdsClaim 10 rfl) ?_
    exact j_zretK hC hret rfl (dOk_at dt_X8_holdsClaim 12 rfl)
def tb_X8_setHolds : List (Nat × Instr × Nat) := [(0, .aload_n 0, 1), (1, .iload_n 1, 1), (2, .invokevirtual 91, 3), (5, .ifCond .eq 10, 3), (8, .aload_n 0, 1), (9, .getfield 19, 3), (12, .iload_n 1, 1), (13, .iload_n 2, 1), (14, .iastore, 1), (15, .return_, 1)]
theorem dt_X8_setHolds : dOk cX8_setHolds tb_X8_setHolds = true := by decide +kernel
def fX8_setHolds (tt : Nat) (h : Hp) (x1 : Int32) (x2 : Int32) : Option (Hp) := bnd (fX8_isMember tt h x1) (fun v_1 h_2 => if v_1 = 0 then (some h_2) else (if inb x1 5 then (some (uI h_2 (rf tt 6) (Int32.toNatClampNeg x1) x2)) else none))
set_option maxRecDepth 100000 in
set_option maxHeartbeats 4000000 in
theorem c_X8_setHolds {l : Launch} {sb : State} {D : va_G} {ids : Nat → ClassId} {n : Nat} (hN : 152 ≤ n) {tt : Nat} (ht : shp tt = (8, 15)) (h : Hp) (x1 : Int32) (x2 : Int32) (r : Hp) (hr : fX8_setHolds tt h x1 x2 = some r) : jM l yX8_setHolds cX8_setHolds 3 none 1 sb D ids shp St n [.ref tt, .int x1, .int x2] h (jQv sb D ids shp St n r) := by
  refine jM_of hr rfl (Nat.le_of_ble_eq_true rfl) ?_
  intro p e s m args below meth c hC hret
  unfold fX8_setHolds
  refine j_aload_n hC 0 rfl rfl (dOk_at dt_X8_setHolds 0 rfl) ?_
  refine j_iload_n hC 1 rfl rfl (dOk_at dt_X8_setHolds 1 rfl) ?_
  refine j_callVi hC clX8_91 (fun rz hrz => c_X8_isMember hN (ht) _ _ rz hrz) ht (jlt hN ht (by decide)) (by decide) rfl rfl ⟨Nat.le_of_ble_eq_true rfl, Nat.le_of_ble_eq_true rfl⟩ ⟨Nat.le_refl 0, Nat.le_refl 0⟩ (As := [.int x1]) (st := []) rfl (Nat.le_of_ble_eq_true rfl) (dOk_at dt_X8_setHolds 2 rfl) (fun v_1 h_2 _ => ?_)
  refine j_if_eq hC (tgt := 15) (by decide) (dOk_at dt_X8_setHolds 3 rfl) (fun q_3 => ?_) (fun q_3 => ?_)
  · exact j_vret hC hret (dOk_at dt_X8_setHolds 9 rfl)
  · refine j_aload_n hC 0 rfl rfl (dOk_at dt_X8_setHolds 4 rfl) ?_
    refine j_getR hC flX8_19 ht (jlt hN ht (by decide)) (by decide) (by decide) (fun _ _ _ => rfl) (fun hs => hs _ _ _ (sf_8_6 ht).1) (dOk_at dt_X8_setHolds 5 rfl) ?_
    refine j_iload_n hC 1 rfl rfl (dOk_at dt_X8_setHolds 6 rfl) ?_
    refine j_iload_n hC 2 rfl rfl (dOk_at dt_X8_setHolds 7 rfl) ?_
    refine j_iast hC St_SP (sf_8_6 ht).2.1 (Nat.lt_of_lt_of_le (sf_8_6 ht).2.2 hN) (dOk_at dt_X8_setHolds 8 rfl) ?_
    exact j_vret hC hret (dOk_at dt_X8_setHolds 9 rfl)
def tb_X8_wonByAll : List (Nat × Instr × Nat) := [(0, .iconst 0, 1), (1, .istore_n 1, 1), (2, .iconst 0, 1), (3, .istore_n 2, 1), (4, .iload_n 2, 1), (5, .iconst 5, 1), (6, .if_icmp .ge 18, 3), (9, .iload_n 1, 1), (10, .aload_n 0, 1), (11, .getfield 22, 3), (14, .iload_n 2, 1), (15, .iaload, 1), (16, .iadd, 1), (17, .istore_n 1, 1), (18, .iinc 2 1, 3), (21, .goto (-17), 3), (24, .iload_n 1, 1), (25, .ireturn, 1)]
theorem dt_X8_wonByAll : dOk cX8_wonByAll tb_X8_wonByAll = true := by decide +kernel
def fX8_wonByAll_4 : Nat → (Nat) → Hp → Int32 → Int32 → Option (Int32 × Hp)
  | 0, _, _, _, _ => none
  | fu + 1, tt, h, x1, x2 => if (5 : Int32) ≤ x2 then (some (x1, h)) else (if inb x2 5 then ((fX8_wonByAll_4 fu tt) h (x1 + (hI h (rf tt 7) (Int32.toNatClampNeg x2))) (x2 + (1 : Int32))) else none)
def fX8_wonByAll (tt : Nat) (h : Hp) : Option (Int32 × Hp) := fX8_wonByAll_4 FU tt h (0 : Int32) (0 : Int32)
set_option maxRecDepth 100000 in
set_option maxHeartbeats 4000000 in
theorem c_X8_wonByAll {l : Launch} {sb : State} {D : va_G} {ids : Nat → ClassId} {n : Nat} (hN : 152 ≤ n) {tt : Nat} (ht : shp tt = (8, 15)) (h : Hp) (r : Int32 × Hp) (hr : fX8_wonByAll tt h = some r) : jM l yX8_wonByAll cX8_wonByAll 3 (some .int) 0 sb D ids shp St n [.ref tt] h (jQi sb D ids shp St n r) := by
  refine jM_of hr rfl (Nat.le_of_ble_eq_true rfl) ?_
  intro p e s m args below meth c hC hret
  have b4 : ∀ (fu : Nat) (h : Hp) (x1 : Int32) (x2 : Int32) , jJ p l e (rmD 0) s m args below meth c 3 sb D ids shp St (fun r => MQ below (jQi sb D ids shp St n r) args s 0 0 (jA sb)) n 0 0 h 4 [(0, .ref tt), (1, .int x1), (2, .int x2)] [] (fX8_wonByAll_4 fu tt h x1 x2) := by
    intro fu 
    induction fu with
    | zero => intro h x1 x2 ; exact j_none
    | succ fu ih =>
    intro h x1 x2 
    rw [fX8_wonByAll_4]
    refine j_iload_n hC 2 rfl rfl (dOk_at dt_X8_wonByAll 4 rfl) ?_
    refine j_iconst hC (v := (5 : Int32)) rfl (dOk_at dt_X8_wonByAll 5 rfl) ?_
    refine j_icmp_ge hC (tgt := 24) (by decide) (dOk_at dt_X8_wonByAll 6 rfl) (fun q_1 => ?_) (fun q_1 => ?_)
    · refine j_iload_n hC 1 rfl rfl (dOk_at dt_X8_wonByAll 16 rfl) ?_
      exact j_iret hC hret (dOk_at dt_X8_wonByAll 17 rfl)
    · refine j_iload_n hC 1 rfl rfl (dOk_at dt_X8_wonByAll 7 rfl) ?_
      refine j_aload_n hC 0 rfl rfl (dOk_at dt_X8_wonByAll 8 rfl) ?_
      refine j_getR hC flX8_22 ht (jlt hN ht (by decide)) (by decide) (by decide) (fun _ _ _ => rfl) (fun hs => hs _ _ _ (sf_8_7 ht).1) (dOk_at dt_X8_wonByAll 9 rfl) ?_
      refine j_iload_n hC 2 rfl rfl (dOk_at dt_X8_wonByAll 10 rfl) ?_
      refine j_iald hC (sf_8_7 ht).2.1 (Nat.lt_of_lt_of_le (sf_8_7 ht).2.2 hN) (dOk_at dt_X8_wonByAll 11 rfl) ?_
      refine j_iadd hC (dOk_at dt_X8_wonByAll 12 rfl) ?_
      refine j_istore_n hC rfl (lv' := [(1, .int (x1 + (hI h (rf tt 7) (Int32.toNatClampNeg x2)))), (0, .ref tt), (2, .int x2)]) (by decide) rfl (dOk_at dt_X8_wonByAll 13 rfl) ?_
      refine j_iinc hC (v := (x2 + (1 : Int32))) (lv' := [(2, .int (x2 + (1 : Int32))), (1, .int (x1 + (hI h (rf tt 7) (Int32.toNatClampNeg x2)))), (0, .ref tt)]) 2 rfl (congrArg (fun z => x2 + z) (show Int32.ofInt (1) = (1 : Int32) from by decide)) (by decide) rfl (dOk_at dt_X8_wonByAll 14 rfl) ?_
      refine j_goto hC (tgt := 4) (by decide) (dOk_at dt_X8_wonByAll 15 rfl) ?_
      refine j_sub [2, 1, 0] rfl ?_
      exact ih h (x1 + (hI h (rf tt 7) (Int32.toNatClampNeg x2))) (x2 + (1 : Int32)) 
  unfold fX8_wonByAll
  refine j_iconst hC (v := (0 : Int32)) rfl (dOk_at dt_X8_wonByAll 0 rfl) ?_
  refine j_istore_n hC rfl (lv' := [(1, .int (0 : Int32)), (0, .ref tt)]) (by decide) rfl (dOk_at dt_X8_wonByAll 1 rfl) ?_
  refine j_iconst hC (v := (0 : Int32)) rfl (dOk_at dt_X8_wonByAll 2 rfl) ?_
  refine j_istore_n hC rfl (lv' := [(2, .int (0 : Int32)), (1, .int (0 : Int32)), (0, .ref tt)]) (by decide) rfl (dOk_at dt_X8_wonByAll 3 rfl) ?_
  refine j_sub [2, 1, 0] rfl ?_
  exact b4 FU h (0 : Int32) (0 : Int32) 
def tb_X8_beatenByAll : List (Nat × Instr × Nat) := [(0, .iconst 0, 1), (1, .istore_n 1, 1), (2, .iconst 0, 1), (3, .istore_n 2, 1), (4, .iload_n 2, 1), (5, .iconst 5, 1), (6, .if_icmp .ge 18, 3), (9, .iload_n 1, 1), (10, .aload_n 0, 1), (11, .getfield 25, 3), (14, .iload_n 2, 1), (15, .iaload, 1), (16, .iadd, 1), (17, .istore_n 1, 1), (18, .iinc 2 1, 3), (21, .goto (-17), 3), (24, .iload_n 1, 1), (25, .ireturn, 1)]
theorem dt_X8_beatenByAll : dOk cX8_beatenByAll tb_X8_beatenByAll = true := by decide +kernel
def fX8_beatenByAll_4 : Nat → (Nat) → Hp → Int32 → Int32 → Option (Int32 × Hp)
  | 0, _, _, _, _ => none
  | fu + 1, tt, h, x1, x2 => if (5 : Int32) ≤ x2 then (some (x1, h)) else (if inb x2 5 then ((fX8_beatenByAll_4 fu tt) h (x1 + (hI h (rf tt 8) (Int32.toNatClampNeg x2))) (x2 + (1 : Int32))) else none)
def fX8_beatenByAll (tt : Nat) (h : Hp) : Option (Int32 × Hp) := fX8_beatenByAll_4 FU tt h (0 : Int32) (0 : Int32)
set_option maxRecDepth 100000 in
set_option maxHeartbeats 4000000 in
theorem c_X8_beatenByAll {l : Launch} {sb : State} {D : va_G} {ids : Nat → ClassId} {n : Nat} (hN : 152 ≤ n) {tt : Nat} (ht : shp tt = (8, 15)) (h : Hp) (r : Int32 × Hp) (hr : fX8_beatenByAll tt h = some r) : jM l yX8_beatenByAll cX8_beatenByAll 3 (some .int) 0 sb D ids shp St n [.ref tt] h (jQi sb D ids shp St n r) := by
  refine jM_of hr rfl (Nat.le_of_ble_eq_true rfl) ?_
  intro p e s m args below meth c hC hret
  have b4 : ∀ (fu : Nat) (h : Hp) (x1 : Int32) (x2 : Int32) , jJ p l e (rmD 0) s m args below meth c 3 sb D ids shp St (fun r => MQ below (jQi sb D ids shp St n r) args s 0 0 (jA sb)) n 0 0 h 4 [(0, .ref tt), (1, .int x1), (2, .int x2)] [] (fX8_beatenByAll_4 fu tt h x1 x2) := by
    intro fu 
    induction fu with
    | zero => intro h x1 x2 ; exact j_none
    | succ fu ih =>
    intro h x1 x2 
    rw [fX8_beatenByAll_4]
    refine j_iload_n hC 2 rfl rfl (dOk_at dt_X8_beatenByAll 4 rfl) ?_
    refine j_iconst hC (v := (5 : Int32)) rfl (dOk_at dt_X8_beatenByAll 5 rfl) ?_
    refine j_icmp_ge hC (tgt := 24) (by decide) (dOk_at dt_X8_beatenByAll 6 rfl) (fun q_1 => ?_) (fun q_1 => ?_)
    · refine j_iload_n hC 1 rfl rfl (dOk_at dt_X8_beatenByAll 16 rfl) ?_
      exact j_iret hC hret (dOk_at dt_X8_beatenByAll 17 rfl)
    · refine j_iload_n hC 1 rfl rfl (dOk_at dt_X8_beatenByAll 7 rfl) ?_
      refine j_aload_n hC 0 rfl rfl (dOk_at dt_X8_beatenByAll 8 rfl) ?_
      refine j_getR hC flX8_25 ht (jlt hN ht (by decide)) (by decide) (by decide) (fun _ _ _ => rfl) (fun hs => hs _ _ _ (sf_8_8 ht).1) (dOk_at dt_X8_beatenByAll 9 rfl) ?_
      refine j_iload_n hC 2 rfl rfl (dOk_at dt_X8_beatenByAll 10 rfl) ?_
      refine j_iald hC (sf_8_8 ht).2.1 (Nat.lt_of_lt_of_le (sf_8_8 ht).2.2 hN) (dOk_at dt_X8_beatenByAll 11 rfl) ?_
      refine j_iadd hC (dOk_at dt_X8_beatenByAll 12 rfl) ?_
      refine j_istore_n hC rfl (lv' := [(1, .int (x1 + (hI h (rf tt 8) (Int32.toNatClampNeg x2)))), (0, .ref tt), (2, .int x2)]) (by decide) rfl (dOk_at dt_X8_beatenByAll 13 rfl) ?_
      refine j_iinc hC (v := (x2 + (1 : Int32))) (lv' := [(2, .int (x2 + (1 : Int32))), (1, .int (x1 + (hI h (rf tt 8) (Int32.toNatClampNeg x2)))), (0, .ref tt)]) 2 rfl (congrArg (fun z => x2 + z) (show Int32.ofInt (1) = (1 : Int32) from by decide)) (by decide) rfl (dOk_at dt_X8_beatenByAll 14 rfl) ?_
      refine j_goto hC (tgt := 4) (by decide) (dOk_at dt_X8_beatenByAll 15 rfl) ?_
      refine j_sub [2, 1, 0] rfl ?_
      exact ih h (x1 + (hI h (rf tt 8) (Int32.toNatClampNeg x2))) (x2 + (1 : Int32)) 
  unfold fX8_beatenByAll
  refine j_iconst hC (v := (0 : Int32)) rfl (dOk_at dt_X8_beatenByAll 0 rfl) ?_
  refine j_istore_n hC rfl (lv' := [(1, .int (0 : Int32)), (0, .ref tt)]) (by decide) rfl (dOk_at dt_X8_beatenByAll 1 rfl) ?_
  refine j_iconst hC (v := (0 : Int32)) rfl (dOk_at dt_X8_beatenByAll 2 rfl) ?_
  refine j_istore_n hC rfl (lv' := [(2, .int (0 : Int32)), (1, .int (0 : Int32)), (0, .ref tt)]) (by decide) rfl (dOk_at dt_X8_beatenByAll 3 rfl) ?_
  refine j_sub [2, 1, 0] rfl ?_
  exact b4 FU h (0 : Int32) (0 : Int32) 
def tb_X8_fullOfAll : List (Nat × Instr × Nat) := [(0, .iconst 0, 1), (1, .istore_n 1, 1), (2, .iconst 0, 1), (3, .istore_n 2, 1), (4, .iload_n 2, 1), (5, .iconst 5, 1), (6, .if_icmp .ge 18, 3), (9, .iload_n 1, 1), (10, .aload_n 0, 1), (11, .getfield 15, 3), (14, .iload_n 2, 1), (15, .iaload, 1), (16, .iadd, 1), (17, .istore_n 1, 1), (18, .iinc 2 1, 3), (21, .goto (-17), 3), (24, .iload_n 1, 1), (25, .ireturn, 1)]
theorem dt_X8_fullOfAll : dOk cX8_fullOfAll tb_X8_fullOfAll = true := by decide +kernel
def fX8_fullOfAll_4 : Nat → (Nat) → Hp → Int32 → Int32 → Option (Int32 × Hp)
  | 0, _, _, _, _ => none
  | fu + 1, tt, h, x1, x2 => if (5 : Int32) ≤ x2 then (some (x1, h)) else (if inb x2 5 then ((fX8_fullOfAll_4 fu tt) h (x1 + (hI h (rf tt 5) (Int32.toNatClampNeg x2))) (x2 + (1 : Int32))) else none)
def fX8_fullOfAll (tt : Nat) (h : Hp) : Option (Int32 × Hp) := fX8_fullOfAll_4 FU tt h (0 : Int32) (0 : Int32)
set_option maxRecDepth 100000 in
set_option maxHeartbeats 4000000 in
theorem c_X8_fullOfAll {l : Launch} {sb : State} {D : va_G} {ids : Nat → ClassId} {n : Nat} (hN : 152 ≤ n) {tt : Nat} (ht : shp tt = (8, 15)) (h : Hp) (r : Int32 × Hp) (hr : fX8_fullOfAll tt h = some r) : jM l yX8_fullOfAll cX8_fullOfAll 3 (some .int) 0 sb D ids shp St n [.ref tt] h (jQi sb D ids shp St n r) := by
  refine jM_of hr rfl (Nat.le_of_ble_eq_true rfl) ?_
  intro p e s m args below meth c hC hret
  have b4 : ∀ (fu : Nat) (h : Hp) (x1 : Int32) (x2 : Int32) , jJ p l e (rmD 0) s m args below meth c 3 sb D ids shp St (fun r => MQ below (jQi sb D ids shp St n r) args s 0 0 (jA sb)) n 0 0 h 4 [(0, .ref tt), (1, .int x1), (2, .int x2)] [] (fX8_fullOfAll_4 fu tt h x1 x2) := by
    intro fu 
    induction fu with
    | zero => intro h x1 x2 ; exact j_none
    | succ fu ih =>
    intro h x1 x2 
    rw [fX8_fullOfAll_4]
    refine j_iload_n hC 2 rfl rfl (dOk_at dt_X8_fullOfAll 4 rfl) ?_
    refine j_iconst hC (v := (5 : Int32)) rfl (dOk_at dt_X8_fullOfAll 5 rfl) ?_
    refine j_icmp_ge hC (tgt := 24) (by decide) (dOk_at dt_X8_fullOfAll 6 rfl) (fun q_1 => ?_) (fun q_1 => ?_)
    · refine j_iload_n hC 1 rfl rfl (dOk_at dt_X8_fullOfAll 16 rfl) ?_
      exact j_iret hC hret (dOk_at dt_X8_fullOfAll 17 rfl)
    · refine j_iload_n hC 1 rfl rfl (dOk_at dt_X8_fullOfAll 7 rfl) ?_
      refine j_aload_n hC 0 rfl rfl (dOk_at dt_X8_fullOfAll 8 rfl) ?_
      refine j_getR hC flX8_15 ht (jlt hN ht (by decide)) (by decide) (by decide) (fun _ _ _ => rfl) (fun hs => hs _ _ _ (sf_8_5 ht).1) (dOk_at dt_X8_fullOfAll 9 rfl) ?_
      refine j_iload_n hC 2 rfl rfl (dOk_at dt_X8_fullOfAll 10 rfl) ?_
      refine j_iald hC (sf_8_5 ht).2.1 (Nat.lt_of_lt_of_le (sf_8_5 ht).2.2 hN) (dOk_at dt_X8_fullOfAll 11 rfl) ?_
      refine j_iadd hC (dOk_at dt_X8_fullOfAll 12 rfl) ?_
      refine j_istore_n hC rfl (lv' := [(1, .int (x1 + (hI h (rf tt 5) (Int32.toNatClampNeg x2)))), (0, .ref tt), (2, .int x2)]) (by decide) rfl (dOk_at dt_X8_fullOfAll 13 rfl) ?_
      refine j_iinc hC (v := (x2 + (1 : Int32))) (lv' := [(2, .int (x2 + (1 : Int32))), (1, .int (x1 + (hI h (rf tt 5) (Int32.toNatClampNeg x2)))), (0, .ref tt)]) 2 rfl (congrArg (fun z => x2 + z) (show Int32.ofInt (1) = (1 : Int32) from by decide)) (by decide) rfl (dOk_at dt_X8_fullOfAll 14 rfl) ?_
      refine j_goto hC (tgt := 4) (by decide) (dOk_at dt_X8_fullOfAll 15 rfl) ?_
      refine j_sub [2, 1, 0] rfl ?_
      exact ih h (x1 + (hI h (rf tt 5) (Int32.toNatClampNeg x2))) (x2 + (1 : Int32)) 
  unfold fX8_fullOfAll
  refine j_iconst hC (v := (0 : Int32)) rfl (dOk_at dt_X8_fullOfAll 0 rfl) ?_
  refine j_istore_n hC rfl (lv' := [(1, .int (0 : Int32)), (0, .ref tt)]) (by decide) rfl (dOk_at dt_X8_fullOfAll 1 rfl) ?_
  refine j_iconst hC (v := (0 : Int32)) rfl (dOk_at dt_X8_fullOfAll 2 rfl) ?_
  refine j_istore_n hC rfl (lv' := [(2, .int (0 : Int32)), (1, .int (0 : Int32)), (0, .ref tt)]) (by decide) rfl (dOk_at dt_X8_fullOfAll 3 rfl) ?_
  refine j_sub [2, 1, 0] rfl ?_
  exact b4 FU h (0 : Int32) (0 : Int32) 
def tb_X8_heldByAll : List (Nat × Instr × Nat) := [(0, .iconst 0, 1), (1, .istore_n 1, 1), (2, .iconst 0, 1), (3, .istore_n 2, 1), (4, .iload_n 2, 1), (5, .iconst 5, 1), (6, .if_icmp .ge 21, 3), (9, .iload_n 1, 1), (10, .aload_n 0, 1), (11, .getfield 19, 3), (14, .iload_n 2, 1), (15, .iaload, 1), (16, .invokestatic 95, 3), (19, .iadd, 1), (20, .istore_n 1, 1), (21, .iinc 2 1, 3), (24, .goto (-20), 3), (27, .iload_n 1, 1), (28, .ireturn, 1)]
theorem dt_X8_heldByAll : dOk cX8_heldByAll tb_X8_heldByAll = true := by decide +kernel
def fX8_heldByAll_4 : Nat → (Nat) → Hp → Int32 → Int32 → Option (Int32 × Hp)
  | 0, _, _, _, _ => none
  | fu + 1, tt, h, x1, x2 => if (5 : Int32) ≤ x2 then (some (x1, h)) else (if inb x2 5 then (bnd (fJ6_bitCount_0f7a4 h (hI h (rf tt 6) (Int32.toNatClampNeg x2))) (fun v_2 h_3 => (fX8_heldByAll_4 fu tt) h_3 (x1 + v_2) (x2 + (1 : Int32)))) else none)
def fX8_heldByAll (tt : Nat) (h : Hp) : Option (Int32 × Hp) := fX8_heldByAll_4 FU tt h (0 : Int32) (0 : Int32)
set_option maxRecDepth 100000 in
set_option maxHeartbeats 4000000 in
theorem c_X8_heldByAll {l : Launch} {sb : State} {D : va_G} {ids : Nat → ClassId} {n : Nat} (hN : 152 ≤ n) {tt : Nat} (ht : shp tt = (8, 15)) (h : Hp) (r : Int32 × Hp) (hr : fX8_heldByAll tt h = some r) : jM l yX8_heldByAll cX8_heldByAll 3 (some .int) 1 sb D ids shp St n [.ref tt] h (jQi sb D ids shp St n r) := by
  refine jM_of hr rfl (Nat.le_of_ble_eq_true rfl) ?_
  intro p e s m args below meth c hC hret
  have b4 : ∀ (fu : Nat) (h : Hp) (x1 : Int32) (x2 : Int32) , jJ p l e (rmD 1) s m args below meth c 3 sb D ids shp St (fun r => MQ below (jQi sb D ids shp St n r) args s 0 0 (jA sb)) n 0 0 h 4 [(0, .ref tt), (1, .int x1), (2, .int x2)] [] (fX8_heldByAll_4 fu tt h x1 x2) := by
    intro fu 
    induction fu with
    | zero => intro h x1 x2 ; exact j_none
    | succ fu ih =>
    intro h x1 x2 
    rw [fX8_heldByAll_4]
    refine j_iload_n hC 2 rfl rfl (dOk_at dt_X8_heldByAll 4 rfl) ?_
    refine j_iconst hC (v := (5 : Int32)) rfl (dOk_at dt_X8_heldByAll 5 rfl) ?_
    refine j_icmp_ge hC (tgt := 27) (by decide) (dOk_at dt_X8_heldByAll 6 rfl) (fun q_1 => ?_) (fun q_1 => ?_)
    · refine j_iload_n hC 1 rfl rfl (dOk_at dt_X8_heldByAll 17 rfl) ?_
      exact j_iret hC hret (dOk_at dt_X8_heldByAll 18 rfl)
    · refine j_iload_n hC 1 rfl rfl (dOk_at dt_X8_heldByAll 7 rfl) ?_
      refine j_aload_n hC 0 rfl rfl (dOk_at dt_X8_heldByAll 8 rfl) ?_
      refine j_getR hC flX8_19 ht (jlt hN ht (by decide)) (by decide) (by decide) (fun _ _ _ => rfl) (fun hs => hs _ _ _ (sf_8_6 ht).1) (dOk_at dt_X8_heldByAll 9 rfl) ?_
      refine j_iload_n hC 2 rfl rfl (dOk_at dt_X8_heldByAll 10 rfl) ?_
      refine j_iald hC (sf_8_6 ht).2.1 (Nat.lt_of_lt_of_le (sf_8_6 ht).2.2 hN) (dOk_at dt_X8_heldByAll 11 rfl) ?_
      refine j_callSi hC clX8_95 (fun rz hrz => c_J6_bitCount_0f7a4 hN _ _ rz hrz) rfl ⟨Nat.le_of_ble_eq_true rfl, Nat.le_of_ble_eq_true rfl⟩ ⟨Nat.le_refl 0, Nat.le_refl 0⟩ (As := [.int (hI h (rf tt 6) (Int32.toNatClampNeg x2))]) (st := [.int x1]) rfl (Nat.le_of_ble_eq_true rfl) (dOk_at dt_X8_heldByAll 12 rfl) (fun v_2 h_3 _ => ?_)
      refine j_iadd hC (dOk_at dt_X8_heldByAll 13 rfl) ?_
      refine j_istore_n hC rfl (lv' := [(1, .int (x1 + v_2)), (0, .ref tt), (2, .int x2)]) (by decide) rfl (dOk_at dt_X8_heldByAll 14 rfl) ?_
      refine j_iinc hC (v := (x2 + (1 : Int32))) (lv' := [(2, .int (x2 + (1 : Int32))), (1, .int (x1 + v_2)), (0, .ref tt)]) 2 rfl (congrArg (fun z => x2 + z) (show Int32.ofInt (1) = (1 : Int32) from by decide)) (by decide) rfl (dOk_at dt_X8_heldByAll 15 rfl) ?_
      refine j_goto hC (tgt := 4) (by decide) (dOk_at dt_X8_heldByAll 16 rfl) ?_
      refine j_sub [2, 1, 0] rfl ?_
      exact ih h_3 (x1 + v_2) (x2 + (1 : Int32)) 
  unfold fX8_heldByAll
  refine j_iconst hC (v := (0 : Int32)) rfl (dOk_at dt_X8_heldByAll 0 rfl) ?_
  refine j_istore_n hC rfl (lv' := [(1, .int (0 : Int32)), (0, .ref tt)]) (by decide) rfl (dOk_at dt_X8_heldByAll 1 rfl) ?_
  refine j_iconst hC (v := (0 : Int32)) rfl (dOk_at dt_X8_heldByAll 2 rfl) ?_
  refine j_istore_n hC rfl (lv' := [(2, .int (0 : Int32)), (1, .int (0 : Int32)), (0, .ref tt)]) (by decide) rfl (dOk_at dt_X8_heldByAll 3 rfl) ?_
  refine j_sub [2, 1, 0] rfl ?_
  exact b4 FU h (0 : Int32) (0 : Int32) 
def tb_X8_lawValue : List (Nat × Instr × Nat) := [(0, .iload_n 1, 1), (1, .ifCond .lt 23, 3), (4, .iload_n 1, 1), (5, .iconst 3, 1), (6, .if_icmp .ge 18, 3), (9, .aload_n 0, 1), (10, .getfield 9, 3), (13, .getfield 134, 3), (16, .iload_n 1, 1), (17, .aaload, 1), (18, .getfield 138, 3), (21, .ifCond .ne 7, 3), (24, .ldc2_w 143, 3), (27, .lreturn, 1), (28, .aload_n 0, 1), (29, .getfield 9, 3), (32, .getfield 134, 3), (35, .iload_n 1, 1), (36, .aaload, 1), (37, .aload_n 0, 1), (38, .getfield 28, 3), (41, .invokevirtual 145, 3), (44, .lreturn, 1)]
theorem dt_X8_lawValue : dOk cX8_lawValue tb_X8_lawValue = true := by decide +kernel
def fX8_lawValue (tt : Nat) (h : Hp) (x1 : Int32) : Option (Int64 × Hp) := if x1 < 0 then (some ((-9223372036854775808 : Int64), h)) else (if (3 : Int32) ≤ x1 then (some ((-9223372036854775808 : Int64), h)) else ((dref shp h tt 0 (7, 20)).bind (fun z_3 => if inb x1 3 then (dref shp h (rf z_3 17) (Int32.toNatClampNeg x1) (1, 4)).bind (fun z_5 => if (hI h z_5 0) = 0 then (some ((-9223372036854775808 : Int64), h)) else ((dref shp h tt 0 (7, 20)).bind (fun z_8 => if inb x1 3 then (dref shp h (rf z_8 17) (Int32.toNatClampNeg x1) (1, 4)).bind (fun z_10 => bnd (fX1_value z_10 (rf tt 9) 7 h) (fun v_12 h_13 => some (v_12, h_13))) else none))) else none)))
set_option maxRecDepth 100000 in
set_option maxHeartbeats 4000000 in
theorem c_X8_lawValue {l : Launch} {sb : State} {D : va_G} {ids : Nat → ClassId} {n : Nat} (hN : 152 ≤ n) {tt : Nat} (ht : shp tt = (8, 15)) (h : Hp) (x1 : Int32) (r : Int64 × Hp) (hr : fX8_lawValue tt h x1 = some r) : jM l yX8_lawValue cX8_lawValue 2 (some .long) 2 sb D ids shp St n [.ref tt, .int x1] h (jQl sb D ids shp St n r) := by
  refine jM_of hr rfl (Nat.le_of_ble_eq_true rfl) ?_
  intro p e s m args below meth c hC hret
  unfold fX8_lawValue
  refine j_iload_n hC 1 rfl rfl (dOk_at dt_X8_lawValue 0 rfl) ?_
  refine j_if_lt hC (tgt := 24) (by decide) (dOk_at dt_X8_lawValue 1 rfl) (fun q_1 => ?_) (fun q_1 => ?_)
  · refine j_ldc2 hC klX8_143 (dOk_at dt_X8_lawValue 12 rfl) ?_
    exact j_lret hC hret (dOk_at dt_X8_lawValue 13 rfl)
  · refine j_iload_n hC 1 rfl rfl (dOk_at dt_X8_lawValue 2 rfl) ?_
    refine j_iconst hC (v := (3 : Int32)) rfl (dOk_at dt_X8_lawValue 3 rfl) ?_
    refine j_icmp_ge hC (tgt := 24) (by decide) (dOk_at dt_X8_lawValue 4 rfl) (fun q_2 => ?_) (fun q_2 => ?_)
    · refine j_ldc2 hC klX8_143 (dOk_at dt_X8_lawValue 12 rfl) ?_
      exact j_lret hC hret (dOk_at dt_X8_lawValue 13 rfl)
    · refine j_aload_n hC 0 rfl rfl (dOk_at dt_X8_lawValue 5 rfl) ?_
      refine j_getD (q := (7, 20)) hC flX8_9 ht (jlt hN ht (by decide)) (by decide) (by decide) (fun _ _ _ => rfl) (dOk_at dt_X8_lawValue 6 rfl) (fun z_3 _ g_4 => ?_)
      refine j_getR hC flX8_134 g_4 (jlt hN g_4 (by decide)) (by decide) (by decide) (fun _ _ _ => rfl) (fun hs => hs _ _ _ (sf_7_17 g_4).1) (dOk_at dt_X8_lawValue 7 rfl) ?_
      refine j_iload_n hC 1 rfl rfl (dOk_at dt_X8_lawValue 8 rfl) ?_
      refine j_aald (q := (1, 4)) hC (sf_7_17 g_4).2.1 (Nat.lt_of_lt_of_le (sf_7_17 g_4).2.2 hN) (dOk_at dt_X8_lawValue 9 rfl) (fun z_5 _ g_6 => ?_)
      refine j_getI hC flX8_138 g_6 (jlt hN g_6 (by decide)) (by decide) (by decide) (fun _ _ _ => rfl) (dOk_at dt_X8_lawValue 10 rfl) ?_
      refine j_if_ne hC (tgt := 28) (by decide) (dOk_at dt_X8_lawValue 11 rfl) (fun q_7 => ?_) (fun q_7 => ?_)
      · refine j_aload_n hC 0 rfl rfl (dOk_at dt_X8_lawValue 14 rfl) ?_
        refine j_getD (q := (7, 20)) hC flX8_9 ht (jlt hN ht (by decide)) (by decide) (by decide) (fun _ _ _ => rfl) (dOk_at dt_X8_lawValue 15 rfl) (fun z_8 _ g_9 => ?_)
        refine j_getR hC flX8_134 g_9 (jlt hN g_9 (by decide)) (by decide) (by decide) (fun _ _ _ => rfl) (fun hs => hs _ _ _ (sf_7_17 g_9).1) (dOk_at dt_X8_lawValue 16 rfl) ?_
        refine j_iload_n hC 1 rfl rfl (dOk_at dt_X8_lawValue 17 rfl) ?_
        refine j_aald (q := (1, 4)) hC (sf_7_17 g_9).2.1 (Nat.lt_of_lt_of_le (sf_7_17 g_9).2.2 hN) (dOk_at dt_X8_lawValue 18 rfl) (fun z_10 _ g_11 => ?_)
        refine j_aload_n hC 0 rfl rfl (dOk_at dt_X8_lawValue 19 rfl) ?_
        refine j_getR hC flX8_28 ht (jlt hN ht (by decide)) (by decide) (by decide) (fun _ _ _ => rfl) (fun hs => hs _ _ _ (sf_8_9 ht).1) (dOk_at dt_X8_lawValue 20 rfl) ?_
        refine j_callVl hC clX8_145 (fun rz hrz => c_X1_value hN (g_11) ((sf_8_9 ht).2.1) _ rz hrz) g_11 (jlt hN g_11 (by decide)) (by decide) rfl rfl ⟨Nat.le_of_ble_eq_true rfl, Nat.le_of_ble_eq_true rfl⟩ ⟨Nat.le_refl 0, Nat.le_refl 0⟩ (As := [.ref (rf tt 9)]) (st := []) rfl (Nat.le_of_ble_eq_true rfl) (dOk_at dt_X8_lawValue 21 rfl) (fun v_12 h_13 _ => ?_)
        exact j_lret hC hret (dOk_at dt_X8_lawValue 22 rfl)
      · refine j_ldc2 hC klX8_143 (dOk_at dt_X8_lawValue 12 rfl) ?_
        exact j_lret hC hret (dOk_at dt_X8_lawValue 13 rfl)
def tb_X8_contend : List (Nat × Instr × Nat) := [(0, .aload_n 0, 1), (1, .iload_n 1, 1), (2, .invokevirtual 91, 3), (5, .ifCond .eq 11, 3), (8, .aload_n 0, 1), (9, .iload_n 2, 1), (10, .invokevirtual 161, 3), (13, .ifCond .ne 5, 3), (16, .iconst 0, 1), (17, .ireturn, 1), (18, .aload_n 0, 1), (19, .iload_n 1, 1), (20, .iload_n 2, 1), (21, .invokevirtual 164, 3), (24, .ifCond .eq 53, 3), (27, .aload_n 0, 1), (28, .getfield 81, 3), (31, .ifCond .ne 34, 3), (34, .aload_n 0, 1), (35, .iconst 1, 1), (36, .ldc2_w 168, 3), (39, .ldc2_w 170, 3), (42, .invokevirtual 157, 3), (45, .l2i, 1), (46, .istore_n 3, 1), (47, .aload_n 0, 1), (48, .getfield 15, 3), (51, .iload_n 2, 1), (52, .iconst 0, 1), (53, .aload_n 0, 1), (54, .getfield 15, 3), (57, .iload_n 2, 1), (58, .iaload, 1), (59, .iload_n 3, 1), (60, .isub, 1), (61, .invokestatic 172, 3), (64, .iastore, 1), (65, .aload_n 0, 1), (66, .getfield 22, 3), (69, .iload_n 1, 1), (70, .dup2, 1), (71, .iaload, 1), (72, .iconst 1, 1), (73, .iadd, 1), (74, .iastore, 1), (75, .iconst 1, 1), (76, .ireturn, 1), (77, .aload_n 0, 1), (78, .iconst 2, 1), (79, .invokevirtual 177, 3), (82, .lstore_n 3, 1), (83, .lload_n 3, 1), (84, .ldc2_w 143, 3), (87, .lcmp, 1), (88, .ifCond .eq 28, 3), (91, .lload_n 3, 1), (92, .lconst 0, 1), (93, .lcmp, 1), (94, .ifCond .eq 22, 3), (97, .aload_n 0, 1), (98, .getfield 19, 3), (101, .iload_n 1, 1), (102, .dup2, 1), (103, .iaload, 1), (104, .iconst 1, 1), (105, .aload_n 0, 1), (106, .getfield 9, 3), (109, .iload_n 2, 1), (110, .invokevirtual 115, 3), (113, .ishl, 1), (114, .ior, 1), (115, .iastore, 1), (116, .aload_n 0, 1), (117, .getfield 25, 3), (120, .iload_n 1, 1), (121, .dup2, 1), (122, .iaload, 1), (123, .iconst 1, 1), (124, .iadd, 1), (125, .iastore, 1), (126, .iconst 0, 1), (127, .ireturn, 1)]
theorem dt_X8_contend : dOk cX8_contend tb_X8_contend = true := by decide +kernel
def fX8_contend_116 (tt : Nat) (h : Hp) (x1 : Int32) : Option (Int32 × Hp) := if inb x1 5 then (if inb x1 5 then (some ((0 : Int32), (uI h (rf tt 8) (Int32.toNatClampNeg x1) ((hI h (rf tt 8) (Int32.toNatClampNeg x1)) + (1 : Int32))))) else none) else none
def fX8_contend_65 (tt : Nat) (h : Hp) (x1 : Int32) : Option (Int32 × Hp) := if inb x1 5 then (if inb x1 5 then (some ((1 : Int32), (uI h (rf tt 7) (Int32.toNatClampNeg x1) ((hI h (rf tt 7) (Int32.toNatClampNeg x1)) + (1 : Int32))))) else none) else none
def fX8_contend (tt : Nat) (h : Hp) (x1 : Int32) (x2 : Int32) : Option (Int32 × Hp) := bnd (fX8_isMember tt h x1) (fun v_1 h_2 => if v_1 = 0 then (some ((0 : Int32), h_2)) else (bnd (fX8_isStraw tt h_2 x2) (fun v_4 h_5 => if v_4 = 0 then (some ((0 : Int32), h_5)) else (bnd (fX8_winsNow tt h_5 x1 x2) (fun v_7 h_8 => if v_7 = 0 then (bnd (fX8_lawValue tt h_8 (2 : Int32)) (fun v_10 h_11 => if (lg_cmp v_10 (-9223372036854775808 : Int64)) = 0 then (fX8_contend_116 tt h_11 x1) else (if (lg_cmp v_10 (0 : Int64)) = 0 then (fX8_contend_116 tt h_11 x1) else (if inb x1 5 then ((dref shp h_11 tt 0 (7, 20)).bind (fun z_14 => bnd (fX7_claimOf z_14 h_11 x2) (fun v_16 h_17 => if inb x1 5 then (fX8_contend_116 tt (uI h_17 (rf tt 6) (Int32.toNatClampNeg x1) ((hI h_11 (rf tt 6) (Int32.toNatClampNeg x1)) ||| ((1 : Int32) <<< (v_16 &&& 31)))) x1) else none))) else none)))) else (if (hI h_8 tt 12) = 0 then (bnd (fX8_boundLaw tt h_8 (1 : Int32) (99 : Int64) (10 : Int64)) (fun v_19 h_20 => if inb x2 5 then (if inb x2 5 then (fX8_contend_65 tt (uI h_20 (rf tt 5) (Int32.toNatClampNeg x2) (if (0 : Int32) < ((hI h_20 (rf tt 5) (Int32.toNatClampNeg x2)) - (Int64.toInt32 v_19)) then ((hI h_20 (rf tt 5) (Int32.toNatClampNeg x2)) - (Int64.toInt32 v_19)) else (0 : Int32))) x1) else none) else none)) else (fX8_contend_65 tt h_8 x1)))))))
set_option maxRecDepth 100000 in
set_option maxHeartbeats 4000000 in
theorem c_X8_contend {l : Launch} {sb : State} {D : va_G} {ids : Nat → ClassId} {n : Nat} (hN : 152 ≤ n) {tt : Nat} (ht : shp tt = (8, 15)) (h : Hp) (x1 : Int32) (x2 : Int32) (r : Int32 × Hp) (hr : fX8_contend tt h x1 x2 = some r) : jM l yX8_contend cX8_contend 5 (some .boolean) 4 sb D ids shp St n [.ref tt, .int x1, .int x2] h (jQi sb D ids shp St n r) := by
  refine jM_of hr rfl (Nat.le_of_ble_eq_true rfl) ?_
  intro p e s m args below meth c hC hret
  have b116 : ∀ (h : Hp) (x1 : Int32) , jJ p l e (rmD 4) s m args below meth c 5 sb D ids shp St (fun r => MQ below (jQi sb D ids shp St n r) args s 0 0 (jA sb)) n 0 0 h 116 [(0, .ref tt), (1, .int x1)] [] (fX8_contend_116 tt h x1) := by
    intro h x1 
    unfold fX8_contend_116
    refine j_aload_n hC 0 rfl rfl (dOk_at dt_X8_contend 72 rfl) ?_
    refine j_getR hC flX8_25 ht (jlt hN ht (by decide)) (by decide) (by decide) (fun _ _ _ => rfl) (fun hs => hs _ _ _ (sf_8_8 ht).1) (dOk_at dt_X8_contend 73 rfl) ?_
    refine j_iload_n hC 1 rfl rfl (dOk_at dt_X8_contend 74 rfl) ?_
    refine j_dup2 hC (dOk_at dt_X8_contend 75 rfl) ?_
    refine j_iald hC (sf_8_8 ht).2.1 (Nat.lt_of_lt_of_le (sf_8_8 ht).2.2 hN) (dOk_at dt_X8_contend 76 rfl) ?_
    refine j_iconst hC (v := (1 : Int32)) rfl (dOk_at dt_X8_contend 77 rfl) ?_
    refine j_iadd hC (dOk_at dt_X8_contend 78 rfl) ?_
    refine j_iast hC St_SP (sf_8_8 ht).2.1 (Nat.lt_of_lt_of_le (sf_8_8 ht).2.2 hN) (dOk_at dt_X8_contend 79 rfl) ?_
    refine j_iconst hC (v := (0 : Int32)) rfl (dOk_at dt_X8_contend 80 rfl) ?_
    exact j_zretK hC hret rfl (dOk_at dt_X8_contend 81 rfl)
  have b65 : ∀ (h : Hp) (x1 : Int32) , jJ p l e (rmD 4) s m args below meth c 5 sb D ids shp St (fun r => MQ below (jQi sb D ids shp St n r) args s 0 0 (jA sb)) n 0 0 h 65 [(0, .ref tt), (1, .int x1)] [] (fX8_contend_65 tt h x1) := by
    intro h x1 
    unfold fX8_contend_65
    refine j_aload_n hC 0 rfl rfl (dOk_at dt_X8_contend 37 rfl) ?_
    refine j_getR hC flX8_22 ht (jlt hN ht (by decide)) (by decide) (by decide) (fun _ _ _ => rfl) (fun hs => hs _ _ _ (sf_8_7 ht).1) (dOk_at dt_X8_contend 38 rfl) ?_
    refine j_iload_n hC 1 rfl rfl (dOk_at dt_X8_contend 39 rfl) ?_
    refine j_dup2 hC (dOk_at dt_X8_contend 40 rfl) ?_
    refine j_iald hC (sf_8_7 ht).2.1 (Nat.lt_of_lt_of_le (sf_8_7 ht).2.2 hN) (dOk_at dt_X8_contend 41 rfl) ?_
    refine j_iconst hC (v := (1 : Int32)) rfl (dOk_at dt_X8_contend 42 rfl) ?_
    refine j_iadd hC (dOk_at dt_X8_contend 43 rfl) ?_
    refine j_iast hC St_SP (sf_8_7 ht).2.1 (Nat.lt_of_lt_of_le (sf_8_7 ht).2.2 hN) (dOk_at dt_X8_contend 44 rfl) ?_
    refine j_iconst hC (v := (1 : Int32)) rfl (dOk_at dt_X8_contend 45 rfl) ?_
    exact j_zretK hC hret rfl (dOk_at dt_X8_contend 46 rfl)
  unfold fX8_contend
  refine j_aload_n hC 0 rfl rfl (dOk_at dt_X8_contend 0 rfl) ?_
  refine j_iload_n hC 1 rfl rfl (dOk_at dt_X8_contend 1 rfl) ?_
  refine j_callVi hC clX8_91 (fun rz hrz => c_X8_isMember hN (ht) _ _ rz hrz) ht (jlt hN ht (by decide)) (by decide) rfl rfl ⟨Nat.le_of_ble_eq_true rfl, Nat.le_of_ble_eq_true rfl⟩ ⟨Nat.le_refl 0, Nat.le_refl 0⟩ (As := [.int x1]) (st := []) rfl (Nat.le_of_ble_eq_true rfl) (dOk_at dt_X8_contend 2 rfl) (fun v_1 h_2 _ => ?_)
  refine j_if_eq hC (tgt := 16) (by decide) (dOk_at dt_X8_contend 3 rfl) (fun q_3 => ?_) (fun q_3 => ?_)
  · refine j_iconst hC (v := (0 : Int32)) rfl (dOk_at dt_X8_contend 8 rfl) ?_
    exact j_zretK hC hret rfl (dOk_at dt_X8_contend 9 rfl)
  · refine j_aload_n hC 0 rfl rfl (dOk_at dt_X8_contend 4 rfl) ?_
    refine j_iload_n hC 2 rfl rfl (dOk_at dt_X8_contend 5 rfl) ?_
    refine j_callVi hC clX8_161 (fun rz hrz => c_X8_isStraw hN (ht) _ _ rz hrz) ht (jlt hN ht (by decide)) (by decide) rfl rfl ⟨Nat.le_of_ble_eq_true rfl, Nat.le_of_ble_eq_true rfl⟩ ⟨Nat.le_refl 0, Nat.le_refl 0⟩ (As := [.int x2]) (st := []) rfl (Nat.le_of_ble_eq_true rfl) (dOk_at dt_X8_contend 6 rfl) (fun v_4 h_5 _ => ?_)
    refine j_if_ne hC (tgt := 18) (by decide) (dOk_at dt_X8_contend 7 rfl) (fun q_6 => ?_) (fun q_6 => ?_)
    · refine j_aload_n hC 0 rfl rfl (dOk_at dt_X8_contend 10 rfl) ?_
      refine j_iload_n hC 1 rfl rfl (dOk_at dt_X8_contend 11 rfl) ?_
      refine j_iload_n hC 2 rfl rfl (dOk_at dt_X8_contend 12 rfl) ?_
      refine j_callVi hC clX8_164 (fun rz hrz => c_X8_winsNow hN (ht) _ _ _ rz hrz) ht (jlt hN ht (by decide)) (by decide) rfl rfl ⟨Nat.le_of_ble_eq_true rfl, Nat.le_of_ble_eq_true rfl⟩ ⟨Nat.le_refl 0, Nat.le_refl 0⟩ (As := [.int x1, .int x2]) (st := []) rfl (Nat.le_of_ble_eq_true rfl) (dOk_at dt_X8_contend 13 rfl) (fun v_7 h_8 _ => ?_)
      refine j_if_eq hC (tgt := 77) (by decide) (dOk_at dt_X8_contend 14 rfl) (fun q_9 => ?_) (fun q_9 => ?_)
      · refine j_aload_n hC 0 rfl rfl (dOk_at dt_X8_contend 47 rfl) ?_
        refine j_iconst hC (v := (2 : Int32)) rfl (dOk_at dt_X8_contend 48 rfl) ?_
        refine j_callVl hC clX8_177 (fun rz hrz => c_X8_lawValue hN (ht) _ _ rz hrz) ht (jlt hN ht (by decide)) (by decide) rfl rfl ⟨Nat.le_of_ble_eq_true rfl, Nat.le_of_ble_eq_true rfl⟩ ⟨Nat.le_refl 0, Nat.le_refl 0⟩ (As := [.int (2 : Int32)]) (st := []) rfl (Nat.le_of_ble_eq_true rfl) (dOk_at dt_X8_contend 49 rfl) (fun v_10 h_11 _ => ?_)
        refine j_lstore_n hC rfl (lv' := [(3, .long v_10), (0, .ref tt), (1, .int x1), (2, .int x2)]) (by decide) rfl (dOk_at dt_X8_contend 50 rfl) ?_
        refine j_lload_n hC 0 rfl rfl (dOk_at dt_X8_contend 51 rfl) ?_
        refine j_ldc2 hC klX8_143 (dOk_at dt_X8_contend 52 rfl) ?_
        refine j_lcmp hC (dOk_at dt_X8_contend 53 rfl) ?_
        refine j_if_eq hC (tgt := 116) (by decide) (dOk_at dt_X8_contend 54 rfl) (fun q_12 => ?_) (fun q_12 => ?_)
        · refine j_sub [1, 2] rfl ?_
          exact b116 h_11 x1 
        · refine j_lload_n hC 0 rfl rfl (dOk_at dt_X8_contend 55 rfl) ?_
          refine j_lconst hC (v := (0 : Int64)) rfl (dOk_at dt_X8_contend 56 rfl) ?_
          refine j_lcmp hC (dOk_at dt_X8_contend 57 rfl) ?_
          refine j_if_eq hC (tgt := 116) (by decide) (dOk_at dt_X8_contend 58 rfl) (fun q_13 => ?_) (fun q_13 => ?_)
          · refine j_sub [1, 2] rfl ?_
            exact b116 h_11 x1 
          · refine j_aload_n hC 1 rfl rfl (dOk_at dt_X8_contend 59 rfl) ?_
            refine j_getR hC flX8_19 ht (jlt hN ht (by decide)) (by decide) (by decide) (fun _ _ _ => rfl) (fun hs => hs _ _ _ (sf_8_6 ht).1) (dOk_at dt_X8_contend 60 rfl) ?_
            refine j_iload_n hC 2 rfl rfl (dOk_at dt_X8_contend 61 rfl) ?_
            refine j_dup2 hC (dOk_at dt_X8_contend 62 rfl) ?_
            refine j_iald hC (sf_8_6 ht).2.1 (Nat.lt_of_lt_of_le (sf_8_6 ht).2.2 hN) (dOk_at dt_X8_contend 63 rfl) ?_
            refine j_iconst hC (v := (1 : Int32)) rfl (dOk_at dt_X8_contend 64 rfl) ?_
            refine j_aload_n hC 1 rfl rfl (dOk_at dt_X8_contend 65 rfl) ?_
            refine j_getD (q := (7, 20)) hC flX8_9 ht (jlt hN ht (by decide)) (by decide) (by decide) (fun _ _ _ => rfl) (dOk_at dt_X8_contend 66 rfl) (fun z_14 _ g_15 => ?_)
            refine j_iload_n hC 3 rfl rfl (dOk_at dt_X8_contend 67 rfl) ?_
            refine j_callVi hC clX8_115 (fun rz hrz => c_X7_claimOf hN (g_15) _ _ rz hrz) g_15 (jlt hN g_15 (by decide)) (by decide) rfl rfl ⟨Nat.le_of_ble_eq_true rfl, Nat.le_of_ble_eq_true rfl⟩ ⟨Nat.le_refl 0, Nat.le_refl 0⟩ (As := [.int x2]) (st := [.int (1 : Int32), .int (hI h_11 (rf tt 6) (Int32.toNatClampNeg x1)), .int x1, .ref (rf tt 6)]) rfl (Nat.le_of_ble_eq_true rfl) (dOk_at dt_X8_contend 68 rfl) (fun v_16 h_17 _ => ?_)
            refine j_ishl hC (dOk_at dt_X8_contend 69 rfl) ?_
            refine j_ior hC (dOk_at dt_X8_contend 70 rfl) ?_
            refine j_iast hC St_SP (sf_8_6 ht).2.1 (Nat.lt_of_lt_of_le (sf_8_6 ht).2.2 hN) (dOk_at dt_X8_contend 71 rfl) ?_
            refine j_sub [1, 2] rfl ?_
            exact b116 (uI h_17 (rf tt 6) (Int32.toNatClampNeg x1) ((hI h_11 (rf tt 6) (Int32.toNatClampNeg x1)) ||| ((1 : Int32) <<< (v_16 &&& 31)))) x1 
      · refine j_aload_n hC 0 rfl rfl (dOk_at dt_X8_contend 15 rfl) ?_
        refine j_getI hC flX8_81 ht (jlt hN ht (by decide)) (by decide) (by decide) (fun _ _ _ => rfl) (dOk_at dt_X8_contend 16 rfl) ?_
        refine j_if_ne hC (tgt := 65) (by decide) (dOk_at dt_X8_contend 17 rfl) (fun q_18 => ?_) (fun q_18 => ?_)
        · refine j_sub [0, 1] rfl ?_
          exact b65 h_8 x1 
        · refine j_aload_n hC 0 rfl rfl (dOk_at dt_X8_contend 18 rfl) ?_
          refine j_iconst hC (v := (1 : Int32)) rfl (dOk_at dt_X8_contend 19 rfl) ?_
          refine j_ldc2 hC klX8_168 (dOk_at dt_X8_contend 20 rfl) ?_
          refine j_ldc2 hC klX8_170 (dOk_at dt_X8_contend 21 rfl) ?_
          refine j_callVl hC clX8_157 (fun rz hrz => c_X8_boundLaw hN (ht) _ _ _ _ rz hrz) ht (jlt hN ht (by decide)) (by decide) rfl rfl ⟨Nat.le_of_ble_eq_true rfl, Nat.le_of_ble_eq_true rfl⟩ ⟨Nat.le_refl 0, Nat.le_refl 0⟩ (As := [.int (1 : Int32), .long (99 : Int64), .long (10 : Int64)]) (st := []) rfl (Nat.le_of_ble_eq_true rfl) (dOk_at dt_X8_contend 22 rfl) (fun v_19 h_20 _ => ?_)
          refine j_l2i hC (dOk_at dt_X8_contend 23 rfl) ?_
          refine j_istore_n hC rfl (lv' := [(3, .int (Int64.toInt32 v_19)), (0, .ref tt), (1, .int x1), (2, .int x2)]) (by decide) rfl (dOk_at dt_X8_contend 24 rfl) ?_
          refine j_aload_n hC 1 rfl rfl (dOk_at dt_X8_contend 25 rfl) ?_
          refine j_getR hC flX8_15 ht (jlt hN ht (by decide)) (by decide) (by decide) (fun _ _ _ => rfl) (fun hs => hs _ _ _ (sf_8_5 ht).1) (dOk_at dt_X8_contend 26 rfl) ?_
          refine j_iload_n hC 3 rfl rfl (dOk_at dt_X8_contend 27 rfl) ?_
          refine j_iconst hC (v := (0 : Int32)) rfl (dOk_at dt_X8_contend 28 rfl) ?_
          refine j_aload_n hC 1 rfl rfl (dOk_at dt_X8_contend 29 rfl) ?_
          refine j_getR hC flX8_15 ht (jlt hN ht (by decide)) (by decide) (by decide) (fun _ _ _ => rfl) (fun hs => hs _ _ _ (sf_8_5 ht).1) (dOk_at dt_X8_contend 30 rfl) ?_
          refine j_iload_n hC 3 rfl rfl (dOk_at dt_X8_contend 31 rfl) ?_
          refine j_iald hC (sf_8_5 ht).2.1 (Nat.lt_of_lt_of_le (sf_8_5 ht).2.2 hN) (dOk_at dt_X8_contend 32 rfl) ?_
          refine j_iload_n hC 0 rfl rfl (dOk_at dt_X8_contend 33 rfl) ?_
          refine j_isub hC (dOk_at dt_X8_contend 34 rfl) ?_
          refine j_mmax hC mtX8_172 ⟨Nat.le_of_ble_eq_true rfl, Nat.le_of_ble_eq_true rfl⟩ ⟨Nat.le_refl 0, Nat.le_refl 0⟩ (Nat.le_of_ble_eq_true rfl) (dOk_at dt_X8_contend 35 rfl) ?_
          refine j_iast hC St_SP (sf_8_5 ht).2.1 (Nat.lt_of_lt_of_le (sf_8_5 ht).2.2 hN) (dOk_at dt_X8_contend 36 rfl) ?_
          refine j_sub [1, 2] rfl ?_
          exact b65 (uI h_20 (rf tt 5) (Int32.toNatClampNeg x2) (if (0 : Int32) < ((hI h_20 (rf tt 5) (Int32.toNatClampNeg x2)) - (Int64.toInt32 v_19)) then ((hI h_20 (rf tt 5) (Int32.toNatClampNeg x2)) - (Int64.toInt32 v_19)) else (0 : Int32))) x1 
    · refine j_iconst hC (v := (0 : Int32)) rfl (dOk_at dt_X8_contend 8 rfl) ?_
      exact j_zretK hC hret rfl (dOk_at dt_X8_contend 9 rfl)
def tb_X8_stuffAll : List (Nat × Instr × Nat) := [(0, .iconst 0, 1), (1, .istore_n 1, 1), (2, .iload_n 1, 1), (3, .iconst 5, 1), (4, .if_icmp .ge 35, 3), (7, .aload_n 0, 1), (8, .getfield 15, 3), (11, .iload_n 1, 1), (12, .iload_n 1, 1), (13, .aload_n 0, 1), (14, .getfield 9, 3), (17, .getfield 57, 3), (20, .getfield 61, 3), (23, .if_icmp .ge 8, 3), (26, .bipush 99, 2), (28, .goto 4, 3), (31, .iconst 0, 1), (32, .iastore, 1), (33, .iinc 1 1, 3), (36, .goto (-34), 3), (39, .aload_n 0, 1), (40, .iconst 0, 1), (41, .putfield 43, 3), (44, .return_, 1)]
theorem dt_X8_stuffAll : dOk cX8_stuffAll tb_X8_stuffAll = true := by decide +kernel
def fX8_stuffAll_32 (tt : Nat) (rec2 : Hp → Int32 → Option (Hp)) (h : Hp) (x1 : Int32) (s1 : Int32) (s2 : Int32) : Option (Hp) := if inb s1 5 then (rec2 (uI h (rf tt 5) (Int32.toNatClampNeg s1) s2) (x1 + (1 : Int32))) else none
def fX8_stuffAll_2 : Nat → (Nat) → Hp → Int32 → Option (Hp)
  | 0, _, _, _ => none
  | fu + 1, tt, h, x1 => if (5 : Int32) ≤ x1 then (some (uI h tt 2 (0 : Int32))) else ((dref shp h tt 0 (7, 20)).bind (fun z_2 => if (hI h (rf z_2 1) 2) ≤ x1 then (fX8_stuffAll_32 tt (fX8_stuffAll_2 fu tt) h x1 x1 (0 : Int32)) else (fX8_stuffAll_32 tt (fX8_stuffAll_2 fu tt) h x1 x1 (99 : Int32))))
def fX8_stuffAll (tt : Nat) (h : Hp) : Option (Hp) := fX8_stuffAll_2 FU tt h (0 : Int32)
set_option maxRecDepth 100000 in
set_option maxHeartbeats 4000000 in
theorem c_X8_stuffAll {l : Launch} {sb : State} {D : va_G} {ids : Nat → ClassId} {n : Nat} (hN : 152 ≤ n) {tt : Nat} (ht : shp tt = (8, 15)) (h : Hp) (r : Hp) (hr : fX8_stuffAll tt h = some r) : jM l yX8_stuffAll cX8_stuffAll 2 none 0 sb D ids shp St n [.ref tt] h (jQv sb D ids shp St n r) := by
  refine jM_of hr rfl (Nat.le_of_ble_eq_true rfl) ?_
  intro p e s m args below meth c hC hret
  have b32 : ∀ (rec2 : Hp → Int32 → Option (Hp)) (hrec2 : ∀ (h : Hp) (x1 : Int32) , jJ p l e (rmD 0) s m args below meth c 2 sb D ids shp St (fun r => MQ below (jQv sb D ids shp St n r) args s 0 0 (jA sb)) n 0 0 h 2 [(0, .ref tt), (1, .int x1)] [] (rec2 h x1)) (h : Hp) (x1 : Int32) (s1 : Int32) (s2 : Int32) , jJ p l e (rmD 0) s m args below meth c 2 sb D ids shp St (fun r => MQ below (jQv sb D ids shp St n r) args s 0 0 (jA sb)) n 0 0 h 32 [(0, .ref tt), (1, .int x1)] [.int s2, .int s1, .ref (rf tt 5)] (fX8_stuffAll_32 tt rec2 h x1 s1 s2) := by
    intro rec2 hrec2 h x1 s1 s2 
    unfold fX8_stuffAll_32
    refine j_iast hC St_SP (sf_8_5 ht).2.1 (Nat.lt_of_lt_of_le (sf_8_5 ht).2.2 hN) (dOk_at dt_X8_stuffAll 17 rfl) ?_
    refine j_iinc hC (v := (x1 + (1 : Int32))) (lv' := [(1, .int (x1 + (1 : Int32))), (0, .ref tt)]) 1 rfl (congrArg (fun z => x1 + z) (show Int32.ofInt (1) = (1 : Int32) from by decide)) (by decide) rfl (dOk_at dt_X8_stuffAll 18 rfl) ?_
    refine j_goto hC (tgt := 2) (by decide) (dOk_at dt_X8_stuffAll 19 rfl) ?_
    refine j_sub [1, 0] rfl ?_
    exact hrec2 (uI h (rf tt 5) (Int32.toNatClampNeg s1) s2) (x1 + (1 : Int32)) 
  have b2 : ∀ (fu : Nat) (h : Hp) (x1 : Int32) , jJ p l e (rmD 0) s m args below meth c 2 sb D ids shp St (fun r => MQ below (jQv sb D ids shp St n r) args s 0 0 (jA sb)) n 0 0 h 2 [(0, .ref tt), (1, .int x1)] [] (fX8_stuffAll_2 fu tt h x1) := by
    intro fu 
    induction fu with
    | zero => intro h x1 ; exact j_none
    | succ fu ih =>
    intro h x1 
    rw [fX8_stuffAll_2]
    refine j_iload_n hC 1 rfl rfl (dOk_at dt_X8_stuffAll 2 rfl) ?_
    refine j_iconst hC (v := (5 : Int32)) rfl (dOk_at dt_X8_stuffAll 3 rfl) ?_
    refine j_icmp_ge hC (tgt := 39) (by decide) (dOk_at dt_X8_stuffAll 4 rfl) (fun q_1 => ?_) (fun q_1 => ?_)
    · refine j_aload_n hC 0 rfl rfl (dOk_at dt_X8_stuffAll 20 rfl) ?_
      refine j_iconst hC (v := (0 : Int32)) rfl (dOk_at dt_X8_stuffAll 21 rfl) ?_
      refine j_putI hC St_SP flX8_43 ht (jlt hN ht (by decide)) (by decide) (by decide) rfl rfl (dOk_at dt_X8_stuffAll 22 rfl) ?_
      exact j_vret hC hret (dOk_at dt_X8_stuffAll 23 rfl)
    · refine j_aload_n hC 0 rfl rfl (dOk_at dt_X8_stuffAll 5 rfl) ?_
      refine j_getR hC flX8_15 ht (jlt hN ht (by decide)) (by decide) (by decide) (fun _ _ _ => rfl) (fun hs => hs _ _ _ (sf_8_5 ht).1) (dOk_at dt_X8_stuffAll 6 rfl) ?_
      refine j_iload_n hC 1 rfl rfl (dOk_at dt_X8_stuffAll 7 rfl) ?_
      refine j_iload_n hC 1 rfl rfl (dOk_at dt_X8_stuffAll 8 rfl) ?_
      refine j_aload_n hC 0 rfl rfl (dOk_at dt_X8_stuffAll 9 rfl) ?_
      refine j_getD (q := (7, 20)) hC flX8_9 ht (jlt hN ht (by decide)) (by decide) (by decide) (fun _ _ _ => rfl) (dOk_at dt_X8_stuffAll 10 rfl) (fun z_2 _ g_3 => ?_)
      refine j_getR hC flX8_57 g_3 (jlt hN g_3 (by decide)) (by decide) (by decide) (fun _ _ _ => rfl) (fun hs => hs _ _ _ (sf_7_1 g_3).1) (dOk_at dt_X8_stuffAll 11 rfl) ?_
      refine j_getI hC flX8_61 (sf_7_1 g_3).2.1 (Nat.lt_of_lt_of_le (sf_7_1 g_3).2.2 hN) (by decide) (by decide) (fun _ _ _ => rfl) (dOk_at dt_X8_stuffAll 12 rfl) ?_
      refine j_icmp_ge hC (tgt := 31) (by decide) (dOk_at dt_X8_stuffAll 13 rfl) (fun q_4 => ?_) (fun q_4 => ?_)
      · refine j_iconst hC (v := (0 : Int32)) rfl (dOk_at dt_X8_stuffAll 16 rfl) ?_
        exact b32 (fX8_stuffAll_2 fu tt) ih h x1 x1 (0 : Int32) 
      · refine j_bipush hC (v := (99 : Int32)) rfl (dOk_at dt_X8_stuffAll 14 rfl) ?_
        refine j_goto hC (tgt := 32) (by decide) (dOk_at dt_X8_stuffAll 15 rfl) ?_
        exact b32 (fX8_stuffAll_2 fu tt) ih h x1 x1 (99 : Int32) 
  unfold fX8_stuffAll
  refine j_iconst hC (v := (0 : Int32)) rfl (dOk_at dt_X8_stuffAll 0 rfl) ?_
  refine j_istore_n hC rfl (lv' := [(1, .int (0 : Int32)), (0, .ref tt)]) (by decide) rfl (dOk_at dt_X8_stuffAll 1 rfl) ?_
  refine j_sub [1, 0] rfl ?_
  exact b2 FU h (0 : Int32) 
def tb_X8_stuffTold : List (Nat × Instr × Nat) := [(0, .iconst 0, 1), (1, .istore_n 1, 1), (2, .iload_n 1, 1), (3, .aload_n 0, 1), (4, .getfield 9, 3), (7, .getfield 208, 3), (10, .if_icmp .ge 71, 3), (13, .iload_n 1, 1), (14, .bipush 6, 2), (16, .if_icmp .ge 65, 3), (19, .aload_n 0, 1), (20, .getfield 9, 3), (23, .getfield 211, 3), (26, .iload_n 1, 1), (27, .iaload, 1), (28, .istore_n 2, 1), (29, .aload_n 0, 1), (30, .getfield 9, 3), (33, .getfield 214, 3), (36, .iload_n 1, 1), (37, .iaload, 1), (38, .aload_n 0, 1), (39, .getfield 40, 3), (42, .if_icmp .ne 33, 3), (45, .aload_n 0, 1), (46, .iload_n 2, 1), (47, .invokevirtual 161, 3), (50, .ifCond .eq 25, 3), (53, .aload_n 0, 1), (54, .getfield 15, 3), (57, .iload_n 2, 1), (58, .bipush 99, 2), (60, .iastore, 1), (61, .aload_n 0, 1), (62, .dup, 1), (63, .getfield 43, 3), (66, .iconst 1, 1), (67, .iload_n 2, 1), (68, .ishl, 1), (69, .iconst (-1), 1), (70, .ixor, 1), (71, .iand, 1), (72, .putfield 43, 3), (75, .iinc 1 1, 3), (78, .goto (-76), 3), (81, .return_, 1)]
theorem dt_X8_stuffTold : dOk cX8_stuffTold tb_X8_stuffTold = true := by decide +kernel
def fX8_stuffTold_75 (tt : Nat) (rec2 : Hp → Int32 → Option (Hp)) (h : Hp) (x1 : Int32) : Option (Hp) := rec2 h (x1 + (1 : Int32))
def fX8_stuffTold_2 : Nat → (Nat) → Hp → Int32 → Option (Hp)
  | 0, _, _, _ => none
  | fu + 1, tt, h, x1 => (dref shp h tt 0 (7, 20)).bind (fun z_1 => if (hI h z_1 10) ≤ x1 then (some h) else (if (6 : Int32) ≤ x1 then (some h) else ((dref shp h tt 0 (7, 20)).bind (fun z_5 => if inb x1 6 then ((dref shp h tt 0 (7, 20)).bind (fun z_7 => if inb x1 6 then (if (hI h (rf z_7 12) (Int32.toNatClampNeg x1)) = (hI h tt 1) then (bnd (fX8_isStraw tt h (hI h (rf z_5 11) (Int32.toNatClampNeg x1))) (fun v_10 h_11 => if v_10 = 0 then (fX8_stuffTold_75 tt (fX8_stuffTold_2 fu tt) h_11 x1) else (if inb (hI h (rf z_5 11) (Int32.toNatClampNeg x1)) 5 then (fX8_stuffTold_75 tt (fX8_stuffTold_2 fu tt) (uI (uI h_11 (rf tt 5) (Int32.toNatClampNeg (hI h (rf z_5 11) (Int32.toNatClampNeg x1))) (99 : Int32)) tt 2 ((hI (uI h_11 (rf tt 5) (Int32.toNatClampNeg (hI h (rf z_5 11) (Int32.toNatClampNeg x1))) (99 : Int32)) tt 2) &&& (((1 : Int32) <<< ((hI h (rf z_5 11) (Int32.toNatClampNeg x1)) &&& 31)) ^^^ (-1 : Int32)))) x1) else none))) else (fX8_stuffTold_75 tt (fX8_stuffTold_2 fu tt) h x1)) else none)) else none))))
def fX8_stuffTold (tt : Nat) (h : Hp) : Option (Hp) := fX8_stuffTold_2 FU tt h (0 : Int32)
set_option maxRecDepth 100000 in
set_option maxHeartbeats 4000000 in
theorem c_X8_stuffTold {l : Launch} {sb : State} {D : va_G} {ids : Nat → ClassId} {n : Nat} (hN : 152 ≤ n) {tt : Nat} (ht : shp tt = (8, 15)) (h : Hp) (r : Hp) (hr : fX8_stuffTold tt h = some r) : jM l yX8_stuffTold cX8_stuffTold 3 none 1 sb D ids shp St n [.ref tt] h (jQv sb D ids shp St n r) := by
  refine jM_of hr rfl (Nat.le_of_ble_eq_true rfl) ?_
  intro p e s m args below meth c hC hret
  have b75 : ∀ (rec2 : Hp → Int32 → Option (Hp)) (hrec2 : ∀ (h : Hp) (x1 : Int32) , jJ p l e (rmD 1) s m args below meth c 3 sb D ids shp St (fun r => MQ below (jQv sb D ids shp St n r) args s 0 0 (jA sb)) n 0 0 h 2 [(0, .ref tt), (1, .int x1)] [] (rec2 h x1)) (h : Hp) (x1 : Int32) , jJ p l e (rmD 1) s m args below meth c 3 sb D ids shp St (fun r => MQ below (jQv sb D ids shp St n r) args s 0 0 (jA sb)) n 0 0 h 75 [(0, .ref tt), (1, .int x1)] [] (fX8_stuffTold_75 tt rec2 h x1) := by
    intro rec2 hrec2 h x1 
    unfold fX8_stuffTold_75
    refine j_iinc hC (v := (x1 + (1 : Int32))) (lv' := [(1, .int (x1 + (1 : Int32))), (0, .ref tt)]) 1 rfl (congrArg (fun z => x1 + z) (show Int32.ofInt (1) = (1 : Int32) from by decide)) (by decide) rfl (dOk_at dt_X8_stuffTold 43 rfl) ?_
    refine j_goto hC (tgt := 2) (by decide) (dOk_at dt_X8_stuffTold 44 rfl) ?_
    refine j_sub [1, 0] rfl ?_
    exact hrec2 h (x1 + (1 : Int32)) 
  have b2 : ∀ (fu : Nat) (h : Hp) (x1 : Int32) , jJ p l e (rmD 1) s m args below meth c 3 sb D ids shp St (fun r => MQ below (jQv sb D ids shp St n r) args s 0 0 (jA sb)) n 0 0 h 2 [(0, .ref tt), (1, .int x1)] [] (fX8_stuffTold_2 fu tt h x1) := by
    intro fu 
    induction fu with
    | zero => intro h x1 ; exact j_none
    | succ fu ih =>
    intro h x1 
    rw [fX8_stuffTold_2]
    refine j_iload_n hC 1 rfl rfl (dOk_at dt_X8_stuffTold 2 rfl) ?_
    refine j_aload_n hC 0 rfl rfl (dOk_at dt_X8_stuffTold 3 rfl) ?_
    refine j_getD (q := (7, 20)) hC flX8_9 ht (jlt hN ht (by decide)) (by decide) (by decide) (fun _ _ _ => rfl) (dOk_at dt_X8_stuffTold 4 rfl) (fun z_1 _ g_2 => ?_)
    refine j_getI hC flX8_208 g_2 (jlt hN g_2 (by decide)) (by decide) (by decide) (fun _ _ _ => rfl) (dOk_at dt_X8_stuffTold 5 rfl) ?_
    refine j_icmp_ge hC (tgt := 81) (by decide) (dOk_at dt_X8_stuffTold 6 rfl) (fun q_3 => ?_) (fun q_3 => ?_)
    · exact j_vret hC hret (dOk_at dt_X8_stuffTold 45 rfl)
    · refine j_iload_n hC 1 rfl rfl (dOk_at dt_X8_stuffTold 7 rfl) ?_
      refine j_bipush hC (v := (6 : Int32)) rfl (dOk_at dt_X8_stuffTold 8 rfl) ?_
      refine j_icmp_ge hC (tgt := 81) (by decide) (dOk_at dt_X8_stuffTold 9 rfl) (fun q_4 => ?_) (fun q_4 => ?_)
      · exact j_vret hC hret (dOk_at dt_X8_stuffTold 45 rfl)
      · refine j_aload_n hC 0 rfl rfl (dOk_at dt_X8_stuffTold 10 rfl) ?_
        refine j_getD (q := (7, 20)) hC flX8_9 ht (jlt hN ht (by decide)) (by decide) (by decide) (fun _ _ _ => rfl) (dOk_at dt_X8_stuffTold 11 rfl) (fun z_5 _ g_6 => ?_)
        refine j_getR hC flX8_211 g_6 (jlt hN g_6 (by decide)) (by decide) (by decide) (fun _ _ _ => rfl) (fun hs => hs _ _ _ (sf_7_11 g_6).1) (dOk_at dt_X8_stuffTold 12 rfl) ?_
        refine j_iload_n hC 1 rfl rfl (dOk_at dt_X8_stuffTold 13 rfl) ?_
        refine j_iald hC (sf_7_11 g_6).2.1 (Nat.lt_of_lt_of_le (sf_7_11 g_6).2.2 hN) (dOk_at dt_X8_stuffTold 14 rfl) ?_
        refine j_istore_n hC rfl (lv' := [(2, .int (hI h (rf z_5 11) (Int32.toNatClampNeg x1))), (0, .ref tt), (1, .int x1)]) (by decide) rfl (dOk_at dt_X8_stuffTold 15 rfl) ?_
        refine j_aload_n hC 1 rfl rfl (dOk_at dt_X8_stuffTold 16 rfl) ?_
        refine j_getD (q := (7, 20)) hC flX8_9 ht (jlt hN ht (by decide)) (by decide) (by decide) (fun _ _ _ => rfl) (dOk_at dt_X8_stuffTold 17 rfl) (fun z_7 _ g_8 => ?_)
        refine j_getR hC flX8_214 g_8 (jlt hN g_8 (by decide)) (by decide) (by decide) (fun _ _ _ => rfl) (fun hs => hs _ _ _ (sf_7_12 g_8).1) (dOk_at dt_X8_stuffTold 18 rfl) ?_
        refine j_iload_n hC 2 rfl rfl (dOk_at dt_X8_stuffTold 19 rfl) ?_
        refine j_iald hC (sf_7_12 g_8).2.1 (Nat.lt_of_lt_of_le (sf_7_12 g_8).2.2 hN) (dOk_at dt_X8_stuffTold 20 rfl) ?_
        refine j_aload_n hC 1 rfl rfl (dOk_at dt_X8_stuffTold 21 rfl) ?_
        refine j_getI hC flX8_40 ht (jlt hN ht (by decide)) (by decide) (by decide) (fun _ _ _ => rfl) (dOk_at dt_X8_stuffTold 22 rfl) ?_
        refine j_icmp_ne hC (tgt := 75) (by decide) (dOk_at dt_X8_stuffTold 23 rfl) (fun q_9 => ?_) (fun q_9 => ?_)
        · refine j_sub [1, 2] rfl ?_
          exact b75 (fX8_stuffTold_2 fu tt) ih h x1 
        · refine j_aload_n hC 1 rfl rfl (dOk_at dt_X8_stuffTold 24 rfl) ?_
          refine j_iload_n hC 0 rfl rfl (dOk_at dt_X8_stuffTold 25 rfl) ?_
          refine j_callVi hC clX8_161 (fun rz hrz => c_X8_isStraw hN (ht) _ _ rz hrz) ht (jlt hN ht (by decide)) (by decide) rfl rfl ⟨Nat.le_of_ble_eq_true rfl, Nat.le_of_ble_eq_true rfl⟩ ⟨Nat.le_refl 0, Nat.le_refl 0⟩ (As := [.int (hI h (rf z_5 11) (Int32.toNatClampNeg x1))]) (st := []) rfl (Nat.le_of_ble_eq_true rfl) (dOk_at dt_X8_stuffTold 26 rfl) (fun v_10 h_11 _ => ?_)
          refine j_if_eq hC (tgt := 75) (by decide) (dOk_at dt_X8_stuffTold 27 rfl) (fun q_12 => ?_) (fun q_12 => ?_)
          · refine j_sub [1, 2] rfl ?_
            exact b75 (fX8_stuffTold_2 fu tt) ih h_11 x1 
          · refine j_aload_n hC 1 rfl rfl (dOk_at dt_X8_stuffTold 28 rfl) ?_
            refine j_getR hC flX8_15 ht (jlt hN ht (by decide)) (by decide) (by decide) (fun _ _ _ => rfl) (fun hs => hs _ _ _ (sf_8_5 ht).1) (dOk_at dt_X8_stuffTold 29 rfl) ?_
            refine j_iload_n hC 0 rfl rfl (dOk_at dt_X8_stuffTold 30 rfl) ?_
            refine j_bipush hC (v := (99 : Int32)) rfl (dOk_at dt_X8_stuffTold 31 rfl) ?_
            refine j_iast hC St_SP (sf_8_5 ht).2.1 (Nat.lt_of_lt_of_le (sf_8_5 ht).2.2 hN) (dOk_at dt_X8_stuffTold 32 rfl) ?_
            refine j_aload_n hC 1 rfl rfl (dOk_at dt_X8_stuffTold 33 rfl) ?_
            refine j_dupr hC (dOk_at dt_X8_stuffTold 34 rfl) ?_
            refine j_getI hC flX8_43 ht (jlt hN ht (by decide)) (by decide) (by decide) (fun _ _ _ => rfl) (dOk_at dt_X8_stuffTold 35 rfl) ?_
            refine j_iconst hC (v := (1 : Int32)) rfl (dOk_at dt_X8_stuffTold 36 rfl) ?_
            refine j_iload_n hC 0 rfl rfl (dOk_at dt_X8_stuffTold 37 rfl) ?_
            refine j_ishl hC (dOk_at dt_X8_stuffTold 38 rfl) ?_
            refine j_iconst hC (v := (-1 : Int32)) rfl (dOk_at dt_X8_stuffTold 39 rfl) ?_
            refine j_ixor hC (dOk_at dt_X8_stuffTold 40 rfl) ?_
            refine j_iand hC (dOk_at dt_X8_stuffTold 41 rfl) ?_
            refine j_putI hC St_SP flX8_43 ht (jlt hN ht (by decide)) (by decide) (by decide) rfl rfl (dOk_at dt_X8_stuffTold 42 rfl) ?_
            refine j_sub [1, 2] rfl ?_
            exact b75 (fX8_stuffTold_2 fu tt) ih (uI (uI h_11 (rf tt 5) (Int32.toNatClampNeg (hI h (rf z_5 11) (Int32.toNatClampNeg x1))) (99 : Int32)) tt 2 ((hI (uI h_11 (rf tt 5) (Int32.toNatClampNeg (hI h (rf z_5 11) (Int32.toNatClampNeg x1))) (99 : Int32)) tt 2) &&& (((1 : Int32) <<< ((hI h (rf z_5 11) (Int32.toNatClampNeg x1)) &&& 31)) ^^^ (-1 : Int32)))) x1 
  unfold fX8_stuffTold
  refine j_iconst hC (v := (0 : Int32)) rfl (dOk_at dt_X8_stuffTold 0 rfl) ?_
  refine j_istore_n hC rfl (lv' := [(1, .int (0 : Int32)), (0, .ref tt)]) (by decide) rfl (dOk_at dt_X8_stuffTold 1 rfl) ?_
  refine j_sub [1, 0] rfl ?_
  exact b2 FU h (0 : Int32) 
def tb_X8_takesPlace : List (Nat × Instr × Nat) := [(0, .iload_n 1, 1), (1, .ifCond .lt 25, 3), (4, .iload_n 1, 1), (5, .bipush 12, 2), (7, .if_icmp .ge 19, 3), (10, .aload_n 0, 1), (11, .getfield 9, 3), (14, .getfield 196, 3), (17, .iload_n 1, 1), (18, .iaload, 1), (19, .aload_n 0, 1), (20, .getfield 36, 3), (23, .if_icmp .ne 5, 3), (26, .iconst 0, 1), (27, .ireturn, 1), (28, .aload_n 0, 1), (29, .aload_n 0, 1), (30, .getfield 9, 3), (33, .getfield 199, 3), (36, .iload_n 1, 1), (37, .iaload, 1), (38, .invokevirtual 217, 3), (41, .istore_n 2, 1), (42, .iload_n 2, 1), (43, .ifCond .eq 13, 3), (46, .aload_n 0, 1), (47, .dup, 1), (48, .getfield 46, 3), (51, .iconst 1, 1), (52, .iadd, 1), (53, .putfield 46, 3), (56, .iload_n 2, 1), (57, .ifCond .ne 7, 3), (60, .iconst 1, 1), (61, .goto 4, 3), (64, .iconst 0, 1), (65, .ireturn, 1)]
theorem dt_X8_takesPlace : dOk cX8_takesPlace tb_X8_takesPlace = true := by decide +kernel
def fX8_takesPlace_56 (tt : Nat) (h : Hp) (x2 : Int32) : Option (Int32 × Hp) := if x2 = 0 then (some ((1 : Int32), h)) else (some ((0 : Int32), h))
def fX8_takesPlace (tt : Nat) (h : Hp) (x1 : Int32) : Option (Int32 × Hp) := if x1 < 0 then (some ((0 : Int32), h)) else (if (12 : Int32) ≤ x1 then (some ((0 : Int32), h)) else ((dref shp h tt 0 (7, 20)).bind (fun z_3 => if inb x1 12 then (if (hI h (rf z_3 7) (Int32.toNatClampNeg x1)) = (hI h tt 14) then (some ((0 : Int32), h)) else ((dref shp h tt 0 (7, 20)).bind (fun z_6 => if inb x1 12 then (bnd (fX8_inShed tt h (hI h (rf z_6 8) (Int32.toNatClampNeg x1))) (fun v_8 h_9 => if v_8 = 0 then (fX8_takesPlace_56 tt h_9 v_8) else (fX8_takesPlace_56 tt (uI h_9 tt 3 ((hI h_9 tt 3) + (1 : Int32))) v_8))) else none))) else none)))
set_option maxRecDepth 100000 in
set_option maxHeartbeats 4000000 in
theorem c_X8_takesPlace {l : Launch} {sb : State} {D : va_G} {ids : Nat → ClassId} {n : Nat} (hN : 152 ≤ n) {tt : Nat} (ht : shp tt = (8, 15)) (h : Hp) (x1 : Int32) (r : Int32 × Hp) (hr : fX8_takesPlace tt h x1 = some r) : jM l yX8_takesPlace cX8_takesPlace 3 (some .boolean) 1 sb D ids shp St n [.ref tt, .int x1] h (jQi sb D ids shp St n r) := by
  refine jM_of hr rfl (Nat.le_of_ble_eq_true rfl) ?_
  intro p e s m args below meth c hC hret
  have b56 : ∀ (h : Hp) (x2 : Int32) , jJ p l e (rmD 1) s m args below meth c 3 sb D ids shp St (fun r => MQ below (jQi sb D ids shp St n r) args s 0 0 (jA sb)) n 0 0 h 56 [(2, .int x2)] [] (fX8_takesPlace_56 tt h x2) := by
    intro h x2 
    unfold fX8_takesPlace_56
    refine j_iload_n hC 0 rfl rfl (dOk_at dt_X8_takesPlace 31 rfl) ?_
    refine j_if_ne hC (tgt := 64) (by decide) (dOk_at dt_X8_takesPlace 32 rfl) (fun q_11 => ?_) (fun q_11 => ?_)
    · refine j_iconst hC (v := (0 : Int32)) rfl (dOk_at dt_X8_takesPlace 35 rfl) ?_
      exact j_zretK hC hret rfl (dOk_at dt_X8_takesPlace 36 rfl)
    · refine j_iconst hC (v := (1 : Int32)) rfl (dOk_at dt_X8_takesPlace 33 rfl) ?_
      refine j_goto hC (tgt := 65) (by decide) (dOk_at dt_X8_takesPlace 34 rfl) ?_
      exact j_zretK hC hret rfl (dOk_at dt_X8_takesPlace 36 rfl)
  unfold fX8_takesPlace
  refine j_iload_n hC 1 rfl rfl (dOk_at dt_X8_takesPlace 0 rfl) ?_
  refine j_if_lt hC (tgt := 26) (by decide) (dOk_at dt_X8_takesPlace 1 rfl) (fun q_1 => ?_) (fun q_1 => ?_)
  · refine j_iconst hC (v := (0 : Int32)) rfl (dOk_at dt_X8_takesPlace 13 rfl) ?_
    exact j_zretK hC hret rfl (dOk_at dt_X8_takesPlace 14 rfl)
  · refine j_iload_n hC 1 rfl rfl (dOk_at dt_X8_takesPlace 2 rfl) ?_
    refine j_bipush hC (v := (12 : Int32)) rfl (dOk_at dt_X8_takesPlace 3 rfl) ?_
    refine j_icmp_ge hC (tgt := 26) (by decide) (dOk_at dt_X8_takesPlace 4 rfl) (fun q_2 => ?_) (fun q_2 => ?_)
    · refine j_iconst hC (v := (0 : Int32)) rfl (dOk_at dt_X8_takesPlace 13 rfl) ?_
      exact j_zretK hC hret rfl (dOk_at dt_X8_takesPlace 14 rfl)
    · refine j_aload_n hC 0 rfl rfl (dOk_at dt_X8_takesPlace 5 rfl) ?_
      refine j_getD (q := (7, 20)) hC flX8_9 ht (jlt hN ht (by decide)) (by decide) (by decide) (fun _ _ _ => rfl) (dOk_at dt_X8_takesPlace 6 rfl) (fun z_3 _ g_4 => ?_)
      refine j_getR hC flX8_196 g_4 (jlt hN g_4 (by decide)) (by decide) (by decide) (fun _ _ _ => rfl) (fun hs => hs _ _ _ (sf_7_7 g_4).1) (dOk_at dt_X8_takesPlace 7 rfl) ?_
      refine j_iload_n hC 1 rfl rfl (dOk_at dt_X8_takesPlace 8 rfl) ?_
      refine j_iald hC (sf_7_7 g_4).2.1 (Nat.lt_of_lt_of_le (sf_7_7 g_4).2.2 hN) (dOk_at dt_X8_takesPlace 9 rfl) ?_
      refine j_aload_n hC 0 rfl rfl (dOk_at dt_X8_takesPlace 10 rfl) ?_
      refine j_getI hC flX8_36 ht (jlt hN ht (by decide)) (by decide) (by decide) (fun _ _ _ => rfl) (dOk_at dt_X8_takesPlace 11 rfl) ?_
      refine j_icmp_ne hC (tgt := 28) (by decide) (dOk_at dt_X8_takesPlace 12 rfl) (fun q_5 => ?_) (fun q_5 => ?_)
      · refine j_aload_n hC 0 rfl rfl (dOk_at dt_X8_takesPlace 15 rfl) ?_
        refine j_aload_n hC 0 rfl rfl (dOk_at dt_X8_takesPlace 16 rfl) ?_
        refine j_getD (q := (7, 20)) hC flX8_9 ht (jlt hN ht (by decide)) (by decide) (by decide) (fun _ _ _ => rfl) (dOk_at dt_X8_takesPlace 17 rfl) (fun z_6 _ g_7 => ?_)
        refine j_getR hC flX8_199 g_7 (jlt hN g_7 (by decide)) (by decide) (by decide) (fun _ _ _ => rfl) (fun hs => hs _ _ _ (sf_7_8 g_7).1) (dOk_at dt_X8_takesPlace 18 rfl) ?_
        refine j_iload_n hC 1 rfl rfl (dOk_at dt_X8_takesPlace 19 rfl) ?_
        refine j_iald hC (sf_7_8 g_7).2.1 (Nat.lt_of_lt_of_le (sf_7_8 g_7).2.2 hN) (dOk_at dt_X8_takesPlace 20 rfl) ?_
        refine j_callVi hC clX8_217 (fun rz hrz => c_X8_inShed hN (ht) _ _ rz hrz) ht (jlt hN ht (by decide)) (by decide) rfl rfl ⟨Nat.le_of_ble_eq_true rfl, Nat.le_of_ble_eq_true rfl⟩ ⟨Nat.le_refl 0, Nat.le_refl 0⟩ (As := [.int (hI h (rf z_6 8) (Int32.toNatClampNeg x1))]) (st := []) rfl (Nat.le_of_ble_eq_true rfl) (dOk_at dt_X8_takesPlace 21 rfl) (fun v_8 h_9 _ => ?_)
        refine j_istore_n hC rfl (lv' := [(2, .int v_8), (0, .ref tt), (1, .int x1)]) (by decide) rfl (dOk_at dt_X8_takesPlace 22 rfl) ?_
        refine j_iload_n hC 0 rfl rfl (dOk_at dt_X8_takesPlace 23 rfl) ?_
        refine j_if_eq hC (tgt := 56) (by decide) (dOk_at dt_X8_takesPlace 24 rfl) (fun q_10 => ?_) (fun q_10 => ?_)
        · refine j_sub [0] rfl ?_
          exact b56 h_9 v_8 
        · refine j_aload_n hC 1 rfl rfl (dOk_at dt_X8_takesPlace 25 rfl) ?_
          refine j_dupr hC (dOk_at dt_X8_takesPlace 26 rfl) ?_
          refine j_getI hC flX8_46 ht (jlt hN ht (by decide)) (by decide) (by decide) (fun _ _ _ => rfl) (dOk_at dt_X8_takesPlace 27 rfl) ?_
          refine j_iconst hC (v := (1 : Int32)) rfl (dOk_at dt_X8_takesPlace 28 rfl) ?_
          refine j_iadd hC (dOk_at dt_X8_takesPlace 29 rfl) ?_
          refine j_putI hC St_SP flX8_46 ht (jlt hN ht (by decide)) (by decide) (by decide) rfl rfl (dOk_at dt_X8_takesPlace 30 rfl) ?_
          refine j_sub [0] rfl ?_
          exact b56 (uI h_9 tt 3 ((hI h_9 tt 3) + (1 : Int32))) v_8 
      · refine j_iconst hC (v := (0 : Int32)) rfl (dOk_at dt_X8_takesPlace 13 rfl) ?_
        exact j_zretK hC hret rfl (dOk_at dt_X8_takesPlace 14 rfl)
def tb_X8_drawNumber : List (Nat × Instr × Nat) := [(0, .aload_n 0, 1), (1, .aload_n 0, 1), (2, .getfield 54, 3), (5, .ldc 231, 2), (7, .imul, 1), (8, .sipush 12345, 3), (11, .iadd, 1), (12, .ldc 232, 2), (14, .iand, 1), (15, .putfield 54, 3), (18, .aload_n 0, 1), (19, .getfield 54, 3), (22, .bipush 16, 2), (24, .ishr, 1), (25, .ireturn, 1)]
theorem dt_X8_drawNumber : dOk cX8_drawNumber tb_X8_drawNumber = true := by decide +kernel
def fX8_drawNumber (tt : Nat) (h : Hp) : Option (Int32 × Hp) := some (((hI (uI h tt 4 ((((hI h tt 4) * (1103515245 : Int32)) + (12345 : Int32)) &&& (2147483647 : Int32))) tt 4) >>> ((16 : Int32) &&& 31)), (uI h tt 4 ((((hI h tt 4) * (1103515245 : Int32)) + (12345 : Int32)) &&& (2147483647 : Int32))))
set_option maxRecDepth 100000 in
set_option maxHeartbeats 4000000 in
theorem c_X8_drawNumber {l : Launch} {sb : State} {D : va_G} {ids : Nat → ClassId} {n : Nat} (hN : 152 ≤ n) {tt : Nat} (ht : shp tt = (8, 15)) (h : Hp) (r : Int32 × Hp) (hr : fX8_drawNumber tt h = some r) : jM l yX8_drawNumber cX8_drawNumber 1 (some .int) 0 sb D ids shp St n [.ref tt] h (jQi sb D ids shp St n r) := by
  refine jM_of hr rfl (Nat.le_of_ble_eq_true rfl) ?_
  intro p e s m args below meth c hC hret
  unfold fX8_drawNumber
  refine j_aload_n hC 0 rfl rfl (dOk_at dt_X8_drawNumber 0 rfl) ?_
  refine j_aload_n hC 0 rfl rfl (dOk_at dt_X8_drawNumber 1 rfl) ?_
  refine j_getI hC flX8_54 ht (jlt hN ht (by decide)) (by decide) (by decide) (fun _ _ _ => rfl) (dOk_at dt_X8_drawNumber 2 rfl) ?_
  refine j_ldc hC kcX8_231 (dOk_at dt_X8_drawNumber 3 rfl) ?_
  refine j_imul hC (dOk_at dt_X8_drawNumber 4 rfl) ?_
  refine j_sipush hC (v := (12345 : Int32)) rfl (dOk_at dt_X8_drawNumber 5 rfl) ?_
  refine j_iadd hC (dOk_at dt_X8_drawNumber 6 rfl) ?_
  refine j_ldc hC kcX8_232 (dOk_at dt_X8_drawNumber 7 rfl) ?_
  refine j_iand hC (dOk_at dt_X8_drawNumber 8 rfl) ?_
  refine j_putI hC St_SP flX8_54 ht (jlt hN ht (by decide)) (by decide) (by decide) rfl rfl (dOk_at dt_X8_drawNumber 9 rfl) ?_
  refine j_aload_n hC 0 rfl rfl (dOk_at dt_X8_drawNumber 10 rfl) ?_
  refine j_getI hC flX8_54 ht (jlt hN ht (by decide)) (by decide) (by decide) (fun _ _ _ => rfl) (dOk_at dt_X8_drawNumber 11 rfl) ?_
  refine j_bipush hC (v := (16 : Int32)) rfl (dOk_at dt_X8_drawNumber 12 rfl) ?_
  refine j_ishr hC (dOk_at dt_X8_drawNumber 13 rfl) ?_
  exact j_iret hC hret (dOk_at dt_X8_drawNumber 14 rfl)
def tb_X8_isDamp : List (Nat × Instr × Nat) := [(0, .aload_n 0, 1), (1, .getfield 9, 3), (4, .getfield 224, 3), (7, .istore_n 1, 1), (8, .aload_n 0, 1), (9, .getfield 78, 3), (12, .ifCond .ne 7, 3), (15, .iload_n 1, 1), (16, .ifCond .ne 5, 3), (19, .iconst 0, 1), (20, .ireturn, 1), (21, .aload_n 0, 1), (22, .getfield 32, 3), (25, .ifCond .ne 15, 3), (28, .iload_n 1, 1), (29, .bipush 50, 2), (31, .if_icmp .lt 7, 3), (34, .iconst 1, 1), (35, .goto 4, 3), (38, .iconst 0, 1), (39, .ireturn, 1), (40, .iload_n 1, 1), (41, .bipush 100, 2), (43, .if_icmp .eq 14, 3), (46, .aload_n 0, 1), (47, .invokevirtual 227, 3), (50, .bipush 100, 2), (52, .irem, 1), (53, .iload_n 1, 1), (54, .if_icmp .ge 7, 3), (57, .iconst 1, 1), (58, .goto 4, 3), (61, .iconst 0, 1), (62, .ireturn, 1)]
theorem dt_X8_isDamp : dOk cX8_isDamp tb_X8_isDamp = true := by decide +kernel
def fX8_isDamp (tt : Nat) (h : Hp) : Option (Int32 × Hp) := (dref shp h tt 0 (7, 20)).bind (fun z_1 => if (hI h tt 11) = 0 then (if (hI h z_1 13) = 0 then (some ((0 : Int32), h)) else (if (hI h tt 10) = 0 then (if (hI h z_1 13) < (50 : Int32) then (some ((0 : Int32), h)) else (some ((1 : Int32), h))) else (if (hI h z_1 13) = (100 : Int32) then (some ((1 : Int32), h)) else (bnd (fX8_drawNumber tt h) (fun v_7 h_8 => if (hI h z_1 13) ≤ (v_7 - v_7 / (100 : Int32) * (100 : Int32)) then (some ((0 : Int32), h_8)) else (some ((1 : Int32), h_8))))))) else (some ((0 : Int32), h)))
set_option maxRecDepth 100000 in
set_option maxHeartbeats 4000000 in
theorem c_X8_isDamp {l : Launch} {sb : State} {D : va_G} {ids : Nat → ClassId} {n : Nat} (hN : 152 ≤ n) {tt : Nat} (ht : shp tt = (8, 15)) (h : Hp) (r : Int32 × Hp) (hr : fX8_isDamp tt h = some r) : jM l yX8_isDamp cX8_isDamp 2 (some .boolean) 1 sb D ids shp St n [.ref tt] h (jQi sb D ids shp St n r) := by
  refine jM_of hr rfl (Nat.le_of_ble_eq_true rfl) ?_
  intro p e s m args below meth c hC hret
  unfold fX8_isDamp
  refine j_aload_n hC 0 rfl rfl (dOk_at dt_X8_isDamp 0 rfl) ?_
  refine j_getD (q := (7, 20)) hC flX8_9 ht (jlt hN ht (by decide)) (by decide) (by decide) (fun _ _ _ => rfl) (dOk_at dt_X8_isDamp 1 rfl) (fun z_1 _ g_2 => ?_)
  refine j_getI hC flX8_224 g_2 (jlt hN g_2 (by decide)) (by decide) (by decide) (fun _ _ _ => rfl) (dOk_at dt_X8_isDamp 2 rfl) ?_
  refine j_istore_n hC rfl (lv' := [(1, .int (hI h z_1 13)), (0, .ref tt)]) (by decide) rfl (dOk_at dt_X8_isDamp 3 rfl) ?_
  refine j_aload_n hC 1 rfl rfl (dOk_at dt_X8_isDamp 4 rfl) ?_
  refine j_getI hC flX8_78 ht (jlt hN ht (by decide)) (by decide) (by decide) (fun _ _ _ => rfl) (dOk_at dt_X8_isDamp 5 rfl) ?_
  refine j_if_ne hC (tgt := 19) (by decide) (dOk_at dt_X8_isDamp 6 rfl) (fun q_3 => ?_) (fun q_3 => ?_)
  · refine j_iconst hC (v := (0 : Int32)) rfl (dOk_at dt_X8_isDamp 9 rfl) ?_
    exact j_zretK hC hret rfl (dOk_at dt_X8_isDamp 10 rfl)
  · refine j_iload_n hC 0 rfl rfl (dOk_at dt_X8_isDamp 7 rfl) ?_
    refine j_if_ne hC (tgt := 21) (by decide) (dOk_at dt_X8_isDamp 8 rfl) (fun q_4 => ?_) (fun q_4 => ?_)
    · refine j_aload_n hC 1 rfl rfl (dOk_at dt_X8_isDamp 11 rfl) ?_
      refine j_getI hC flX8_32 ht (jlt hN ht (by decide)) (by decide) (by decide) (fun _ _ _ => rfl) (dOk_at dt_X8_isDamp 12 rfl) ?_
      refine j_if_ne hC (tgt := 40) (by decide) (dOk_at dt_X8_isDamp 13 rfl) (fun q_5 => ?_) (fun q_5 => ?_)
      · refine j_iload_n hC 0 rfl rfl (dOk_at dt_X8_isDamp 21 rfl) ?_
        refine j_bipush hC (v := (100 : Int32)) rfl (dOk_at dt_X8_isDamp 22 rfl) ?_
        refine j_icmp_eq hC (tgt := 57) (by decide) (dOk_at dt_X8_isDamp 23 rfl) (fun q_6 => ?_) (fun q_6 => ?_)
        · refine j_iconst hC (v := (1 : Int32)) rfl (dOk_at dt_X8_isDamp 30 rfl) ?_
          refine j_goto hC (tgt := 62) (by decide) (dOk_at dt_X8_isDamp 31 rfl) ?_
          exact j_zretK hC hret rfl (dOk_at dt_X8_isDamp 33 rfl)
        · refine j_aload_n hC 1 rfl rfl (dOk_at dt_X8_isDamp 24 rfl) ?_
          refine j_callVi hC clX8_227 (fun rz hrz => c_X8_drawNumber hN (ht) _ rz hrz) ht (jlt hN ht (by decide)) (by decide) rfl rfl ⟨Nat.le_of_ble_eq_true rfl, Nat.le_of_ble_eq_true rfl⟩ ⟨Nat.le_refl 0, Nat.le_refl 0⟩ (As := []) (st := []) rfl (Nat.le_of_ble_eq_true rfl) (dOk_at dt_X8_isDamp 25 rfl) (fun v_7 h_8 _ => ?_)
          refine j_bipush hC (v := (100 : Int32)) rfl (dOk_at dt_X8_isDamp 26 rfl) ?_
          refine j_iremK hC (by decide) (dOk_at dt_X8_isDamp 27 rfl) ?_
          refine j_iload_n hC 0 rfl rfl (dOk_at dt_X8_isDamp 28 rfl) ?_
          refine j_icmp_ge hC (tgt := 61) (by decide) (dOk_at dt_X8_isDamp 29 rfl) (fun q_9 => ?_) (fun q_9 => ?_)
          · refine j_iconst hC (v := (0 : Int32)) rfl (dOk_at dt_X8_isDamp 32 rfl) ?_
            exact j_zretK hC hret rfl (dOk_at dt_X8_isDamp 33 rfl)
          · refine j_iconst hC (v := (1 : Int32)) rfl (dOk_at dt_X8_isDamp 30 rfl) ?_
            refine j_goto hC (tgt := 62) (by decide) (dOk_at dt_X8_isDamp 31 rfl) ?_
            exact j_zretK hC hret rfl (dOk_at dt_X8_isDamp 33 rfl)
      · refine j_iload_n hC 0 rfl rfl (dOk_at dt_X8_isDamp 14 rfl) ?_
        refine j_bipush hC (v := (50 : Int32)) rfl (dOk_at dt_X8_isDamp 15 rfl) ?_
        refine j_icmp_lt hC (tgt := 38) (by decide) (dOk_at dt_X8_isDamp 16 rfl) (fun q_10 => ?_) (fun q_10 => ?_)
        · refine j_iconst hC (v := (0 : Int32)) rfl (dOk_at dt_X8_isDamp 19 rfl) ?_
          exact j_zretK hC hret rfl (dOk_at dt_X8_isDamp 20 rfl)
        · refine j_iconst hC (v := (1 : Int32)) rfl (dOk_at dt_X8_isDamp 17 rfl) ?_
          refine j_goto hC (tgt := 39) (by decide) (dOk_at dt_X8_isDamp 18 rfl) ?_
          exact j_zretK hC hret rfl (dOk_at dt_X8_isDamp 20 rfl)
    · refine j_iconst hC (v := (0 : Int32)) rfl (dOk_at dt_X8_isDamp 9 rfl) ?_
      exact j_zretK hC hret rfl (dOk_at dt_X8_isDamp 10 rfl)
def tb_X8_dampenStraw : List (Nat × Instr × Nat) := [(0, .iconst 0, 1), (1, .istore_n 1, 1), (2, .iload_n 1, 1), (3, .aload_n 0, 1), (4, .getfield 9, 3), (7, .getfield 57, 3), (10, .getfield 61, 3), (13, .if_icmp .ge 71, 3), (16, .iload_n 1, 1), (17, .iconst 5, 1), (18, .if_icmp .ge 66, 3), (21, .aload_n 0, 1), (22, .getfield 43, 3), (25, .iload_n 1, 1), (26, .ishr, 1), (27, .iconst 1, 1), (28, .iand, 1), (29, .ifCond .ne 49, 3), (32, .aload_n 0, 1), (33, .invokevirtual 220, 3), (36, .ifCond .eq 21, 3), (39, .aload_n 0, 1), (40, .getfield 15, 3), (43, .iload_n 1, 1), (44, .iconst 0, 1), (45, .aload_n 0, 1), (46, .getfield 15, 3), (49, .iload_n 1, 1), (50, .iaload, 1), (51, .iconst 1, 1), (52, .isub, 1), (53, .invokestatic 172, 3), (56, .iastore, 1), (57, .aload_n 0, 1), (58, .getfield 15, 3), (61, .iload_n 1, 1), (62, .iaload, 1), (63, .ifCond .ne 15, 3), (66, .aload_n 0, 1), (67, .dup, 1), (68, .getfield 43, 3), (71, .iconst 1, 1), (72, .iload_n 1, 1), (73, .ishl, 1), (74, .ior, 1), (75, .putfield 43, 3), (78, .iinc 1 1, 3), (81, .goto (-79), 3), (84, .return_, 1)]
theorem dt_X8_dampenStraw : dOk cX8_dampenStraw tb_X8_dampenStraw = true := by decide +kernel
def fX8_dampenStraw_78 (tt : Nat) (rec2 : Hp → Int32 → Option (Hp)) (h : Hp) (x1 : Int32) : Option (Hp) := rec2 h (x1 + (1 : Int32))
def fX8_dampenStraw_57 (tt : Nat) (rec2 : Hp → Int32 → Option (Hp)) (h : Hp) (x1 : Int32) : Option (Hp) := if inb x1 5 then (if (hI h (rf tt 5) (Int32.toNatClampNeg x1)) = 0 then (fX8_dampenStraw_78 tt rec2 (uI h tt 2 ((hI h tt 2) ||| ((1 : Int32) <<< (x1 &&& 31)))) x1) else (fX8_dampenStraw_78 tt rec2 h x1)) else none
def fX8_dampenStraw_2 : Nat → (Nat) → Hp → Int32 → Option (Hp)
  | 0, _, _, _ => none
  | fu + 1, tt, h, x1 => (dref shp h tt 0 (7, 20)).bind (fun z_1 => if (hI h (rf z_1 1) 2) ≤ x1 then (some h) else (if (5 : Int32) ≤ x1 then (some h) else (if (((hI h tt 2) >>> (x1 &&& 31)) &&& (1 : Int32)) = 0 then (bnd (fX8_isDamp tt h) (fun v_6 h_7 => if v_6 = 0 then (fX8_dampenStraw_57 tt (fX8_dampenStraw_2 fu tt) h_7 x1) else (if inb x1 5 then (if inb x1 5 then (fX8_dampenStraw_57 tt (fX8_dampenStraw_2 fu tt) (uI h_7 (rf tt 5) (Int32.toNatClampNeg x1) (if (0 : Int32) < ((hI h_7 (rf tt 5) (Int32.toNatClampNeg x1)) - (1 : Int32)) then ((hI h_7 (rf tt 5) (Int32.toNatClampNeg x1)) - (1 : Int32)) else (0 : Int32))) x1) else none) else none))) else (fX8_dampenStraw_78 tt (fX8_dampenStraw_2 fu tt) h x1))))
def fX8_dampenStraw (tt : Nat) (h : Hp) : Option (Hp) := fX8_dampenStraw_2 FU tt h (0 : Int32)
set_option maxRecDepth 100000 in
set_option maxHeartbeats 4000000 in
theorem c_X8_dampenStraw {l : Launch} {sb : State} {D : va_G} {ids : Nat → ClassId} {n : Nat} (hN : 152 ≤ n) {tt : Nat} (ht : shp tt = (8, 15)) (h : Hp) (r : Hp) (hr : fX8_dampenStraw tt h = some r) : jM l yX8_dampenStraw cX8_dampenStraw 2 none 2 sb D ids shp St n [.ref tt] h (jQv sb D ids shp St n r) := by
  refine jM_of hr rfl (Nat.le_of_ble_eq_true rfl) ?_
  intro p e s m args below meth c hC hret
  have b78 : ∀ (rec2 : Hp → Int32 → Option (Hp)) (hrec2 : ∀ (h : Hp) (x1 : Int32) , jJ p l e (rmD 2) s m args below meth c 2 sb D ids shp St (fun r => MQ below (jQv sb D ids shp St n r) args s 0 0 (jA sb)) n 0 0 h 2 [(0, .ref tt), (1, .int x1)] [] (rec2 h x1)) (h : Hp) (x1 : Int32) , jJ p l e (rmD 2) s m args below meth c 2 sb D ids shp St (fun r => MQ below (jQv sb D ids shp St n r) args s 0 0 (jA sb)) n 0 0 h 78 [(0, .ref tt), (1, .int x1)] [] (fX8_dampenStraw_78 tt rec2 h x1) := by
    intro rec2 hrec2 h x1 
    unfold fX8_dampenStraw_78
    refine j_iinc hC (v := (x1 + (1 : Int32))) (lv' := [(1, .int (x1 + (1 : Int32))), (0, .ref tt)]) 1 rfl (congrArg (fun z => x1 + z) (show Int32.ofInt (1) = (1 : Int32) from by decide)) (by decide) rfl (dOk_at dt_X8_dampenStraw 46 rfl) ?_
    refine j_goto hC (tgt := 2) (by decide) (dOk_at dt_X8_dampenStraw 47 rfl) ?_
    refine j_sub [1, 0] rfl ?_
    exact hrec2 h (x1 + (1 : Int32)) 
  have b57 : ∀ (rec2 : Hp → Int32 → Option (Hp)) (hrec2 : ∀ (h : Hp) (x1 : Int32) , jJ p l e (rmD 2) s m args below meth c 2 sb D ids shp St (fun r => MQ below (jQv sb D ids shp St n r) args s 0 0 (jA sb)) n 0 0 h 2 [(0, .ref tt), (1, .int x1)] [] (rec2 h x1)) (h : Hp) (x1 : Int32) , jJ p l e (rmD 2) s m args below meth c 2 sb D ids shp St (fun r => MQ below (jQv sb D ids shp St n r) args s 0 0 (jA sb)) n 0 0 h 57 [(0, .ref tt), (1, .int x1)] [] (fX8_dampenStraw_57 tt rec2 h x1) := by
    intro rec2 hrec2 h x1 
    unfold fX8_dampenStraw_57
    refine j_aload_n hC 0 rfl rfl (dOk_at dt_X8_dampenStraw 33 rfl) ?_
    refine j_getR hC flX8_15 ht (jlt hN ht (by decide)) (by decide) (by decide) (fun _ _ _ => rfl) (fun hs => hs _ _ _ (sf_8_5 ht).1) (dOk_at dt_X8_dampenStraw 34 rfl) ?_
    refine j_iload_n hC 1 rfl rfl (dOk_at dt_X8_dampenStraw 35 rfl) ?_
    refine j_iald hC (sf_8_5 ht).2.1 (Nat.lt_of_lt_of_le (sf_8_5 ht).2.2 hN) (dOk_at dt_X8_dampenStraw 36 rfl) ?_
    refine j_if_ne hC (tgt := 78) (by decide) (dOk_at dt_X8_dampenStraw 37 rfl) (fun q_9 => ?_) (fun q_9 => ?_)
    · exact b78 rec2 hrec2 h x1 
    · refine j_aload_n hC 0 rfl rfl (dOk_at dt_X8_dampenStraw 38 rfl) ?_
      refine j_dupr hC (dOk_at dt_X8_dampenStraw 39 rfl) ?_
      refine j_getI hC flX8_43 ht (jlt hN ht (by decide)) (by decide) (by decide) (fun _ _ _ => rfl) (dOk_at dt_X8_dampenStraw 40 rfl) ?_
      refine j_iconst hC (v := (1 : Int32)) rfl (dOk_at dt_X8_dampenStraw 41 rfl) ?_
      refine j_iload_n hC 1 rfl rfl (dOk_at dt_X8_dampenStraw 42 rfl) ?_
      refine j_ishl hC (dOk_at dt_X8_dampenStraw 43 rfl) ?_
      refine j_ior hC (dOk_at dt_X8_dampenStraw 44 rfl) ?_
      refine j_putI hC St_SP flX8_43 ht (jlt hN ht (by decide)) (by decide) (by decide) rfl rfl (dOk_at dt_X8_dampenStraw 45 rfl) ?_
      exact b78 rec2 hrec2 (uI h tt 2 ((hI h tt 2) ||| ((1 : Int32) <<< (x1 &&& 31)))) x1 
  have b2 : ∀ (fu : Nat) (h : Hp) (x1 : Int32) , jJ p l e (rmD 2) s m args below meth c 2 sb D ids shp St (fun r => MQ below (jQv sb D ids shp St n r) args s 0 0 (jA sb)) n 0 0 h 2 [(0, .ref tt), (1, .int x1)] [] (fX8_dampenStraw_2 fu tt h x1) := by
    intro fu 
    induction fu with
    | zero => intro h x1 ; exact j_none
    | succ fu ih =>
    intro h x1 
    rw [fX8_dampenStraw_2]
    refine j_iload_n hC 1 rfl rfl (dOk_at dt_X8_dampenStraw 2 rfl) ?_
    refine j_aload_n hC 0 rfl rfl (dOk_at dt_X8_dampenStraw 3 rfl) ?_
    refine j_getD (q := (7, 20)) hC flX8_9 ht (jlt hN ht (by decide)) (by decide) (by decide) (fun _ _ _ => rfl) (dOk_at dt_X8_dampenStraw 4 rfl) (fun z_1 _ g_2 => ?_)
    refine j_getR hC flX8_57 g_2 (jlt hN g_2 (by decide)) (by decide) (by decide) (fun _ _ _ => rfl) (fun hs => hs _ _ _ (sf_7_1 g_2).1) (dOk_at dt_X8_dampenStraw 5 rfl) ?_
    refine j_getI hC flX8_61 (sf_7_1 g_2).2.1 (Nat.lt_of_lt_of_le (sf_7_1 g_2).2.2 hN) (by decide) (by decide) (fun _ _ _ => rfl) (dOk_at dt_X8_dampenStraw 6 rfl) ?_
    refine j_icmp_ge hC (tgt := 84) (by decide) (dOk_at dt_X8_dampenStraw 7 rfl) (fun q_3 => ?_) (fun q_3 => ?_)
    · exact j_vret hC hret (dOk_at dt_X8_dampenStraw 48 rfl)
    · refine j_iload_n hC 1 rfl rfl (dOk_at dt_X8_dampenStraw 8 rfl) ?_
      refine j_iconst hC (v := (5 : Int32)) rfl (dOk_at dt_X8_dampenStraw 9 rfl) ?_
      refine j_icmp_ge hC (tgt := 84) (by decide) (dOk_at dt_X8_dampenStraw 10 rfl) (fun q_4 => ?_) (fun q_4 => ?_)
      · exact j_vret hC hret (dOk_at dt_X8_dampenStraw 48 rfl)
      · refine j_aload_n hC 0 rfl rfl (dOk_at dt_X8_dampenStraw 11 rfl) ?_
        refine j_getI hC flX8_43 ht (jlt hN ht (by decide)) (by decide) (by decide) (fun _ _ _ => rfl) (dOk_at dt_X8_dampenStraw 12 rfl) ?_
        refine j_iload_n hC 1 rfl rfl (dOk_at dt_X8_dampenStraw 13 rfl) ?_
        refine j_ishr hC (dOk_at dt_X8_dampenStraw 14 rfl) ?_
        refine j_iconst hC (v := (1 : Int32)) rfl (dOk_at dt_X8_dampenStraw 15 rfl) ?_
        refine j_iand hC (dOk_at dt_X8_dampenStraw 16 rfl) ?_
        refine j_if_ne hC (tgt := 78) (by decide) (dOk_at dt_X8_dampenStraw 17 rfl) (fun q_5 => ?_) (fun q_5 => ?_)
        · exact b78 (fX8_dampenStraw_2 fu tt) ih h x1 
        · refine j_aload_n hC 0 rfl rfl (dOk_at dt_X8_dampenStraw 18 rfl) ?_
          refine j_callVi hC clX8_220 (fun rz hrz => c_X8_isDamp hN (ht) _ rz hrz) ht (jlt hN ht (by decide)) (by decide) rfl rfl ⟨Nat.le_of_ble_eq_true rfl, Nat.le_of_ble_eq_true rfl⟩ ⟨Nat.le_refl 0, Nat.le_refl 0⟩ (As := []) (st := []) rfl (Nat.le_of_ble_eq_true rfl) (dOk_at dt_X8_dampenStraw 19 rfl) (fun v_6 h_7 _ => ?_)
          refine j_if_eq hC (tgt := 57) (by decide) (dOk_at dt_X8_dampenStraw 20 rfl) (fun q_8 => ?_) (fun q_8 => ?_)
          · exact b57 (fX8_dampenStraw_2 fu tt) ih h_7 x1 
          · refine j_aload_n hC 0 rfl rfl (dOk_at dt_X8_dampenStraw 21 rfl) ?_
            refine j_getR hC flX8_15 ht (jlt hN ht (by decide)) (by decide) (by decide) (fun _ _ _ => rfl) (fun hs => hs _ _ _ (sf_8_5 ht).1) (dOk_at dt_X8_dampenStraw 22 rfl) ?_
            refine j_iload_n hC 1 rfl rfl (dOk_at dt_X8_dampenStraw 23 rfl) ?_
            refine j_iconst hC (v := (0 : Int32)) rfl (dOk_at dt_X8_dampenStraw 24 rfl) ?_
            refine j_aload_n hC 0 rfl rfl (dOk_at dt_X8_dampenStraw 25 rfl) ?_
            refine j_getR hC flX8_15 ht (jlt hN ht (by decide)) (by decide) (by decide) (fun _ _ _ => rfl) (fun hs => hs _ _ _ (sf_8_5 ht).1) (dOk_at dt_X8_dampenStraw 26 rfl) ?_
            refine j_iload_n hC 1 rfl rfl (dOk_at dt_X8_dampenStraw 27 rfl) ?_
            refine j_iald hC (sf_8_5 ht).2.1 (Nat.lt_of_lt_of_le (sf_8_5 ht).2.2 hN) (dOk_at dt_X8_dampenStraw 28 rfl) ?_
            refine j_iconst hC (v := (1 : Int32)) rfl (dOk_at dt_X8_dampenStraw 29 rfl) ?_
            refine j_isub hC (dOk_at dt_X8_dampenStraw 30 rfl) ?_
            refine j_mmax hC mtX8_172 ⟨Nat.le_of_ble_eq_true rfl, Nat.le_of_ble_eq_true rfl⟩ ⟨Nat.le_refl 0, Nat.le_refl 0⟩ (Nat.le_of_ble_eq_true rfl) (dOk_at dt_X8_dampenStraw 31 rfl) ?_
            refine j_iast hC St_SP (sf_8_5 ht).2.1 (Nat.lt_of_lt_of_le (sf_8_5 ht).2.2 hN) (dOk_at dt_X8_dampenStraw 32 rfl) ?_
            exact b57 (fX8_dampenStraw_2 fu tt) ih (uI h_7 (rf tt 5) (Int32.toNatClampNeg x1) (if (0 : Int32) < ((hI h_7 (rf tt 5) (Int32.toNatClampNeg x1)) - (1 : Int32)) then ((hI h_7 (rf tt 5) (Int32.toNatClampNeg x1)) - (1 : Int32)) else (0 : Int32))) x1 
  unfold fX8_dampenStraw
  refine j_iconst hC (v := (0 : Int32)) rfl (dOk_at dt_X8_dampenStraw 0 rfl) ?_
  refine j_istore_n hC rfl (lv' := [(1, .int (0 : Int32)), (0, .ref tt)]) (by decide) rfl (dOk_at dt_X8_dampenStraw 1 rfl) ?_
  refine j_sub [1, 0] rfl ?_
  exact b2 FU h (0 : Int32) 
def tb_X8_passNight : List (Nat × Instr × Nat) := [(0, .aload_n 0, 1), (1, .getfield 40, 3), (4, .bipush 99, 2), (6, .if_icmp .gt 79, 3), (9, .aload_n 0, 1), (10, .invokevirtual 184, 3), (13, .iconst 0, 1), (14, .istore_n 1, 1), (15, .iload_n 1, 1), (16, .aload_n 0, 1), (17, .getfield 9, 3), (20, .getfield 187, 3), (23, .if_icmp .ge 62, 3), (26, .iload_n 1, 1), (27, .bipush 12, 2), (29, .if_icmp .ge 56, 3), (32, .aload_n 0, 1), (33, .getfield 9, 3), (36, .getfield 190, 3), (39, .iload_n 1, 1), (40, .iaload, 1), (41, .aload_n 0, 1), (42, .getfield 40, 3), (45, .if_icmp .ne 34, 3), (48, .aload_n 0, 1), (49, .iload_n 1, 1), (50, .invokevirtual 193, 3), (53, .ifCond .eq 26, 3), (56, .aload_n 0, 1), (57, .aload_n 0, 1), (58, .getfield 9, 3), (61, .getfield 196, 3), (64, .iload_n 1, 1), (65, .iaload, 1), (66, .aload_n 0, 1), (67, .getfield 9, 3), (70, .getfield 199, 3), (73, .iload_n 1, 1), (74, .iaload, 1), (75, .invokevirtual 202, 3), (78, .pop, 1), (79, .iinc 1 1, 3), (82, .goto (-67), 3), (85, .aload_n 0, 1), (86, .invokevirtual 205, 3), (89, .aload_n 0, 1), (90, .dup, 1), (91, .getfield 40, 3), (94, .iconst 1, 1), (95, .iadd, 1), (96, .putfield 40, 3), (99, .return_, 1)]
theorem dt_X8_passNight : dOk cX8_passNight tb_X8_passNight = true := by decide +kernel
def fX8_passNight_85 (tt : Nat) (h : Hp) : Option (Hp) := (fX8_dampenStraw tt h).bind (fun h_5 => some (uI h_5 tt 1 ((hI h_5 tt 1) + (1 : Int32))))
def fX8_passNight_79 (tt : Nat) (rec15 : Hp → Int32 → Option (Hp)) (h : Hp) (x1 : Int32) : Option (Hp) := rec15 h (x1 + (1 : Int32))
def fX8_passNight_15 : Nat → (Nat) → Hp → Int32 → Option (Hp)
  | 0, _, _, _ => none
  | fu + 1, tt, h, x1 => (dref shp h tt 0 (7, 20)).bind (fun z_6 => if (hI h z_6 6) ≤ x1 then (fX8_passNight_85 tt h) else (if (12 : Int32) ≤ x1 then (fX8_passNight_85 tt h) else ((dref shp h tt 0 (7, 20)).bind (fun z_10 => if inb x1 12 then (if (hI h (rf z_10 9) (Int32.toNatClampNeg x1)) = (hI h tt 1) then (bnd (fX8_takesPlace tt h x1) (fun v_13 h_14 => if v_13 = 0 then (fX8_passNight_79 tt (fX8_passNight_15 fu tt) h_14 x1) else ((dref shp h_14 tt 0 (7, 20)).bind (fun z_16 => if inb x1 12 then ((dref shp h_14 tt 0 (7, 20)).bind (fun z_18 => if inb x1 12 then (bnd (fX8_contend tt h_14 (hI h_14 (rf z_16 7) (Int32.toNatClampNeg x1)) (hI h_14 (rf z_18 8) (Int32.toNatClampNeg x1))) (fun v_20 h_21 => fX8_passNight_79 tt (fX8_passNight_15 fu tt) h_21 x1)) else none)) else none)))) else (fX8_passNight_79 tt (fX8_passNight_15 fu tt) h x1)) else none))))
def fX8_passNight (tt : Nat) (h : Hp) : Option (Hp) := if (99 : Int32) < (hI h tt 1) then (fX8_passNight_85 tt h) else ((fX8_stuffTold tt h).bind (fun h_3 => fX8_passNight_15 FU tt h_3 (0 : Int32)))
set_option maxRecDepth 100000 in
set_option maxHeartbeats 4000000 in
theorem c_X8_passNight {l : Launch} {sb : State} {D : va_G} {ids : Nat → ClassId} {n : Nat} (hN : 152 ≤ n) {tt : Nat} (ht : shp tt = (8, 15)) (h : Hp) (r : Hp) (hr : fX8_passNight tt h = some r) : jM l yX8_passNight cX8_passNight 2 none 5 sb D ids shp St n [.ref tt] h (jQv sb D ids shp St n r) := by
  refine jM_of hr rfl (Nat.le_of_ble_eq_true rfl) ?_
  intro p e s m args below meth c hC hret
  have b85 : ∀ (h : Hp) , jJ p l e (rmD 5) s m args below meth c 2 sb D ids shp St (fun r => MQ below (jQv sb D ids shp St n r) args s 0 0 (jA sb)) n 0 0 h 85 [(0, .ref tt)] [] (fX8_passNight_85 tt h ) := by
    intro h 
    unfold fX8_passNight_85
    refine j_aload_n hC 0 rfl rfl (dOk_at dt_X8_passNight 43 rfl) ?_
    refine j_callVv hC clX8_205 (fun rz hrz => c_X8_dampenStraw hN (ht) _ rz hrz) ht (jlt hN ht (by decide)) (by decide) rfl rfl ⟨Nat.le_of_ble_eq_true rfl, Nat.le_of_ble_eq_true rfl⟩ ⟨Nat.le_refl 0, Nat.le_refl 0⟩ (As := []) (st := []) rfl (Nat.le_of_ble_eq_true rfl) (dOk_at dt_X8_passNight 44 rfl) (fun h_5 _ => ?_)
    refine j_aload_n hC 0 rfl rfl (dOk_at dt_X8_passNight 45 rfl) ?_
    refine j_dupr hC (dOk_at dt_X8_passNight 46 rfl) ?_
    refine j_getI hC flX8_40 ht (jlt hN ht (by decide)) (by decide) (by decide) (fun _ _ _ => rfl) (dOk_at dt_X8_passNight 47 rfl) ?_
    refine j_iconst hC (v := (1 : Int32)) rfl (dOk_at dt_X8_passNight 48 rfl) ?_
    refine j_iadd hC (dOk_at dt_X8_passNight 49 rfl) ?_
    refine j_putI hC St_SP flX8_40 ht (jlt hN ht (by decide)) (by decide) (by decide) rfl rfl (dOk_at dt_X8_passNight 50 rfl) ?_
    exact j_vret hC hret (dOk_at dt_X8_passNight 51 rfl)
  have b79 : ∀ (rec15 : Hp → Int32 → Option (Hp)) (hrec15 : ∀ (h : Hp) (x1 : Int32) , jJ p l e (rmD 5) s m args below meth c 2 sb D ids shp St (fun r => MQ below (jQv sb D ids shp St n r) args s 0 0 (jA sb)) n 0 0 h 15 [(0, .ref tt), (1, .int x1)] [] (rec15 h x1)) (h : Hp) (x1 : Int32) , jJ p l e (rmD 5) s m args below meth c 2 sb D ids shp St (fun r => MQ below (jQv sb D ids shp St n r) args s 0 0 (jA sb)) n 0 0 h 79 [(0, .ref tt), (1, .int x1)] [] (fX8_passNight_79 tt rec15 h x1) := by
    intro rec15 hrec15 h x1 
    unfold fX8_passNight_79
    refine j_iinc hC (v := (x1 + (1 : Int32))) (lv' := [(1, .int (x1 + (1 : Int32))), (0, .ref tt)]) 1 rfl (congrArg (fun z => x1 + z) (show Int32.ofInt (1) = (1 : Int32) from by decide)) (by decide) rfl (dOk_at dt_X8_passNight 41 rfl) ?_
    refine j_goto hC (tgt := 15) (by decide) (dOk_at dt_X8_passNight 42 rfl) ?_
    refine j_sub [1, 0] rfl ?_
    exact hrec15 h (x1 + (1 : Int32)) 
  have b15 : ∀ (fu : Nat) (h : Hp) (x1 : Int32) , jJ p l e (rmD 5) s m args below meth c 2 sb D ids shp St (fun r => MQ below (jQv sb D ids shp St n r) args s 0 0 (jA sb)) n 0 0 h 15 [(0, .ref tt), (1, .int x1)] [] (fX8_passNight_15 fu tt h x1) := by
    intro fu 
    induction fu with
    | zero => intro h x1 ; exact j_none
    | succ fu ih =>
    intro h x1 
    rw [fX8_passNight_15]
    refine j_iload_n hC 1 rfl rfl (dOk_at dt_X8_passNight 8 rfl) ?_
    refine j_aload_n hC 0 rfl rfl (dOk_at dt_X8_passNight 9 rfl) ?_
    refine j_getD (q := (7, 20)) hC flX8_9 ht (jlt hN ht (by decide)) (by decide) (by decide) (fun _ _ _ => rfl) (dOk_at dt_X8_passNight 10 rfl) (fun z_6 _ g_7 => ?_)
    refine j_getI hC flX8_187 g_7 (jlt hN g_7 (by decide)) (by decide) (by decide) (fun _ _ _ => rfl) (dOk_at dt_X8_passNight 11 rfl) ?_
    refine j_icmp_ge hC (tgt := 85) (by decide) (dOk_at dt_X8_passNight 12 rfl) (fun q_8 => ?_) (fun q_8 => ?_)
    · refine j_sub [0] rfl ?_
      exact b85 h 
    · refine j_iload_n hC 1 rfl rfl (dOk_at dt_X8_passNight 13 rfl) ?_
      refine j_bipush hC (v := (12 : Int32)) rfl (dOk_at dt_X8_passNight 14 rfl) ?_
      refine j_icmp_ge hC (tgt := 85) (by decide) (dOk_at dt_X8_passNight 15 rfl) (fun q_9 => ?_) (fun q_9 => ?_)
      · refine j_sub [0] rfl ?_
        exact b85 h 
      · refine j_aload_n hC 0 rfl rfl (dOk_at dt_X8_passNight 16 rfl) ?_
        refine j_getD (q := (7, 20)) hC flX8_9 ht (jlt hN ht (by decide)) (by decide) (by decide) (fun _ _ _ => rfl) (dOk_at dt_X8_passNight 17 rfl) (fun z_10 _ g_11 => ?_)
        refine j_getR hC flX8_190 g_11 (jlt hN g_11 (by decide)) (by decide) (by decide) (fun _ _ _ => rfl) (fun hs => hs _ _ _ (sf_7_9 g_11).1) (dOk_at dt_X8_passNight 18 rfl) ?_
        refine j_iload_n hC 1 rfl rfl (dOk_at dt_X8_passNight 19 rfl) ?_
        refine j_iald hC (sf_7_9 g_11).2.1 (Nat.lt_of_lt_of_le (sf_7_9 g_11).2.2 hN) (dOk_at dt_X8_passNight 20 rfl) ?_
        refine j_aload_n hC 0 rfl rfl (dOk_at dt_X8_passNight 21 rfl) ?_
        refine j_getI hC flX8_40 ht (jlt hN ht (by decide)) (by decide) (by decide) (fun _ _ _ => rfl) (dOk_at dt_X8_passNight 22 rfl) ?_
        refine j_icmp_ne hC (tgt := 79) (by decide) (dOk_at dt_X8_passNight 23 rfl) (fun q_12 => ?_) (fun q_12 => ?_)
        · exact b79 (fX8_passNight_15 fu tt) ih h x1 
        · refine j_aload_n hC 0 rfl rfl (dOk_at dt_X8_passNight 24 rfl) ?_
          refine j_iload_n hC 1 rfl rfl (dOk_at dt_X8_passNight 25 rfl) ?_
          refine j_callVi hC clX8_193 (fun rz hrz => c_X8_takesPlace hN (ht) _ _ rz hrz) ht (jlt hN ht (by decide)) (by decide) rfl rfl ⟨Nat.le_of_ble_eq_true rfl, Nat.le_of_ble_eq_true rfl⟩ ⟨Nat.le_refl 0, Nat.le_refl 0⟩ (As := [.int x1]) (st := []) rfl (Nat.le_of_ble_eq_true rfl) (dOk_at dt_X8_passNight 26 rfl) (fun v_13 h_14 _ => ?_)
          refine j_if_eq hC (tgt := 79) (by decide) (dOk_at dt_X8_passNight 27 rfl) (fun q_15 => ?_) (fun q_15 => ?_)
          · exact b79 (fX8_passNight_15 fu tt) ih h_14 x1 
          · refine j_aload_n hC 0 rfl rfl (dOk_at dt_X8_passNight 28 rfl) ?_
            refine j_aload_n hC 0 rfl rfl (dOk_at dt_X8_passNight 29 rfl) ?_
            refine j_getD (q := (7, 20)) hC flX8_9 ht (jlt hN ht (by decide)) (by decide) (by decide) (fun _ _ _ => rfl) (dOk_at dt_X8_passNight 30 rfl) (fun z_16 _ g_17 => ?_)
            refine j_getR hC flX8_196 g_17 (jlt hN g_17 (by decide)) (by decide) (by decide) (fun _ _ _ => rfl) (fun hs => hs _ _ _ (sf_7_7 g_17).1) (dOk_at dt_X8_passNight 31 rfl) ?_
            refine j_iload_n hC 1 rfl rfl (dOk_at dt_X8_passNight 32 rfl) ?_
            refine j_iald hC (sf_7_7 g_17).2.1 (Nat.lt_of_lt_of_le (sf_7_7 g_17).2.2 hN) (dOk_at dt_X8_passNight 33 rfl) ?_
            refine j_aload_n hC 0 rfl rfl (dOk_at dt_X8_passNight 34 rfl) ?_
            refine j_getD (q := (7, 20)) hC flX8_9 ht (jlt hN ht (by decide)) (by decide) (by decide) (fun _ _ _ => rfl) (dOk_at dt_X8_passNight 35 rfl) (fun z_18 _ g_19 => ?_)
            refine j_getR hC flX8_199 g_19 (jlt hN g_19 (by decide)) (by decide) (by decide) (fun _ _ _ => rfl) (fun hs => hs _ _ _ (sf_7_8 g_19).1) (dOk_at dt_X8_passNight 36 rfl) ?_
            refine j_iload_n hC 1 rfl rfl (dOk_at dt_X8_passNight 37 rfl) ?_
            refine j_iald hC (sf_7_8 g_19).2.1 (Nat.lt_of_lt_of_le (sf_7_8 g_19).2.2 hN) (dOk_at dt_X8_passNight 38 rfl) ?_
            refine j_callVi hC clX8_202 (fun rz hrz => c_X8_contend hN (ht) _ _ _ rz hrz) ht (jlt hN ht (by decide)) (by decide) rfl rfl ⟨Nat.le_of_ble_eq_true rfl, Nat.le_of_ble_eq_true rfl⟩ ⟨Nat.le_refl 0, Nat.le_refl 0⟩ (As := [.int (hI h_14 (rf z_16 7) (Int32.toNatClampNeg x1)), .int (hI h_14 (rf z_18 8) (Int32.toNatClampNeg x1))]) (st := []) rfl (Nat.le_of_ble_eq_true rfl) (dOk_at dt_X8_passNight 39 rfl) (fun v_20 h_21 _ => ?_)
            refine j_pop hC (dOk_at dt_X8_passNight 40 rfl) ?_
            exact b79 (fX8_passNight_15 fu tt) ih h_21 x1 
  unfold fX8_passNight
  refine j_aload_n hC 0 rfl rfl (dOk_at dt_X8_passNight 0 rfl) ?_
  refine j_getI hC flX8_40 ht (jlt hN ht (by decide)) (by decide) (by decide) (fun _ _ _ => rfl) (dOk_at dt_X8_passNight 1 rfl) ?_
  refine j_bipush hC (v := (99 : Int32)) rfl (dOk_at dt_X8_passNight 2 rfl) ?_
  refine j_icmp_gt hC (tgt := 85) (by decide) (dOk_at dt_X8_passNight 3 rfl) (fun q_1 => ?_) (fun q_1 => ?_)
  · exact b85 h 
  · refine j_aload_n hC 0 rfl rfl (dOk_at dt_X8_passNight 4 rfl) ?_
    refine j_callVv hC clX8_184 (fun rz hrz => c_X8_stuffTold hN (ht) _ rz hrz) ht (jlt hN ht (by decide)) (by decide) rfl rfl ⟨Nat.le_of_ble_eq_true rfl, Nat.le_of_ble_eq_true rfl⟩ ⟨Nat.le_refl 0, Nat.le_refl 0⟩ (As := []) (st := []) rfl (Nat.le_of_ble_eq_true rfl) (dOk_at dt_X8_passNight 5 rfl) (fun h_3 _ => ?_)
    refine j_iconst hC (v := (0 : Int32)) rfl (dOk_at dt_X8_passNight 6 rfl) ?_
    refine j_istore_n hC rfl (lv' := [(1, .int (0 : Int32)), (0, .ref tt)]) (by decide) rfl (dOk_at dt_X8_passNight 7 rfl) ?_
    refine j_sub [1, 0] rfl ?_
    exact b15 FU h_3 (0 : Int32) 
def tb_X8_passNights : List (Nat × Instr × Nat) := [(0, .iconst 0, 1), (1, .istore_n 2, 1), (2, .iload_n 2, 1), (3, .iload_n 1, 1), (4, .if_icmp .ge 13, 3), (7, .aload_n 0, 1), (8, .invokevirtual 181, 3), (11, .iinc 2 1, 3), (14, .goto (-12), 3), (17, .return_, 1)]
theorem dt_X8_passNights : dOk cX8_passNights tb_X8_passNights = true := by decide +kernel
def fX8_passNights_2 : Nat → (Nat) → Hp → Int32 → Int32 → Option (Hp)
  | 0, _, _, _, _ => none
  | fu + 1, tt, h, x1, x2 => if x1 ≤ x2 then (some h) else ((fX8_passNight tt h).bind (fun h_3 => (fX8_passNights_2 fu tt) h_3 x1 (x2 + (1 : Int32))))
def fX8_passNights (tt : Nat) (h : Hp) (x1 : Int32) : Option (Hp) := fX8_passNights_2 FU tt h x1 (0 : Int32)
set_option maxRecDepth 100000 in
set_option maxHeartbeats 4000000 in
theorem c_X8_passNights {l : Launch} {sb : State} {D : va_G} {ids : Nat → ClassId} {n : Nat} (hN : 152 ≤ n) {tt : Nat} (ht : shp tt = (8, 15)) (h : Hp) (x1 : Int32) (r : Hp) (hr : fX8_passNights tt h x1 = some r) : jM l yX8_passNights cX8_passNights 3 none 6 sb D ids shp St n [.ref tt, .int x1] h (jQv sb D ids shp St n r) := by
  refine jM_of hr rfl (Nat.le_of_ble_eq_true rfl) ?_
  intro p e s m args below meth c hC hret
  have b2 : ∀ (fu : Nat) (h : Hp) (x1 : Int32) (x2 : Int32) , jJ p l e (rmD 6) s m args below meth c 3 sb D ids shp St (fun r => MQ below (jQv sb D ids shp St n r) args s 0 0 (jA sb)) n 0 0 h 2 [(0, .ref tt), (1, .int x1), (2, .int x2)] [] (fX8_passNights_2 fu tt h x1 x2) := by
    intro fu 
    induction fu with
    | zero => intro h x1 x2 ; exact j_none
    | succ fu ih =>
    intro h x1 x2 
    rw [fX8_passNights_2]
    refine j_iload_n hC 2 rfl rfl (dOk_at dt_X8_passNights 2 rfl) ?_
    refine j_iload_n hC 1 rfl rfl (dOk_at dt_X8_passNights 3 rfl) ?_
    refine j_icmp_ge hC (tgt := 17) (by decide) (dOk_at dt_X8_passNights 4 rfl) (fun q_1 => ?_) (fun q_1 => ?_)
    · exact j_vret hC hret (dOk_at dt_X8_passNights 9 rfl)
    · refine j_aload_n hC 0 rfl rfl (dOk_at dt_X8_passNights 5 rfl) ?_
      refine j_callVv hC clX8_181 (fun rz hrz => c_X8_passNight hN (ht) _ rz hrz) ht (jlt hN ht (by decide)) (by decide) rfl rfl ⟨Nat.le_of_ble_eq_true rfl, Nat.le_of_ble_eq_true rfl⟩ ⟨Nat.le_refl 0, Nat.le_refl 0⟩ (As := []) (st := []) rfl (Nat.le_of_ble_eq_true rfl) (dOk_at dt_X8_passNights 6 rfl) (fun h_3 _ => ?_)
      refine j_iinc hC (v := (x2 + (1 : Int32))) (lv' := [(2, .int (x2 + (1 : Int32))), (0, .ref tt), (1, .int x1)]) 2 rfl (congrArg (fun z => x2 + z) (show Int32.ofInt (1) = (1 : Int32) from by decide)) (by decide) rfl (dOk_at dt_X8_passNights 7 rfl) ?_
      refine j_goto hC (tgt := 2) (by decide) (dOk_at dt_X8_passNights 8 rfl) ?_
      refine j_sub [1, 2, 0] rfl ?_
      exact ih h_3 x1 (x2 + (1 : Int32)) 
  unfold fX8_passNights
  refine j_iconst hC (v := (0 : Int32)) rfl (dOk_at dt_X8_passNights 0 rfl) ?_
  refine j_istore_n hC rfl (lv' := [(2, .int (0 : Int32)), (0, .ref tt), (1, .int x1)]) (by decide) rfl (dOk_at dt_X8_passNights 1 rfl) ?_
  refine j_sub [1, 2, 0] rfl ?_
  exact b2 FU h x1 (0 : Int32) 
def tb_X9_feed : List (Nat × Instr × Nat) := [(0, .aload_n 0, 1), (1, .getfield 24, 3), (4, .getfield 73, 3), (7, .bipush 20, 2), (9, .iadd, 1), (10, .sipush 700, 3), (13, .if_icmp .le 5, 3), (16, .iconst (-1), 1), (17, .ireturn, 1), (18, .aload_n 0, 1), (19, .getfield 24, 3), (22, .iload_n 1, 1), (23, .invokevirtual 76, 3), (26, .aload_n 0, 1), (27, .getfield 24, 3), (30, .iload_n 2, 1), (31, .invokevirtual 76, 3), (34, .aload_n 0, 1), (35, .getfield 24, 3), (38, .iload_n 3, 1), (39, .invokevirtual 76, 3), (42, .aload_n 0, 1), (43, .getfield 24, 3), (46, .iload 4, 2), (48, .invokevirtual 76, 3), (51, .aload_n 0, 1), (52, .getfield 24, 3), (55, .iload 5, 2), (57, .invokevirtual 76, 3), (60, .aload_n 0, 1), (61, .getfield 24, 3), (64, .getfield 73, 3), (67, .ireturn, 1)]
theorem dt_X9_feed : dOk cX9_feed tb_X9_feed = true := by decide +kernel
def fX9_feed (h : Hp) (x1 : Int32) (x2 : Int32) (x3 : Int32) (x4 : Int32) (x5 : Int32) : Option (Int32 × Hp) := if ((hI h 69 1) + (20 : Int32)) ≤ (700 : Int32) then ((fX5_append h x1).bind (fun h_3 => (fX5_append h_3 x2).bind (fun h_5 => (fX5_append h_5 x3).bind (fun h_7 => (fX5_append h_7 x4).bind (fun h_9 => (fX5_append h_9 x5).bind (fun h_11 => some ((hI h_11 69 1), h_11))))))) else (some ((-1 : Int32), h))
set_option maxRecDepth 100000 in
set_option maxHeartbeats 4000000 in
theorem c_X9_feed {l : Launch} {sb : State} {D : va_G} {ids : Nat → ClassId} {n : Nat} (hN : 152 ≤ n) (h : Hp) (x1 : Int32) (x2 : Int32) (x3 : Int32) (x4 : Int32) (x5 : Int32) (r : Int32 × Hp) (hr : fX9_feed h x1 x2 x3 x4 x5 = some r) : jM l yX9_feed cX9_feed 6 (some .int) 1 sb D ids shp St n [.ref 0, .int x1, .int x2, .int x3, .int x4, .int x5] h (jQi sb D ids shp St n r) := by
  refine jM_of hr rfl (Nat.le_of_ble_eq_true rfl) ?_
  intro p e s m args below meth c hC hret
  unfold fX9_feed
  refine j_aload_n hC 0 rfl rfl (dOk_at dt_X9_feed 0 rfl) ?_
  refine j_getR hC flX9_24 (show shp 0 = (9, 12) from rfl) (Nat.lt_of_lt_of_le (Nat.le_of_ble_eq_true rfl : 0 < 152) hN) (by decide) (by decide) (fun _ _ _ => rfl) (fun hs => hs 0 0 69 rfl) (dOk_at dt_X9_feed 1 rfl) ?_
  refine j_getI hC flX9_73 (show shp 69 = (5, 16) from rfl) (Nat.lt_of_lt_of_le (Nat.le_of_ble_eq_true rfl : 69 < 152) hN) (by decide) (by decide) (fun _ _ _ => rfl) (dOk_at dt_X9_feed 2 rfl) ?_
  refine j_bipush hC (v := (20 : Int32)) rfl (dOk_at dt_X9_feed 3 rfl) ?_
  refine j_iadd hC (dOk_at dt_X9_feed 4 rfl) ?_
  refine j_sipush hC (v := (700 : Int32)) rfl (dOk_at dt_X9_feed 5 rfl) ?_
  refine j_icmp_le hC (tgt := 18) (by decide) (dOk_at dt_X9_feed 6 rfl) (fun q_1 => ?_) (fun q_1 => ?_)
  · refine j_aload_n hC 0 rfl rfl (dOk_at dt_X9_feed 9 rfl) ?_
    refine j_getR hC flX9_24 (show shp 0 = (9, 12) from rfl) (Nat.lt_of_lt_of_le (Nat.le_of_ble_eq_true rfl : 0 < 152) hN) (by decide) (by decide) (fun _ _ _ => rfl) (fun hs => hs 0 0 69 rfl) (dOk_at dt_X9_feed 10 rfl) ?_
    refine j_iload_n hC 1 rfl rfl (dOk_at dt_X9_feed 11 rfl) ?_
    refine j_callVv hC clX9_76 (fun rz hrz => c_X5_append hN _ _ rz hrz) (show shp 69 = (5, 16) from rfl) (Nat.lt_of_lt_of_le (Nat.le_of_ble_eq_true rfl : 69 < 152) hN) (by decide) rfl rfl ⟨Nat.le_of_ble_eq_true rfl, Nat.le_of_ble_eq_true rfl⟩ ⟨Nat.le_refl 0, Nat.le_refl 0⟩ (As := [.int x1]) (st := []) rfl (Nat.le_of_ble_eq_true rfl) (dOk_at dt_X9_feed 12 rfl) (fun h_3 _ => ?_)
    refine j_aload_n hC 0 rfl rfl (dOk_at dt_X9_feed 13 rfl) ?_
    refine j_getR hC flX9_24 (show shp 0 = (9, 12) from rfl) (Nat.lt_of_lt_of_le (Nat.le_of_ble_eq_true rfl : 0 < 152) hN) (by decide) (by decide) (fun _ _ _ => rfl) (fun hs => hs 0 0 69 rfl) (dOk_at dt_X9_feed 14 rfl) ?_
    refine j_iload_n hC 2 rfl rfl (dOk_at dt_X9_feed 15 rfl) ?_
    refine j_callVv hC clX9_76 (fun rz hrz => c_X5_append hN _ _ rz hrz) (show shp 69 = (5, 16) from rfl) (Nat.lt_of_lt_of_le (Nat.le_of_ble_eq_true rfl : 69 < 152) hN) (by decide) rfl rfl ⟨Nat.le_of_ble_eq_true rfl, Nat.le_of_ble_eq_true rfl⟩ ⟨Nat.le_refl 0, Nat.le_refl 0⟩ (As := [.int x2]) (st := []) rfl (Nat.le_of_ble_eq_true rfl) (dOk_at dt_X9_feed 16 rfl) (fun h_5 _ => ?_)
    refine j_aload_n hC 0 rfl rfl (dOk_at dt_X9_feed 17 rfl) ?_
    refine j_getR hC flX9_24 (show shp 0 = (9, 12) from rfl) (Nat.lt_of_lt_of_le (Nat.le_of_ble_eq_true rfl : 0 < 152) hN) (by decide) (by decide) (fun _ _ _ => rfl) (fun hs => hs 0 0 69 rfl) (dOk_at dt_X9_feed 18 rfl) ?_
    refine j_iload_n hC 3 rfl rfl (dOk_at dt_X9_feed 19 rfl) ?_
    refine j_callVv hC clX9_76 (fun rz hrz => c_X5_append hN _ _ rz hrz) (show shp 69 = (5, 16) from rfl) (Nat.lt_of_lt_of_le (Nat.le_of_ble_eq_true rfl : 69 < 152) hN) (by decide) rfl rfl ⟨Nat.le_of_ble_eq_true rfl, Nat.le_of_ble_eq_true rfl⟩ ⟨Nat.le_refl 0, Nat.le_refl 0⟩ (As := [.int x3]) (st := []) rfl (Nat.le_of_ble_eq_true rfl) (dOk_at dt_X9_feed 20 rfl) (fun h_7 _ => ?_)
    refine j_aload_n hC 0 rfl rfl (dOk_at dt_X9_feed 21 rfl) ?_
    refine j_getR hC flX9_24 (show shp 0 = (9, 12) from rfl) (Nat.lt_of_lt_of_le (Nat.le_of_ble_eq_true rfl : 0 < 152) hN) (by decide) (by decide) (fun _ _ _ => rfl) (fun hs => hs 0 0 69 rfl) (dOk_at dt_X9_feed 22 rfl) ?_
    refine j_iload hC 4 rfl (dOk_at dt_X9_feed 23 rfl) ?_
    refine j_callVv hC clX9_76 (fun rz hrz => c_X5_append hN _ _ rz hrz) (show shp 69 = (5, 16) from rfl) (Nat.lt_of_lt_of_le (Nat.le_of_ble_eq_true rfl : 69 < 152) hN) (by decide) rfl rfl ⟨Nat.le_of_ble_eq_true rfl, Nat.le_of_ble_eq_true rfl⟩ ⟨Nat.le_refl 0, Nat.le_refl 0⟩ (As := [.int x4]) (st := []) rfl (Nat.le_of_ble_eq_true rfl) (dOk_at dt_X9_feed 24 rfl) (fun h_9 _ => ?_)
    refine j_aload_n hC 0 rfl rfl (dOk_at dt_X9_feed 25 rfl) ?_
    refine j_getR hC flX9_24 (show shp 0 = (9, 12) from rfl) (Nat.lt_of_lt_of_le (Nat.le_of_ble_eq_true rfl : 0 < 152) hN) (by decide) (by decide) (fun _ _ _ => rfl) (fun hs => hs 0 0 69 rfl) (dOk_at dt_X9_feed 26 rfl) ?_
    refine j_iload hC 5 rfl (dOk_at dt_X9_feed 27 rfl) ?_
    refine j_callVv hC clX9_76 (fun rz hrz => c_X5_append hN _ _ rz hrz) (show shp 69 = (5, 16) from rfl) (Nat.lt_of_lt_of_le (Nat.le_of_ble_eq_true rfl : 69 < 152) hN) (by decide) rfl rfl ⟨Nat.le_of_ble_eq_true rfl, Nat.le_of_ble_eq_true rfl⟩ ⟨Nat.le_refl 0, Nat.le_refl 0⟩ (As := [.int x5]) (st := []) rfl (Nat.le_of_ble_eq_true rfl) (dOk_at dt_X9_feed 28 rfl) (fun h_11 _ => ?_)
    refine j_aload_n hC 0 rfl rfl (dOk_at dt_X9_feed 29 rfl) ?_
    refine j_getR hC flX9_24 (show shp 0 = (9, 12) from rfl) (Nat.lt_of_lt_of_le (Nat.le_of_ble_eq_true rfl : 0 < 152) hN) (by decide) (by decide) (fun _ _ _ => rfl) (fun hs => hs 0 0 69 rfl) (dOk_at dt_X9_feed 30 rfl) ?_
    refine j_getI hC flX9_73 (show shp 69 = (5, 16) from rfl) (Nat.lt_of_lt_of_le (Nat.le_of_ble_eq_true rfl : 69 < 152) hN) (by decide) (by decide) (fun _ _ _ => rfl) (dOk_at dt_X9_feed 31 rfl) ?_
    exact j_iret hC hret (dOk_at dt_X9_feed 32 rfl)
  · refine j_iconst hC (v := (-1 : Int32)) rfl (dOk_at dt_X9_feed 7 rfl) ?_
    exact j_iret hC hret (dOk_at dt_X9_feed 8 rfl)
def tb_X9_text : List (Nat × Instr × Nat) := [(0, .iload_n 1, 1), (1, .ifCond .lt 14, 3), (4, .iload_n 1, 1), (5, .aload_n 0, 1), (6, .getfield 24, 3), (9, .getfield 73, 3), (12, .if_icmp .le 6, 3), (15, .bipush (-2), 2), (17, .ireturn, 1), (18, .aload_n 0, 1), (19, .getfield 24, 3), (22, .iload_n 1, 1), (23, .aload_n 0, 1), (24, .getfield 16, 3), (27, .invokevirtual 80, 3), (30, .iconst 0, 1), (31, .istore_n 2, 1), (32, .iload_n 2, 1), (33, .sipush 700, 3), (36, .if_icmp .ge 26, 3), (39, .aload_n 0, 1), (40, .getfield 24, 3), (43, .invokevirtual 84, 3), (46, .ifCond .eq 16, 3), (49, .aload_n 0, 1), (50, .getfield 24, 3), (53, .invokevirtual 88, 3), (56, .iinc 2 1, 3), (59, .goto (-27), 3), (62, .aload_n 0, 1), (63, .aload_n 0, 1), (64, .getfield 24, 3), (67, .getfield 91, 3), (70, .putfield 28, 3), (73, .aload_n 0, 1), (74, .aload_n 0, 1), (75, .getfield 24, 3), (78, .getfield 94, 3), (81, .putfield 32, 3), (84, .aload_n 0, 1), (85, .getfield 28, 3), (88, .ifCond .eq 5, 3), (91, .iconst (-1), 1), (92, .ireturn, 1), (93, .aload_n 0, 1), (94, .getfield 16, 3), (97, .astore_n 2, 1), (98, .aload_n 0, 1), (99, .aload_n 0, 1), (100, .getfield 10, 3), (103, .putfield 16, 3), (106, .aload_n 0, 1), (107, .aload_n 2, 1), (108, .putfield 10, 3), (111, .aload_n 0, 1), (112, .getfield 38, 3), (115, .aload_n 0, 1), (116, .getfield 10, 3), (119, .invokevirtual 97, 3), (122, .aload_n 0, 1), (123, .iconst 0, 1), (124, .putfield 48, 3), (127, .aload_n 0, 1), (128, .getfield 55, 3), (131, .invokevirtual 99, 3), (134, .aload_n 0, 1), (135, .getfield 62, 3), (138, .invokevirtual 102, 3), (141, .aload_n 0, 1), (142, .getfield 10, 3), (145, .getfield 103, 3), (148, .ireturn, 1)]
theorem dt_X9_text : dOk cX9_text tb_X9_text = true := by decide +kernel
def fX9_text_62 (h : Hp) : Option (Int32 × Hp) := if (hI (uI (uI h 0 1 (hI h 69 14)) 0 2 (hI (uI h 0 1 (hI h 69 14)) 69 15)) 0 1) = 0 then ((dref shp (uI (uI h 0 1 (hI h 69 14)) 0 2 (hI (uI h 0 1 (hI h 69 14)) 69 15)) 0 4 (7, 20)).bind (fun z_14 => (dref shp (uI (uI h 0 1 (hI h 69 14)) 0 2 (hI (uI h 0 1 (hI h 69 14)) 69 15)) 0 3 (7, 20)).bind (fun z_16 => (dref shp (uR (uR (uI (uI h 0 1 (hI h 69 14)) 0 2 (hI (uI h 0 1 (hI h 69 14)) 69 15)) 0 4 (some z_16)) 0 3 (some z_14)) 0 3 (7, 20)).bind (fun z_18 => (fX8_begin 72 z_18 (uR (uR (uI (uI h 0 1 (hI h 69 14)) 0 2 (hI (uI h 0 1 (hI h 69 14)) 69 15)) 0 4 (some z_16)) 0 3 (some z_14))).bind (fun h_21 => (fX4_clear (uI h_21 0 8 (0 : Int32))).bind (fun h_23 => (fX2_clear h_23).bind (fun h_25 => (dref shp h_25 0 3 (7, 20)).bind (fun z_26 => some ((hI h_25 z_26 19), h_25))))))))) else (some ((-1 : Int32), (uI (uI h 0 1 (hI h 69 14)) 0 2 (hI (uI h 0 1 (hI h 69 14)) 69 15))))
def fX9_text_32 : Nat → Hp → Int32 → Option (Int32 × Hp)
  | 0, _, _ => none
  | fu + 1, h, x2 => if (700 : Int32) ≤ x2 then (fX9_text_62 h) else (bnd (fX5_hasMore h) (fun v_8 h_9 => if v_8 = 0 then (fX9_text_62 h_9) else ((fX5_line h_9).bind (fun h_12 => (fX9_text_32 fu) h_12 (x2 + (1 : Int32))))))
def fX9_text (h : Hp) (x1 : Int32) : Option (Int32 × Hp) := if x1 < 0 then (some ((-2 : Int32), h)) else (if x1 ≤ (hI h 69 1) then ((dref shp h 0 4 (7, 20)).bind (fun z_3 => (fX5_begin z_3 h x1).bind (fun h_6 => fX9_text_32 FU h_6 (0 : Int32)))) else (some ((-2 : Int32), h)))
set_option maxRecDepth 100000 in
set_option maxHeartbeats 4000000 in
theorem c_X9_text {l : Launch} {sb : State} {D : va_G} {ids : Nat → ClassId} {n : Nat} (hN : 152 ≤ n) (hG : jG sb) (h : Hp) (x1 : Int32) (r : Int32 × Hp) (hr : fX9_text h x1 = some r) : jM l yX9_text cX9_text 3 (some .int) 206 sb D ids shp St n [.ref 0, .int x1] h (jQi sb D ids shp St n r) := by
  refine jM_of hr rfl (Nat.le_of_ble_eq_true rfl) ?_
  intro p e s m args below meth c hC hret
  have b62 : ∀ (h : Hp) , jJ p l e (rmD 206) s m args below meth c 3 sb D ids shp St (fun r => MQ below (jQi sb D ids shp St n r) args s 0 0 (jA sb)) n 0 0 h 62 [(0, .ref 0)] [] (fX9_text_62 h ) := by
    intro h 
    unfold fX9_text_62
    refine j_aload_n hC 0 rfl rfl (dOk_at dt_X9_text 29 rfl) ?_
    refine j_aload_n hC 0 rfl rfl (dOk_at dt_X9_text 30 rfl) ?_
    refine j_getR hC flX9_24 (show shp 0 = (9, 12) from rfl) (Nat.lt_of_lt_of_le (Nat.le_of_ble_eq_true rfl : 0 < 152) hN) (by decide) (by decide) (fun _ _ _ => rfl) (fun hs => hs 0 0 69 rfl) (dOk_at dt_X9_text 31 rfl) ?_
    refine j_getI hC flX9_91 (show shp 69 = (5, 16) from rfl) (Nat.lt_of_lt_of_le (Nat.le_of_ble_eq_true rfl : 69 < 152) hN) (by decide) (by decide) (fun _ _ _ => rfl) (dOk_at dt_X9_text 32 rfl) ?_
    refine j_putI hC St_SP flX9_28 (show shp 0 = (9, 12) from rfl) (Nat.lt_of_lt_of_le (Nat.le_of_ble_eq_true rfl : 0 < 152) hN) (by decide) (by decide) rfl rfl (dOk_at dt_X9_text 33 rfl) ?_
    refine j_aload_n hC 0 rfl rfl (dOk_at dt_X9_text 34 rfl) ?_
    refine j_aload_n hC 0 rfl rfl (dOk_at dt_X9_text 35 rfl) ?_
    refine j_getR hC flX9_24 (show shp 0 = (9, 12) from rfl) (Nat.lt_of_lt_of_le (Nat.le_of_ble_eq_true rfl : 0 < 152) hN) (by decide) (by decide) (fun _ _ _ => rfl) (fun hs => hs 0 0 69 rfl) (dOk_at dt_X9_text 36 rfl) ?_
    refine j_getI hC flX9_94 (show shp 69 = (5, 16) from rfl) (Nat.lt_of_lt_of_le (Nat.le_of_ble_eq_true rfl : 69 < 152) hN) (by decide) (by decide) (fun _ _ _ => rfl) (dOk_at dt_X9_text 37 rfl) ?_
    refine j_putI hC St_SP flX9_32 (show shp 0 = (9, 12) from rfl) (Nat.lt_of_lt_of_le (Nat.le_of_ble_eq_true rfl : 0 < 152) hN) (by decide) (by decide) rfl rfl (dOk_at dt_X9_text 38 rfl) ?_
    refine j_aload_n hC 0 rfl rfl (dOk_at dt_X9_text 39 rfl) ?_
    refine j_getI hC flX9_28 (show shp 0 = (9, 12) from rfl) (Nat.lt_of_lt_of_le (Nat.le_of_ble_eq_true rfl : 0 < 152) hN) (by decide) (by decide) (fun _ _ _ => rfl) (dOk_at dt_X9_text 40 rfl) ?_
    refine j_if_eq hC (tgt := 93) (by decide) (dOk_at dt_X9_text 41 rfl) (fun q_13 => ?_) (fun q_13 => ?_)
    · refine j_aload_n hC 0 rfl rfl (dOk_at dt_X9_text 44 rfl) ?_
      refine j_getD (q := (7, 20)) hC flX9_16 (show shp 0 = (9, 12) from rfl) (Nat.lt_of_lt_of_le (Nat.le_of_ble_eq_true rfl : 0 < 152) hN) (by decide) (by decide) (fun _ _ _ => rfl) (dOk_at dt_X9_text 45 rfl) (fun z_14 _ g_15 => ?_)
      refine j_astore_n hC rfl (lv' := [(2, .ref z_14), (0, .ref 0)]) (by decide) rfl (dOk_at dt_X9_text 46 rfl) ?_
      refine j_aload_n hC 1 rfl rfl (dOk_at dt_X9_text 47 rfl) ?_
      refine j_aload_n hC 1 rfl rfl (dOk_at dt_X9_text 48 rfl) ?_
      refine j_getD (q := (7, 20)) hC flX9_10 (show shp 0 = (9, 12) from rfl) (Nat.lt_of_lt_of_le (Nat.le_of_ble_eq_true rfl : 0 < 152) hN) (by decide) (by decide) (fun _ _ _ => rfl) (dOk_at dt_X9_text 49 rfl) (fun z_16 _ g_17 => ?_)
      refine j_putR hC flX9_16 (show shp 0 = (9, 12) from rfl) (Nat.lt_of_lt_of_le (Nat.le_of_ble_eq_true rfl : 0 < 152) hN) (by decide) (by decide) rfl rfl (fun hs => St_uR hs rfl) (dOk_at dt_X9_text 50 rfl) ?_
      refine j_aload_n hC 1 rfl rfl (dOk_at dt_X9_text 51 rfl) ?_
      refine j_aload_n hC 0 rfl rfl (dOk_at dt_X9_text 52 rfl) ?_
      refine j_putR hC flX9_10 (show shp 0 = (9, 12) from rfl) (Nat.lt_of_lt_of_le (Nat.le_of_ble_eq_true rfl : 0 < 152) hN) (by decide) (by decide) rfl rfl (fun hs => St_uR hs rfl) (dOk_at dt_X9_text 53 rfl) ?_
      refine j_aload_n hC 1 rfl rfl (dOk_at dt_X9_text 54 rfl) ?_
      refine j_getR hC flX9_38 (show shp 0 = (9, 12) from rfl) (Nat.lt_of_lt_of_le (Nat.le_of_ble_eq_true rfl : 0 < 152) hN) (by decide) (by decide) (fun _ _ _ => rfl) (fun hs => hs 0 5 72 rfl) (dOk_at dt_X9_text 55 rfl) ?_
      refine j_aload_n hC 1 rfl rfl (dOk_at dt_X9_text 56 rfl) ?_
      refine j_getD (q := (7, 20)) hC flX9_10 (show shp 0 = (9, 12) from rfl) (Nat.lt_of_lt_of_le (Nat.le_of_ble_eq_true rfl : 0 < 152) hN) (by decide) (by decide) (fun _ _ _ => rfl) (dOk_at dt_X9_text 57 rfl) (fun z_18 _ g_19 => ?_)
      refine j_callVv hC clX9_97 (fun rz hrz => c_X8_begin hN ((show shp 72 = (8, 15) from rfl)) (g_19) _ rz hrz) (show shp 72 = (8, 15) from rfl) (Nat.lt_of_lt_of_le (Nat.le_of_ble_eq_true rfl : 72 < 152) hN) (by decide) rfl rfl ⟨Nat.le_of_ble_eq_true rfl, Nat.le_of_ble_eq_true rfl⟩ ⟨Nat.le_refl 0, Nat.le_refl 0⟩ (As := [.ref z_18]) (st := []) rfl (Nat.le_of_ble_eq_true rfl) (dOk_at dt_X9_text 58 rfl) (fun h_21 _ => ?_)
      refine j_aload_n hC 1 rfl rfl (dOk_at dt_X9_text 59 rfl) ?_
      refine j_iconst hC (v := (0 : Int32)) rfl (dOk_at dt_X9_text 60 rfl) ?_
      refine j_putZ hC St_SP flX9_48 (show shp 0 = (9, 12) from rfl) (Nat.lt_of_lt_of_le (Nat.le_of_ble_eq_true rfl : 0 < 152) hN) (by decide) (by decide) rfl rfl rfl (dOk_at dt_X9_text 61 rfl) ?_
      refine j_aload_n hC 1 rfl rfl (dOk_at dt_X9_text 62 rfl) ?_
      refine j_getR hC flX9_55 (show shp 0 = (9, 12) from rfl) (Nat.lt_of_lt_of_le (Nat.le_of_ble_eq_true rfl : 0 < 152) hN) (by decide) (by decide) (fun _ _ _ => rfl) (fun hs => hs 0 9 90 rfl) (dOk_at dt_X9_text 63 rfl) ?_
      refine j_callVv hC clX9_99 (fun rz hrz => c_X4_clear hN _ rz hrz) (show shp 90 = (4, 8) from rfl) (Nat.lt_of_lt_of_le (Nat.le_of_ble_eq_true rfl : 90 < 152) hN) (by decide) rfl rfl ⟨Nat.le_of_ble_eq_true rfl, Nat.le_of_ble_eq_true rfl⟩ ⟨Nat.le_refl 0, Nat.le_refl 0⟩ (As := []) (st := []) rfl (Nat.le_of_ble_eq_true rfl) (dOk_at dt_X9_text 64 rfl) (fun h_23 _ => ?_)
      refine j_aload_n hC 1 rfl rfl (dOk_at dt_X9_text 65 rfl) ?_
      refine j_getR hC flX9_62 (show shp 0 = (9, 12) from rfl) (Nat.lt_of_lt_of_le (Nat.le_of_ble_eq_true rfl : 0 < 152) hN) (by decide) (by decide) (fun _ _ _ => rfl) (fun hs => hs 0 10 97 rfl) (dOk_at dt_X9_text 66 rfl) ?_
      refine j_callVv hC clX9_102 (fun rz hrz => c_X2_clear hN _ rz hrz) (show shp 97 = (2, 7) from rfl) (Nat.lt_of_lt_of_le (Nat.le_of_ble_eq_true rfl : 97 < 152) hN) (by decide) rfl rfl ⟨Nat.le_of_ble_eq_true rfl, Nat.le_of_ble_eq_true rfl⟩ ⟨Nat.le_refl 0, Nat.le_refl 0⟩ (As := []) (st := []) rfl (Nat.le_of_ble_eq_true rfl) (dOk_at dt_X9_text 67 rfl) (fun h_25 _ => ?_)
      refine j_aload_n hC 1 rfl rfl (dOk_at dt_X9_text 68 rfl) ?_
      refine j_getD (q := (7, 20)) hC flX9_10 (show shp 0 = (9, 12) from rfl) (Nat.lt_of_lt_of_le (Nat.le_of_ble_eq_true rfl : 0 < 152) hN) (by decide) (by decide) (fun _ _ _ => rfl) (dOk_at dt_X9_text 69 rfl) (fun z_26 _ g_27 => ?_)
      refine j_getI hC flX9_103 g_27 (jlt hN g_27 (by decide)) (by decide) (by decide) (fun _ _ _ => rfl) (dOk_at dt_X9_text 70 rfl) ?_
      exact j_iret hC hret (dOk_at dt_X9_text 71 rfl)
    · refine j_iconst hC (v := (-1 : Int32)) rfl (dOk_at dt_X9_text 42 rfl) ?_
      exact j_iret hC hret (dOk_at dt_X9_text 43 rfl)
  have b32 : ∀ (fu : Nat) (h : Hp) (x2 : Int32) , jJ p l e (rmD 206) s m args below meth c 3 sb D ids shp St (fun r => MQ below (jQi sb D ids shp St n r) args s 0 0 (jA sb)) n 0 0 h 32 [(0, .ref 0), (2, .int x2)] [] (fX9_text_32 fu h x2) := by
    intro fu 
    induction fu with
    | zero => intro h x2 ; exact j_none
    | succ fu ih =>
    intro h x2 
    rw [fX9_text_32]
    refine j_iload_n hC 1 rfl rfl (dOk_at dt_X9_text 17 rfl) ?_
    refine j_sipush hC (v := (700 : Int32)) rfl (dOk_at dt_X9_text 18 rfl) ?_
    refine j_icmp_ge hC (tgt := 62) (by decide) (dOk_at dt_X9_text 19 rfl) (fun q_7 => ?_) (fun q_7 => ?_)
    · refine j_sub [0] rfl ?_
      exact b62 h 
    · refine j_aload_n hC 0 rfl rfl (dOk_at dt_X9_text 20 rfl) ?_
      refine j_getR hC flX9_24 (show shp 0 = (9, 12) from rfl) (Nat.lt_of_lt_of_le (Nat.le_of_ble_eq_true rfl : 0 < 152) hN) (by decide) (by decide) (fun _ _ _ => rfl) (fun hs => hs 0 0 69 rfl) (dOk_at dt_X9_text 21 rfl) ?_
      refine j_callVi hC clX9_84 (fun rz hrz => c_X5_hasMore hN _ rz hrz) (show shp 69 = (5, 16) from rfl) (Nat.lt_of_lt_of_le (Nat.le_of_ble_eq_true rfl : 69 < 152) hN) (by decide) rfl rfl ⟨Nat.le_of_ble_eq_true rfl, Nat.le_of_ble_eq_true rfl⟩ ⟨Nat.le_refl 0, Nat.le_refl 0⟩ (As := []) (st := []) rfl (Nat.le_of_ble_eq_true rfl) (dOk_at dt_X9_text 22 rfl) (fun v_8 h_9 _ => ?_)
      refine j_if_eq hC (tgt := 62) (by decide) (dOk_at dt_X9_text 23 rfl) (fun q_10 => ?_) (fun q_10 => ?_)
      · refine j_sub [0] rfl ?_
        exact b62 h_9 
      · refine j_aload_n hC 0 rfl rfl (dOk_at dt_X9_text 24 rfl) ?_
        refine j_getR hC flX9_24 (show shp 0 = (9, 12) from rfl) (Nat.lt_of_lt_of_le (Nat.le_of_ble_eq_true rfl : 0 < 152) hN) (by decide) (by decide) (fun _ _ _ => rfl) (fun hs => hs 0 0 69 rfl) (dOk_at dt_X9_text 25 rfl) ?_
        refine j_callVv hC clX9_88 (fun rz hrz => c_X5_line hN hG _ rz hrz) (show shp 69 = (5, 16) from rfl) (Nat.lt_of_lt_of_le (Nat.le_of_ble_eq_true rfl : 69 < 152) hN) (by decide) rfl rfl ⟨Nat.le_of_ble_eq_true rfl, Nat.le_of_ble_eq_true rfl⟩ ⟨Nat.le_refl 0, Nat.le_refl 0⟩ (As := []) (st := []) rfl (Nat.le_of_ble_eq_true rfl) (dOk_at dt_X9_text 26 rfl) (fun h_12 _ => ?_)
        refine j_iinc hC (v := (x2 + (1 : Int32))) (lv' := [(2, .int (x2 + (1 : Int32))), (0, .ref 0)]) 1 rfl (congrArg (fun z => x2 + z) (show Int32.ofInt (1) = (1 : Int32) from by decide)) (by decide) rfl (dOk_at dt_X9_text 27 rfl) ?_
        refine j_goto hC (tgt := 32) (by decide) (dOk_at dt_X9_text 28 rfl) ?_
        refine j_sub [1, 0] rfl ?_
        exact ih h_12 (x2 + (1 : Int32)) 
  unfold fX9_text
  refine j_iload_n hC 1 rfl rfl (dOk_at dt_X9_text 0 rfl) ?_
  refine j_if_lt hC (tgt := 15) (by decide) (dOk_at dt_X9_text 1 rfl) (fun q_1 => ?_) (fun q_1 => ?_)
  · refine j_bipush hC (v := (-2 : Int32)) rfl (dOk_at dt_X9_text 7 rfl) ?_
    exact j_iret hC hret (dOk_at dt_X9_text 8 rfl)
  · refine j_iload_n hC 1 rfl rfl (dOk_at dt_X9_text 2 rfl) ?_
    refine j_aload_n hC 0 rfl rfl (dOk_at dt_X9_text 3 rfl) ?_
    refine j_getR hC flX9_24 (show shp 0 = (9, 12) from rfl) (Nat.lt_of_lt_of_le (Nat.le_of_ble_eq_true rfl : 0 < 152) hN) (by decide) (by decide) (fun _ _ _ => rfl) (fun hs => hs 0 0 69 rfl) (dOk_at dt_X9_text 4 rfl) ?_
    refine j_getI hC flX9_73 (show shp 69 = (5, 16) from rfl) (Nat.lt_of_lt_of_le (Nat.le_of_ble_eq_true rfl : 69 < 152) hN) (by decide) (by decide) (fun _ _ _ => rfl) (dOk_at dt_X9_text 5 rfl) ?_
    refine j_icmp_le hC (tgt := 18) (by decide) (dOk_at dt_X9_text 6 rfl) (fun q_2 => ?_) (fun q_2 => ?_)
    · refine j_aload_n hC 0 rfl rfl (dOk_at dt_X9_text 9 rfl) ?_
      refine j_getR hC flX9_24 (show shp 0 = (9, 12) from rfl) (Nat.lt_of_lt_of_le (Nat.le_of_ble_eq_true rfl : 0 < 152) hN) (by decide) (by decide) (fun _ _ _ => rfl) (fun hs => hs 0 0 69 rfl) (dOk_at dt_X9_text 10 rfl) ?_
      refine j_iload_n hC 1 rfl rfl (dOk_at dt_X9_text 11 rfl) ?_
      refine j_aload_n hC 0 rfl rfl (dOk_at dt_X9_text 12 rfl) ?_
      refine j_getD (q := (7, 20)) hC flX9_16 (show shp 0 = (9, 12) from rfl) (Nat.lt_of_lt_of_le (Nat.le_of_ble_eq_true rfl : 0 < 152) hN) (by decide) (by decide) (fun _ _ _ => rfl) (dOk_at dt_X9_text 13 rfl) (fun z_3 _ g_4 => ?_)
      refine j_callVv hC clX9_80 (fun rz hrz => c_X5_begin hN (g_4) _ _ rz hrz) (show shp 69 = (5, 16) from rfl) (Nat.lt_of_lt_of_le (Nat.le_of_ble_eq_true rfl : 69 < 152) hN) (by decide) rfl rfl ⟨Nat.le_of_ble_eq_true rfl, Nat.le_of_ble_eq_true rfl⟩ ⟨Nat.le_refl 0, Nat.le_refl 0⟩ (As := [.int x1, .ref z_3]) (st := []) rfl (Nat.le_of_ble_eq_true rfl) (dOk_at dt_X9_text 14 rfl) (fun h_6 _ => ?_)
      refine j_iconst hC (v := (0 : Int32)) rfl (dOk_at dt_X9_text 15 rfl) ?_
      refine j_istore_n hC rfl (lv' := [(2, .int (0 : Int32)), (0, .ref 0), (1, .int x1)]) (by decide) rfl (dOk_at dt_X9_text 16 rfl) ?_
      refine j_sub [1, 0] rfl ?_
      exact b32 FU h_6 (0 : Int32) 
    · refine j_bipush hC (v := (-2 : Int32)) rfl (dOk_at dt_X9_text 7 rfl) ?_
      exact j_iret hC hret (dOk_at dt_X9_text 8 rfl)
def tb_X9_fault : List (Nat × Instr × Nat) := [(0, .iload_n 1, 1), (1, .ifCond .ne 8, 3), (4, .aload_n 0, 1), (5, .getfield 28, 3), (8, .ireturn, 1), (9, .iload_n 1, 1), (10, .iconst 1, 1), (11, .if_icmp .ne 10, 3), (14, .aload_n 0, 1), (15, .getfield 32, 3), (18, .goto 4, 3), (21, .iconst (-1), 1), (22, .ireturn, 1)]
theorem dt_X9_fault : dOk cX9_fault tb_X9_fault = true := by decide +kernel
def fX9_fault (h : Hp) (x1 : Int32) : Option (Int32 × Hp) := if x1 = 0 then (some ((hI h 0 1), h)) else (if x1 = (1 : Int32) then (some ((hI h 0 2), h)) else (some ((-1 : Int32), h)))
set_option maxRecDepth 100000 in
set_option maxHeartbeats 4000000 in
theorem c_X9_fault {l : Launch} {sb : State} {D : va_G} {ids : Nat → ClassId} {n : Nat} (hN : 152 ≤ n) (h : Hp) (x1 : Int32) (r : Int32 × Hp) (hr : fX9_fault h x1 = some r) : jM l yX9_fault cX9_fault 2 (some .int) 0 sb D ids shp St n [.ref 0, .int x1] h (jQi sb D ids shp St n r) := by
  refine jM_of hr rfl (Nat.le_of_ble_eq_true rfl) ?_
  intro p e s m args below meth c hC hret
  unfold fX9_fault
  refine j_iload_n hC 1 rfl rfl (dOk_at dt_X9_fault 0 rfl) ?_
  refine j_if_ne hC (tgt := 9) (by decide) (dOk_at dt_X9_fault 1 rfl) (fun q_1 => ?_) (fun q_1 => ?_)
  · refine j_iload_n hC 1 rfl rfl (dOk_at dt_X9_fault 5 rfl) ?_
    refine j_iconst hC (v := (1 : Int32)) rfl (dOk_at dt_X9_fault 6 rfl) ?_
    refine j_icmp_ne hC (tgt := 21) (by decide) (dOk_at dt_X9_fault 7 rfl) (fun q_2 => ?_) (fun q_2 => ?_)
    · refine j_iconst hC (v := (-1 : Int32)) rfl (dOk_at dt_X9_fault 11 rfl) ?_
      exact j_iret hC hret (dOk_at dt_X9_fault 12 rfl)
    · refine j_aload_n hC 0 rfl rfl (dOk_at dt_X9_fault 8 rfl) ?_
      refine j_getI hC flX9_32 (show shp 0 = (9, 12) from rfl) (Nat.lt_of_lt_of_le (Nat.le_of_ble_eq_true rfl : 0 < 152) hN) (by decide) (by decide) (fun _ _ _ => rfl) (dOk_at dt_X9_fault 9 rfl) ?_
      refine j_goto hC (tgt := 22) (by decide) (dOk_at dt_X9_fault 10 rfl) ?_
      exact j_iret hC hret (dOk_at dt_X9_fault 12 rfl)
  · refine j_aload_n hC 0 rfl rfl (dOk_at dt_X9_fault 2 rfl) ?_
    refine j_getI hC flX9_28 (show shp 0 = (9, 12) from rfl) (Nat.lt_of_lt_of_le (Nat.le_of_ble_eq_true rfl : 0 < 152) hN) (by decide) (by decide) (fun _ _ _ => rfl) (dOk_at dt_X9_fault 3 rfl) ?_
    exact j_iret hC hret (dOk_at dt_X9_fault 4 rfl)
def tb_X9_named : List (Nat × Instr × Nat) := [(0, .iload_n 1, 1), (1, .tableswitch 66 0 2 #[27, 42, 54], 27), (28, .aload_n 0, 1), (29, .getfield 10, 3), (32, .getfield 106, 3), (35, .getfield 110, 3), (38, .iload_n 2, 1), (39, .invokevirtual 116, 3), (42, .ireturn, 1), (43, .aload_n 0, 1), (44, .getfield 10, 3), (47, .getfield 122, 3), (50, .iload_n 2, 1), (51, .invokevirtual 116, 3), (54, .ireturn, 1), (55, .aload_n 0, 1), (56, .getfield 10, 3), (59, .getfield 125, 3), (62, .iload_n 2, 1), (63, .invokevirtual 116, 3), (66, .ireturn, 1), (67, .iconst (-1), 1), (68, .ireturn, 1)]
theorem dt_X9_named : dOk cX9_named tb_X9_named = true := by decide +kernel
def fX9_named (h : Hp) (x1 : Int32) (x2 : Int32) : Option (Int32 × Hp) := if inT x1 0 2 then (if x1 = (0 : Int32) then ((dref shp h 0 3 (7, 20)).bind (fun z_2 => bnd (fX6_find (rf (rf z_2 0) 0) h x2) (fun v_4 h_5 => some (v_4, h_5)))) else (if x1 = (1 : Int32) then ((dref shp h 0 3 (7, 20)).bind (fun z_7 => bnd (fX6_find (rf z_7 1) h x2) (fun v_9 h_10 => some (v_9, h_10)))) else (if x1 = (2 : Int32) then ((dref shp h 0 3 (7, 20)).bind (fun z_12 => bnd (fX6_find (rf z_12 4) h x2) (fun v_14 h_15 => some (v_14, h_15)))) else none))) else (some ((-1 : Int32), h))
set_option maxRecDepth 100000 in
set_option maxHeartbeats 4000000 in
theorem c_X9_named {l : Launch} {sb : State} {D : va_G} {ids : Nat → ClassId} {n : Nat} (hN : 152 ≤ n) (h : Hp) (x1 : Int32) (x2 : Int32) (r : Int32 × Hp) (hr : fX9_named h x1 x2 = some r) : jM l yX9_named cX9_named 3 (some .int) 1 sb D ids shp St n [.ref 0, .int x1, .int x2] h (jQi sb D ids shp St n r) := by
  refine jM_of hr rfl (Nat.le_of_ble_eq_true rfl) ?_
  intro p e s m args below meth c hC hret
  unfold fX9_named
  refine j_iload_n hC 1 rfl rfl (dOk_at dt_X9_named 0 rfl) ?_
  refine j_ite (P := inT x1 0 2 = true) (fun _ => ?_) (fun q => ?_)
  · refine j_ite (P := x1 = (0 : Int32)) (fun q_1 => ?_) (fun _ => ?_)
    · refine j_tswIn hC (tgt := 28) q_1 (by decide) (by decide) rfl (by decide) (dOk_at dt_X9_named 1 rfl) ?_
      refine j_aload_n hC 0 rfl rfl (dOk_at dt_X9_named 2 rfl) ?_
      refine j_getD (q := (7, 20)) hC flX9_10 (show shp 0 = (9, 12) from rfl) (Nat.lt_of_lt_of_le (Nat.le_of_ble_eq_true rfl : 0 < 152) hN) (by decide) (by decide) (fun _ _ _ => rfl) (dOk_at dt_X9_named 3 rfl) (fun z_2 _ g_3 => ?_)
      refine j_getR hC flX9_106 g_3 (jlt hN g_3 (by decide)) (by decide) (by decide) (fun _ _ _ => rfl) (fun hs => hs _ _ _ (sf_7_0 g_3).1) (dOk_at dt_X9_named 4 rfl) ?_
      refine j_getR hC flX9_110 (sf_7_0 g_3).2.1 (Nat.lt_of_lt_of_le (sf_7_0 g_3).2.2 hN) (by decide) (by decide) (fun _ _ _ => rfl) (fun hs => hs _ _ _ (sf_0_0 (sf_7_0 g_3).2.1).1) (dOk_at dt_X9_named 5 rfl) ?_
      refine j_iload_n hC 2 rfl rfl (dOk_at dt_X9_named 6 rfl) ?_
      refine j_callVi hC clX9_116 (fun rz hrz => c_X6_find hN ((sf_0_0 (sf_7_0 g_3).2.1).2.1) _ _ rz hrz) (sf_0_0 (sf_7_0 g_3).2.1).2.1 (Nat.lt_of_lt_of_le (sf_0_0 (sf_7_0 g_3).2.1).2.2 hN) (by decide) rfl rfl ⟨Nat.le_of_ble_eq_true rfl, Nat.le_of_ble_eq_true rfl⟩ ⟨Nat.le_refl 0, Nat.le_refl 0⟩ (As := [.int x2]) (st := []) rfl (Nat.le_of_ble_eq_true rfl) (dOk_at dt_X9_named 7 rfl) (fun v_4 h_5 _ => ?_)
      exact j_iret hC hret (dOk_at dt_X9_named 8 rfl)
    refine j_ite (P := x1 = (1 : Int32)) (fun q_6 => ?_) (fun _ => ?_)
    · refine j_tswIn hC (tgt := 43) q_6 (by decide) (by decide) rfl (by decide) (dOk_at dt_X9_named 1 rfl) ?_
      refine j_aload_n hC 0 rfl rfl (dOk_at dt_X9_named 9 rfl) ?_
      refine j_getD (q := (7, 20)) hC flX9_10 (show shp 0 = (9, 12) from rfl) (Nat.lt_of_lt_of_le (Nat.le_of_ble_eq_true rfl : 0 < 152) hN) (by decide) (by decide) (fun _ _ _ => rfl) (dOk_at dt_X9_named 10 rfl) (fun z_7 _ g_8 => ?_)
      refine j_getR hC flX9_122 g_8 (jlt hN g_8 (by decide)) (by decide) (by decide) (fun _ _ _ => rfl) (fun hs => hs _ _ _ (sf_7_1 g_8).1) (dOk_at dt_X9_named 11 rfl) ?_
      refine j_iload_n hC 2 rfl rfl (dOk_at dt_X9_named 12 rfl) ?_
      refine j_callVi hC clX9_116 (fun rz hrz => c_X6_find hN ((sf_7_1 g_8).2.1) _ _ rz hrz) (sf_7_1 g_8).2.1 (Nat.lt_of_lt_of_le (sf_7_1 g_8).2.2 hN) (by decide) rfl rfl ⟨Nat.le_of_ble_eq_true rfl, Nat.le_of_ble_eq_true rfl⟩ ⟨Nat.le_refl 0, Nat.le_refl 0⟩ (As := [.int x2]) (st := []) rfl (Nat.le_of_ble_eq_true rfl) (dOk_at dt_X9_named 13 rfl) (fun v_9 h_10 _ => ?_)
      exact j_iret hC hret (dOk_at dt_X9_named 14 rfl)
    refine j_ite (P := x1 = (2 : Int32)) (fun q_11 => ?_) (fun _ => ?_)
    · refine j_tswIn hC (tgt := 55) q_11 (by decide) (by decide) rfl (by decide) (dOk_at dt_X9_named 1 rfl) ?_
      refine j_aload_n hC 0 rfl rfl (dOk_at dt_X9_named 15 rfl) ?_
      refine j_getD (q := (7, 20)) hC flX9_10 (show shp 0 = (9, 12) from rfl) (Nat.lt_of_lt_of_le (Nat.le_of_ble_eq_true rfl : 0 < 152) hN) (by decide) (by decide) (fun _ _ _ => rfl) (dOk_at dt_X9_named 16 rfl) (fun z_12 _ g_13 => ?_)
      refine j_getR hC flX9_125 g_13 (jlt hN g_13 (by decide)) (by decide) (by decide) (fun _ _ _ => rfl) (fun hs => hs _ _ _ (sf_7_4 g_13).1) (dOk_at dt_X9_named 17 rfl) ?_
      refine j_iload_n hC 2 rfl rfl (dOk_at dt_X9_named 18 rfl) ?_
      refine j_callVi hC clX9_116 (fun rz hrz => c_X6_find hN ((sf_7_4 g_13).2.1) _ _ rz hrz) (sf_7_4 g_13).2.1 (Nat.lt_of_lt_of_le (sf_7_4 g_13).2.2 hN) (by decide) rfl rfl ⟨Nat.le_of_ble_eq_true rfl, Nat.le_of_ble_eq_true rfl⟩ ⟨Nat.le_refl 0, Nat.le_refl 0⟩ (As := [.int x2]) (st := []) rfl (Nat.le_of_ble_eq_true rfl) (dOk_at dt_X9_named 19 rfl) (fun v_14 h_15 _ => ?_)
      exact j_iret hC hret (dOk_at dt_X9_named 20 rfl)
    exact j_none
  · refine j_tswOut hC (tgt := 67) q (by decide) (dOk_at dt_X9_named 1 rfl) ?_
    refine j_iconst hC (v := (-1 : Int32)) rfl (dOk_at dt_X9_named 21 rfl) ?_
    exact j_iret hC hret (dOk_at dt_X9_named 22 rfl)
def tb_X9_isClaim : List (Nat × Instr × Nat) := [(0, .iload_n 1, 1), (1, .ifCond .lt 24, 3), (4, .iload_n 1, 1), (5, .aload_n 0, 1), (6, .getfield 10, 3), (9, .getfield 106, 3), (12, .getfield 110, 3), (15, .getfield 360, 3), (18, .if_icmp .ge 7, 3), (21, .iconst 1, 1), (22, .goto 4, 3), (25, .iconst 0, 1), (26, .ireturn, 1)]
theorem dt_X9_isClaim : dOk cX9_isClaim tb_X9_isClaim = true := by decide +kernel
def fX9_isClaim (h : Hp) (x1 : Int32) : Option (Int32 × Hp) := if x1 < 0 then (some ((0 : Int32), h)) else ((dref shp h 0 3 (7, 20)).bind (fun z_2 => if (hI h (rf (rf z_2 0) 0) 2) ≤ x1 then (some ((0 : Int32), h)) else (some ((1 : Int32), h))))
set_option maxRecDepth 100000 in
set_option maxHeartbeats 4000000 in
theorem c_X9_isClaim {l : Launch} {sb : State} {D : va_G} {ids : Nat → ClassId} {n : Nat} (hN : 152 ≤ n) (h : Hp) (x1 : Int32) (r : Int32 × Hp) (hr : fX9_isClaim h x1 = some r) : jM l yX9_isClaim cX9_isClaim 2 (some .boolean) 0 sb D ids shp St n [.ref 0, .int x1] h (jQi sb D ids shp St n r) := by
  refine jM_of hr rfl (Nat.le_of_ble_eq_true rfl) ?_
  intro p e s m args below meth c hC hret
  unfold fX9_isClaim
  refine j_iload_n hC 1 rfl rfl (dOk_at dt_X9_isClaim 0 rfl) ?_
  refine j_if_lt hC (tgt := 25) (by decide) (dOk_at dt_X9_isClaim 1 rfl) (fun q_1 => ?_) (fun q_1 => ?_)
  · refine j_iconst hC (v := (0 : Int32)) rfl (dOk_at dt_X9_isClaim 11 rfl) ?_
    exact j_zretK hC hret rfl (dOk_at dt_X9_isClaim 12 rfl)
  · refine j_iload_n hC 1 rfl rfl (dOk_at dt_X9_isClaim 2 rfl) ?_
    refine j_aload_n hC 0 rfl rfl (dOk_at dt_X9_isClaim 3 rfl) ?_
    refine j_getD (q := (7, 20)) hC flX9_10 (show shp 0 = (9, 12) from rfl) (Nat.lt_of_lt_of_le (Nat.le_of_ble_eq_true rfl : 0 < 152) hN) (by decide) (by decide) (fun _ _ _ => rfl) (dOk_at dt_X9_isClaim 4 rfl) (fun z_2 _ g_3 => ?_)
    refine j_getR hC flX9_106 g_3 (jlt hN g_3 (by decide)) (by decide) (by decide) (fun _ _ _ => rfl) (fun hs => hs _ _ _ (sf_7_0 g_3).1) (dOk_at dt_X9_isClaim 5 rfl) ?_
    refine j_getR hC flX9_110 (sf_7_0 g_3).2.1 (Nat.lt_of_lt_of_le (sf_7_0 g_3).2.2 hN) (by decide) (by decide) (fun _ _ _ => rfl) (fun hs => hs _ _ _ (sf_0_0 (sf_7_0 g_3).2.1).1) (dOk_at dt_X9_isClaim 6 rfl) ?_
    refine j_getI hC flX9_360 (sf_0_0 (sf_7_0 g_3).2.1).2.1 (Nat.lt_of_lt_of_le (sf_0_0 (sf_7_0 g_3).2.1).2.2 hN) (by decide) (by decide) (fun _ _ _ => rfl) (dOk_at dt_X9_isClaim 7 rfl) ?_
    refine j_icmp_ge hC (tgt := 25) (by decide) (dOk_at dt_X9_isClaim 8 rfl) (fun q_4 => ?_) (fun q_4 => ?_)
    · refine j_iconst hC (v := (0 : Int32)) rfl (dOk_at dt_X9_isClaim 11 rfl) ?_
      exact j_zretK hC hret rfl (dOk_at dt_X9_isClaim 12 rfl)
    · refine j_iconst hC (v := (1 : Int32)) rfl (dOk_at dt_X9_isClaim 9 rfl) ?_
      refine j_goto hC (tgt := 26) (by decide) (dOk_at dt_X9_isClaim 10 rfl) ?_
      exact j_zretK hC hret rfl (dOk_at dt_X9_isClaim 12 rfl)
def tb_X9_isStraw : List (Nat × Instr × Nat) := [(0, .iload_n 1, 1), (1, .ifCond .lt 21, 3), (4, .iload_n 1, 1), (5, .aload_n 0, 1), (6, .getfield 10, 3), (9, .getfield 122, 3), (12, .getfield 360, 3), (15, .if_icmp .ge 7, 3), (18, .iconst 1, 1), (19, .goto 4, 3), (22, .iconst 0, 1), (23, .ireturn, 1)]
theorem dt_X9_isStraw : dOk cX9_isStraw tb_X9_isStraw = true := by decide +kernel
def fX9_isStraw (h : Hp) (x1 : Int32) : Option (Int32 × Hp) := if x1 < 0 then (some ((0 : Int32), h)) else ((dref shp h 0 3 (7, 20)).bind (fun z_2 => if (hI h (rf z_2 1) 2) ≤ x1 then (some ((0 : Int32), h)) else (some ((1 : Int32), h))))
set_option maxRecDepth 100000 in
set_option maxHeartbeats 4000000 in
theorem c_X9_isStraw {l : Launch} {sb : State} {D : va_G} {ids : Nat → ClassId} {n : Nat} (hN : 152 ≤ n) (h : Hp) (x1 : Int32) (r : Int32 × Hp) (hr : fX9_isStraw h x1 = some r) : jM l yX9_isStraw cX9_isStraw 2 (some .boolean) 0 sb D ids shp St n [.ref 0, .int x1] h (jQi sb D ids shp St n r) := by
  refine jM_of hr rfl (Nat.le_of_ble_eq_true rfl) ?_
  intro p e s m args below meth c hC hret
  unfold fX9_isStraw
  refine j_iload_n hC 1 rfl rfl (dOk_at dt_X9_isStraw 0 rfl) ?_
  refine j_if_lt hC (tgt := 22) (by decide) (dOk_at dt_X9_isStraw 1 rfl) (fun q_1 => ?_) (fun q_1 => ?_)
  · refine j_iconst hC (v := (0 : Int32)) rfl (dOk_at dt_X9_isStraw 10 rfl) ?_
    exact j_zretK hC hret rfl (dOk_at dt_X9_isStraw 11 rfl)
  · refine j_iload_n hC 1 rfl rfl (dOk_at dt_X9_isStraw 2 rfl) ?_
    refine j_aload_n hC 0 rfl rfl (dOk_at dt_X9_isStraw 3 rfl) ?_
    refine j_getD (q := (7, 20)) hC flX9_10 (show shp 0 = (9, 12) from rfl) (Nat.lt_of_lt_of_le (Nat.le_of_ble_eq_true rfl : 0 < 152) hN) (by decide) (by decide) (fun _ _ _ => rfl) (dOk_at dt_X9_isStraw 4 rfl) (fun z_2 _ g_3 => ?_)
    refine j_getR hC flX9_122 g_3 (jlt hN g_3 (by decide)) (by decide) (by decide) (fun _ _ _ => rfl) (fun hs => hs _ _ _ (sf_7_1 g_3).1) (dOk_at dt_X9_isStraw 5 rfl) ?_
    refine j_getI hC flX9_360 (sf_7_1 g_3).2.1 (Nat.lt_of_lt_of_le (sf_7_1 g_3).2.2 hN) (by decide) (by decide) (fun _ _ _ => rfl) (dOk_at dt_X9_isStraw 6 rfl) ?_
    refine j_icmp_ge hC (tgt := 22) (by decide) (dOk_at dt_X9_isStraw 7 rfl) (fun q_4 => ?_) (fun q_4 => ?_)
    · refine j_iconst hC (v := (0 : Int32)) rfl (dOk_at dt_X9_isStraw 10 rfl) ?_
      exact j_zretK hC hret rfl (dOk_at dt_X9_isStraw 11 rfl)
    · refine j_iconst hC (v := (1 : Int32)) rfl (dOk_at dt_X9_isStraw 8 rfl) ?_
      refine j_goto hC (tgt := 23) (by decide) (dOk_at dt_X9_isStraw 9 rfl) ?_
      exact j_zretK hC hret rfl (dOk_at dt_X9_isStraw 11 rfl)
def tb_X9_straw : List (Nat × Instr × Nat) := [(0, .aload_n 0, 1), (1, .iload_n 1, 1), (2, .invokevirtual 156, 3), (5, .ifCond .ne 5, 3), (8, .iconst (-1), 1), (9, .ireturn, 1), (10, .iload_n 2, 1), (11, .tableswitch 60 0 2 #[25, 34, 43], 25), (36, .aload_n 0, 1), (37, .getfield 10, 3), (40, .iload_n 1, 1), (41, .invokevirtual 159, 3), (44, .ireturn, 1), (45, .aload_n 0, 1), (46, .getfield 38, 3), (49, .iload_n 1, 1), (50, .invokevirtual 162, 3), (53, .ireturn, 1), (54, .aload_n 0, 1), (55, .getfield 38, 3), (58, .iload_n 1, 1), (59, .invokevirtual 165, 3), (62, .ifCond .eq 7, 3), (65, .iconst 1, 1), (66, .goto 4, 3), (69, .iconst 0, 1), (70, .ireturn, 1), (71, .iconst (-1), 1), (72, .ireturn, 1)]
theorem dt_X9_straw : dOk cX9_straw tb_X9_straw = true := by decide +kernel
def fX9_straw (h : Hp) (x1 : Int32) (x2 : Int32) : Option (Int32 × Hp) := bnd (fX9_isStraw h x1) (fun v_1 h_2 => if v_1 = 0 then (some ((-1 : Int32), h_2)) else (if inT x2 0 2 then (if x2 = (0 : Int32) then ((dref shp h_2 0 3 (7, 20)).bind (fun z_5 => bnd (fX7_claimOf z_5 h_2 x1) (fun v_7 h_8 => some (v_7, h_8)))) else (if x2 = (1 : Int32) then (bnd (fX8_fullOf 72 h_2 x1) (fun v_10 h_11 => some (v_10, h_11))) else (if x2 = (2 : Int32) then (bnd (fX8_inShed 72 h_2 x1) (fun v_13 h_14 => if v_13 = 0 then (some ((0 : Int32), h_14)) else (some ((1 : Int32), h_14)))) else none))) else (some ((-1 : Int32), h_2))))
set_option maxRecDepth 100000 in
set_option maxHeartbeats 4000000 in
theorem c_X9_straw {l : Launch} {sb : State} {D : va_G} {ids : Nat → ClassId} {n : Nat} (hN : 152 ≤ n) (h : Hp) (x1 : Int32) (x2 : Int32) (r : Int32 × Hp) (hr : fX9_straw h x1 x2 = some r) : jM l yX9_straw cX9_straw 3 (some .int) 1 sb D ids shp St n [.ref 0, .int x1, .int x2] h (jQi sb D ids shp St n r) := by
  refine jM_of hr rfl (Nat.le_of_ble_eq_true rfl) ?_
  intro p e s m args below meth c hC hret
  unfold fX9_straw
  refine j_aload_n hC 0 rfl rfl (dOk_at dt_X9_straw 0 rfl) ?_
  refine j_iload_n hC 1 rfl rfl (dOk_at dt_X9_straw 1 rfl) ?_
  refine j_callVi hC clX9_156 (fun rz hrz => c_X9_isStraw hN _ _ rz hrz) (show shp 0 = (9, 12) from rfl) (Nat.lt_of_lt_of_le (Nat.le_of_ble_eq_true rfl : 0 < 152) hN) (by decide) rfl rfl ⟨Nat.le_of_ble_eq_true rfl, Nat.le_of_ble_eq_true rfl⟩ ⟨Nat.le_refl 0, Nat.le_refl 0⟩ (As := [.int x1]) (st := []) rfl (Nat.le_of_ble_eq_true rfl) (dOk_at dt_X9_straw 2 rfl) (fun v_1 h_2 _ => ?_)
  refine j_if_ne hC (tgt := 10) (by decide) (dOk_at dt_X9_straw 3 rfl) (fun q_3 => ?_) (fun q_3 => ?_)
  · refine j_iload_n hC 2 rfl rfl (dOk_at dt_X9_straw 6 rfl) ?_
    refine j_ite (P := inT x2 0 2 = true) (fun _ => ?_) (fun q => ?_)
    · refine j_ite (P := x2 = (0 : Int32)) (fun q_4 => ?_) (fun _ => ?_)
      · refine j_tswIn hC (tgt := 36) q_4 (by decide) (by decide) rfl (by decide) (dOk_at dt_X9_straw 7 rfl) ?_
        refine j_aload_n hC 0 rfl rfl (dOk_at dt_X9_straw 8 rfl) ?_
        refine j_getD (q := (7, 20)) hC flX9_10 (show shp 0 = (9, 12) from rfl) (Nat.lt_of_lt_of_le (Nat.le_of_ble_eq_true rfl : 0 < 152) hN) (by decide) (by decide) (fun _ _ _ => rfl) (dOk_at dt_X9_straw 9 rfl) (fun z_5 _ g_6 => ?_)
        refine j_iload_n hC 1 rfl rfl (dOk_at dt_X9_straw 10 rfl) ?_
        refine j_callVi hC clX9_159 (fun rz hrz => c_X7_claimOf hN (g_6) _ _ rz hrz) g_6 (jlt hN g_6 (by decide)) (by decide) rfl rfl ⟨Nat.le_of_ble_eq_true rfl, Nat.le_of_ble_eq_true rfl⟩ ⟨Nat.le_refl 0, Nat.le_refl 0⟩ (As := [.int x1]) (st := []) rfl (Nat.le_of_ble_eq_true rfl) (dOk_at dt_X9_straw 11 rfl) (fun v_7 h_8 _ => ?_)
        exact j_iret hC hret (dOk_at dt_X9_straw 12 rfl)
      refine j_ite (P := x2 = (1 : Int32)) (fun q_9 => ?_) (fun _ => ?_)
      · refine j_tswIn hC (tgt := 45) q_9 (by decide) (by decide) rfl (by decide) (dOk_at dt_X9_straw 7 rfl) ?_
        refine j_aload_n hC 0 rfl rfl (dOk_at dt_X9_straw 13 rfl) ?_
        refine j_getR hC flX9_38 (show shp 0 = (9, 12) from rfl) (Nat.lt_of_lt_of_le (Nat.le_of_ble_eq_true rfl : 0 < 152) hN) (by decide) (by decide) (fun _ _ _ => rfl) (fun hs => hs 0 5 72 rfl) (dOk_at dt_X9_straw 14 rfl) ?_
        refine j_iload_n hC 1 rfl rfl (dOk_at dt_X9_straw 15 rfl) ?_
        refine j_callVi hC clX9_162 (fun rz hrz => c_X8_fullOf hN ((show shp 72 = (8, 15) from rfl)) _ _ rz hrz) (show shp 72 = (8, 15) from rfl) (Nat.lt_of_lt_of_le (Nat.le_of_ble_eq_true rfl : 72 < 152) hN) (by decide) rfl rfl ⟨Nat.le_of_ble_eq_true rfl, Nat.le_of_ble_eq_true rfl⟩ ⟨Nat.le_refl 0, Nat.le_refl 0⟩ (As := [.int x1]) (st := []) rfl (Nat.le_of_ble_eq_true rfl) (dOk_at dt_X9_straw 16 rfl) (fun v_10 h_11 _ => ?_)
        exact j_iret hC hret (dOk_at dt_X9_straw 17 rfl)
      refine j_ite (P := x2 = (2 : Int32)) (fun q_12 => ?_) (fun _ => ?_)
      · refine j_tswIn hC (tgt := 54) q_12 (by decide) (by decide) rfl (by decide) (dOk_at dt_X9_straw 7 rfl) ?_
        refine j_aload_n hC 0 rfl rfl (dOk_at dt_X9_straw 18 rfl) ?_
        refine j_getR hC flX9_38 (show shp 0 = (9, 12) from rfl) (Nat.lt_of_lt_of_le (Nat.le_of_ble_eq_true rfl : 0 < 152) hN) (by decide) (by decide) (fun _ _ _ => rfl) (fun hs => hs 0 5 72 rfl) (dOk_at dt_X9_straw 19 rfl) ?_
        refine j_iload_n hC 1 rfl rfl (dOk_at dt_X9_straw 20 rfl) ?_
        refine j_callVi hC clX9_165 (fun rz hrz => c_X8_inShed hN ((show shp 72 = (8, 15) from rfl)) _ _ rz hrz) (show shp 72 = (8, 15) from rfl) (Nat.lt_of_lt_of_le (Nat.le_of_ble_eq_true rfl : 72 < 152) hN) (by decide) rfl rfl ⟨Nat.le_of_ble_eq_true rfl, Nat.le_of_ble_eq_true rfl⟩ ⟨Nat.le_refl 0, Nat.le_refl 0⟩ (As := [.int x1]) (st := []) rfl (Nat.le_of_ble_eq_true rfl) (dOk_at dt_X9_straw 21 rfl) (fun v_13 h_14 _ => ?_)
        refine j_if_eq hC (tgt := 69) (by decide) (dOk_at dt_X9_straw 22 rfl) (fun q_15 => ?_) (fun q_15 => ?_)
        · refine j_iconst hC (v := (0 : Int32)) rfl (dOk_at dt_X9_straw 25 rfl) ?_
          exact j_iret hC hret (dOk_at dt_X9_straw 26 rfl)
        · refine j_iconst hC (v := (1 : Int32)) rfl (dOk_at dt_X9_straw 23 rfl) ?_
          refine j_goto hC (tgt := 70) (by decide) (dOk_at dt_X9_straw 24 rfl) ?_
          exact j_iret hC hret (dOk_at dt_X9_straw 26 rfl)
      exact j_none
    · refine j_tswOut hC (tgt := 71) q (by decide) (dOk_at dt_X9_straw 7 rfl) ?_
      refine j_iconst hC (v := (-1 : Int32)) rfl (dOk_at dt_X9_straw 27 rfl) ?_
      exact j_iret hC hret (dOk_at dt_X9_straw 28 rfl)
  · refine j_iconst hC (v := (-1 : Int32)) rfl (dOk_at dt_X9_straw 4 rfl) ?_
    exact j_iret hC hret (dOk_at dt_X9_straw 5 rfl)
def tb_X9_isMember : List (Nat × Instr × Nat) := [(0, .iload_n 1, 1), (1, .ifCond .lt 21, 3), (4, .iload_n 1, 1), (5, .aload_n 0, 1), (6, .getfield 10, 3), (9, .getfield 125, 3), (12, .getfield 360, 3), (15, .if_icmp .ge 7, 3), (18, .iconst 1, 1), (19, .goto 4, 3), (22, .iconst 0, 1), (23, .ireturn, 1)]
theorem dt_X9_isMember : dOk cX9_isMember tb_X9_isMember = true := by decide +kernel
def fX9_isMember (h : Hp) (x1 : Int32) : Option (Int32 × Hp) := if x1 < 0 then (some ((0 : Int32), h)) else ((dref shp h 0 3 (7, 20)).bind (fun z_2 => if (hI h (rf z_2 4) 2) ≤ x1 then (some ((0 : Int32), h)) else (some ((1 : Int32), h))))
set_option maxRecDepth 100000 in
set_option maxHeartbeats 4000000 in
theorem c_X9_isMember {l : Launch} {sb : State} {D : va_G} {ids : Nat → ClassId} {n : Nat} (hN : 152 ≤ n) (h : Hp) (x1 : Int32) (r : Int32 × Hp) (hr : fX9_isMember h x1 = some r) : jM l yX9_isMember cX9_isMember 2 (some .boolean) 0 sb D ids shp St n [.ref 0, .int x1] h (jQi sb D ids shp St n r) := by
  refine jM_of hr rfl (Nat.le_of_ble_eq_true rfl) ?_
  intro p e s m args below meth c hC hret
  unfold fX9_isMember
  refine j_iload_n hC 1 rfl rfl (dOk_at dt_X9_isMember 0 rfl) ?_
  refine j_if_lt hC (tgt := 22) (by decide) (dOk_at dt_X9_isMember 1 rfl) (fun q_1 => ?_) (fun q_1 => ?_)
  · refine j_iconst hC (v := (0 : Int32)) rfl (dOk_at dt_X9_isMember 10 rfl) ?_
    exact j_zretK hC hret rfl (dOk_at dt_X9_isMember 11 rfl)
  · refine j_iload_n hC 1 rfl rfl (dOk_at dt_X9_isMember 2 rfl) ?_
    refine j_aload_n hC 0 rfl rfl (dOk_at dt_X9_isMember 3 rfl) ?_
    refine j_getD (q := (7, 20)) hC flX9_10 (show shp 0 = (9, 12) from rfl) (Nat.lt_of_lt_of_le (Nat.le_of_ble_eq_true rfl : 0 < 152) hN) (by decide) (by decide) (fun _ _ _ => rfl) (dOk_at dt_X9_isMember 4 rfl) (fun z_2 _ g_3 => ?_)
    refine j_getR hC flX9_125 g_3 (jlt hN g_3 (by decide)) (by decide) (by decide) (fun _ _ _ => rfl) (fun hs => hs _ _ _ (sf_7_4 g_3).1) (dOk_at dt_X9_isMember 5 rfl) ?_
    refine j_getI hC flX9_360 (sf_7_4 g_3).2.1 (Nat.lt_of_lt_of_le (sf_7_4 g_3).2.2 hN) (by decide) (by decide) (fun _ _ _ => rfl) (dOk_at dt_X9_isMember 6 rfl) ?_
    refine j_icmp_ge hC (tgt := 22) (by decide) (dOk_at dt_X9_isMember 7 rfl) (fun q_4 => ?_) (fun q_4 => ?_)
    · refine j_iconst hC (v := (0 : Int32)) rfl (dOk_at dt_X9_isMember 10 rfl) ?_
      exact j_zretK hC hret rfl (dOk_at dt_X9_isMember 11 rfl)
    · refine j_iconst hC (v := (1 : Int32)) rfl (dOk_at dt_X9_isMember 8 rfl) ?_
      refine j_goto hC (tgt := 23) (by decide) (dOk_at dt_X9_isMember 9 rfl) ?_
      exact j_zretK hC hret rfl (dOk_at dt_X9_isMember 11 rfl)
def tb_X9_member : List (Nat × Instr × Nat) := [(0, .aload_n 0, 1), (1, .iload_n 1, 1), (2, .invokevirtual 168, 3), (5, .ifCond .ne 5, 3), (8, .iconst (-1), 1), (9, .ireturn, 1), (10, .iload_n 2, 1), (11, .tableswitch 52 0 2 #[25, 34, 43], 25), (36, .aload_n 0, 1), (37, .getfield 38, 3), (40, .iload_n 1, 1), (41, .invokevirtual 171, 3), (44, .ireturn, 1), (45, .aload_n 0, 1), (46, .getfield 38, 3), (49, .iload_n 1, 1), (50, .invokevirtual 174, 3), (53, .ireturn, 1), (54, .aload_n 0, 1), (55, .getfield 38, 3), (58, .iload_n 1, 1), (59, .invokevirtual 177, 3), (62, .ireturn, 1), (63, .iconst (-1), 1), (64, .ireturn, 1)]
theorem dt_X9_member : dOk cX9_member tb_X9_member = true := by decide +kernel
def fX9_member (h : Hp) (x1 : Int32) (x2 : Int32) : Option (Int32 × Hp) := bnd (fX9_isMember h x1) (fun v_1 h_2 => if v_1 = 0 then (some ((-1 : Int32), h_2)) else (if inT x2 0 2 then (if x2 = (0 : Int32) then (bnd (fX8_holdsOf 72 h_2 x1) (fun v_5 h_6 => some (v_5, h_6))) else (if x2 = (1 : Int32) then (bnd (fX8_wonBy 72 h_2 x1) (fun v_8 h_9 => some (v_8, h_9))) else (if x2 = (2 : Int32) then (bnd (fX8_beatenOf 72 h_2 x1) (fun v_11 h_12 => some (v_11, h_12))) else none))) else (some ((-1 : Int32), h_2))))
set_option maxRecDepth 100000 in
set_option maxHeartbeats 4000000 in
theorem c_X9_member {l : Launch} {sb : State} {D : va_G} {ids : Nat → ClassId} {n : Nat} (hN : 152 ≤ n) (h : Hp) (x1 : Int32) (x2 : Int32) (r : Int32 × Hp) (hr : fX9_member h x1 x2 = some r) : jM l yX9_member cX9_member 3 (some .int) 1 sb D ids shp St n [.ref 0, .int x1, .int x2] h (jQi sb D ids shp St n r) := by
  refine jM_of hr rfl (Nat.le_of_ble_eq_true rfl) ?_
  intro p e s m args below meth c hC hret
  unfold fX9_member
  refine j_aload_n hC 0 rfl rfl (dOk_at dt_X9_member 0 rfl) ?_
  refine j_iload_n hC 1 rfl rfl (dOk_at dt_X9_member 1 rfl) ?_
  refine j_callVi hC clX9_168 (fun rz hrz => c_X9_isMember hN _ _ rz hrz) (show shp 0 = (9, 12) from rfl) (Nat.lt_of_lt_of_le (Nat.le_of_ble_eq_true rfl : 0 < 152) hN) (by decide) rfl rfl ⟨Nat.le_of_ble_eq_true rfl, Nat.le_of_ble_eq_true rfl⟩ ⟨Nat.le_refl 0, Nat.le_refl 0⟩ (As := [.int x1]) (st := []) rfl (Nat.le_of_ble_eq_true rfl) (dOk_at dt_X9_member 2 rfl) (fun v_1 h_2 _ => ?_)
  refine j_if_ne hC (tgt := 10) (by decide) (dOk_at dt_X9_member 3 rfl) (fun q_3 => ?_) (fun q_3 => ?_)
  · refine j_iload_n hC 2 rfl rfl (dOk_at dt_X9_member 6 rfl) ?_
    refine j_ite (P := inT x2 0 2 = true) (fun _ => ?_) (fun q => ?_)
    · refine j_ite (P := x2 = (0 : Int32)) (fun q_4 => ?_) (fun _ => ?_)
      · refine j_tswIn hC (tgt := 36) q_4 (by decide) (by decide) rfl (by decide) (dOk_at dt_X9_member 7 rfl) ?_
        refine j_aload_n hC 0 rfl rfl (dOk_at dt_X9_member 8 rfl) ?_
        refine j_getR hC flX9_38 (show shp 0 = (9, 12) from rfl) (Nat.lt_of_lt_of_le (Nat.le_of_ble_eq_true rfl : 0 < 152) hN) (by decide) (by decide) (fun _ _ _ => rfl) (fun hs => hs 0 5 72 rfl) (dOk_at dt_X9_member 9 rfl) ?_
        refine j_iload_n hC 1 rfl rfl (dOk_at dt_X9_member 10 rfl) ?_
        refine j_callVi hC clX9_171 (fun rz hrz => c_X8_holdsOf hN ((show shp 72 = (8, 15) from rfl)) _ _ rz hrz) (show shp 72 = (8, 15) from rfl) (Nat.lt_of_lt_of_le (Nat.le_of_ble_eq_true rfl : 72 < 152) hN) (by decide) rfl rfl ⟨Nat.le_of_ble_eq_true rfl, Nat.le_of_ble_eq_true rfl⟩ ⟨Nat.le_refl 0, Nat.le_refl 0⟩ (As := [.int x1]) (st := []) rfl (Nat.le_of_ble_eq_true rfl) (dOk_at dt_X9_member 11 rfl) (fun v_5 h_6 _ => ?_)
        exact j_iret hC hret (dOk_at dt_X9_member 12 rfl)
      refine j_ite (P := x2 = (1 : Int32)) (fun q_7 => ?_) (fun _ => ?_)
      · refine j_tswIn hC (tgt := 45) q_7 (by decide) (by decide) rfl (by decide) (dOk_at dt_X9_member 7 rfl) ?_
        refine j_aload_n hC 0 rfl rfl (dOk_at dt_X9_member 13 rfl) ?_
        refine j_getR hC flX9_38 (show shp 0 = (9, 12) from rfl) (Nat.lt_of_lt_of_le (Nat.le_of_ble_eq_true rfl : 0 < 152) hN) (by decide) (by decide) (fun _ _ _ => rfl) (fun hs => hs 0 5 72 rfl) (dOk_at dt_X9_member 14 rfl) ?_
        refine j_iload_n hC 1 rfl rfl (dOk_at dt_X9_member 15 rfl) ?_
        refine j_callVi hC clX9_174 (fun rz hrz => c_X8_wonBy hN ((show shp 72 = (8, 15) from rfl)) _ _ rz hrz) (show shp 72 = (8, 15) from rfl) (Nat.lt_of_lt_of_le (Nat.le_of_ble_eq_true rfl : 72 < 152) hN) (by decide) rfl rfl ⟨Nat.le_of_ble_eq_true rfl, Nat.le_of_ble_eq_true rfl⟩ ⟨Nat.le_refl 0, Nat.le_refl 0⟩ (As := [.int x1]) (st := []) rfl (Nat.le_of_ble_eq_true rfl) (dOk_at dt_X9_member 16 rfl) (fun v_8 h_9 _ => ?_)
        exact j_iret hC hret (dOk_at dt_X9_member 17 rfl)
      refine j_ite (P := x2 = (2 : Int32)) (fun q_10 => ?_) (fun _ => ?_)
      · refine j_tswIn hC (tgt := 54) q_10 (by decide) (by decide) rfl (by decide) (dOk_at dt_X9_member 7 rfl) ?_
        refine j_aload_n hC 0 rfl rfl (dOk_at dt_X9_member 18 rfl) ?_
        refine j_getR hC flX9_38 (show shp 0 = (9, 12) from rfl) (Nat.lt_of_lt_of_le (Nat.le_of_ble_eq_true rfl : 0 < 152) hN) (by decide) (by decide) (fun _ _ _ => rfl) (fun hs => hs 0 5 72 rfl) (dOk_at dt_X9_member 19 rfl) ?_
        refine j_iload_n hC 1 rfl rfl (dOk_at dt_X9_member 20 rfl) ?_
        refine j_callVi hC clX9_177 (fun rz hrz => c_X8_beatenOf hN ((show shp 72 = (8, 15) from rfl)) _ _ rz hrz) (show shp 72 = (8, 15) from rfl) (Nat.lt_of_lt_of_le (Nat.le_of_ble_eq_true rfl : 72 < 152) hN) (by decide) rfl rfl ⟨Nat.le_of_ble_eq_true rfl, Nat.le_of_ble_eq_true rfl⟩ ⟨Nat.le_refl 0, Nat.le_refl 0⟩ (As := [.int x1]) (st := []) rfl (Nat.le_of_ble_eq_true rfl) (dOk_at dt_X9_member 21 rfl) (fun v_11 h_12 _ => ?_)
        exact j_iret hC hret (dOk_at dt_X9_member 22 rfl)
      exact j_none
    · refine j_tswOut hC (tgt := 63) q (by decide) (dOk_at dt_X9_member 7 rfl) ?_
      refine j_iconst hC (v := (-1 : Int32)) rfl (dOk_at dt_X9_member 23 rfl) ?_
      exact j_iret hC hret (dOk_at dt_X9_member 24 rfl)
  · refine j_iconst hC (v := (-1 : Int32)) rfl (dOk_at dt_X9_member 4 rfl) ?_
    exact j_iret hC hret (dOk_at dt_X9_member 5 rfl)
def tb_X9_force : List (Nat × Instr × Nat) := [(0, .aload_n 0, 1), (1, .iload_n 1, 1), (2, .invokevirtual 168, 3), (5, .ifCond .eq 11, 3), (8, .aload_n 0, 1), (9, .iload_n 2, 1), (10, .invokevirtual 128, 3), (13, .ifCond .ne 5, 3), (16, .iconst (-1), 1), (17, .ireturn, 1), (18, .aload_n 0, 1), (19, .getfield 38, 3), (22, .iload_n 1, 1), (23, .iload_n 2, 1), (24, .invokevirtual 180, 3), (27, .ireturn, 1)]
theorem dt_X9_force : dOk cX9_force tb_X9_force = true := by decide +kernel
def fX9_force (h : Hp) (x1 : Int32) (x2 : Int32) : Option (Int32 × Hp) := bnd (fX9_isMember h x1) (fun v_1 h_2 => if v_1 = 0 then (some ((-1 : Int32), h_2)) else (bnd (fX9_isClaim h_2 x2) (fun v_4 h_5 => if v_4 = 0 then (some ((-1 : Int32), h_5)) else (bnd (fX8_forceOf 72 h_5 x1 x2) (fun v_7 h_8 => some (v_7, h_8))))))
set_option maxRecDepth 100000 in
set_option maxHeartbeats 4000000 in
theorem c_X9_force {l : Launch} {sb : State} {D : va_G} {ids : Nat → ClassId} {n : Nat} (hN : 152 ≤ n) (h : Hp) (x1 : Int32) (x2 : Int32) (r : Int32 × Hp) (hr : fX9_force h x1 x2 = some r) : jM l yX9_force cX9_force 3 (some .int) 2 sb D ids shp St n [.ref 0, .int x1, .int x2] h (jQi sb D ids shp St n r) := by
  refine jM_of hr rfl (Nat.le_of_ble_eq_true rfl) ?_
  intro p e s m args below meth c hC hret
  unfold fX9_force
  refine j_aload_n hC 0 rfl rfl (dOk_at dt_X9_force 0 rfl) ?_
  refine j_iload_n hC 1 rfl rfl (dOk_at dt_X9_force 1 rfl) ?_
  refine j_callVi hC clX9_168 (fun rz hrz => c_X9_isMember hN _ _ rz hrz) (show shp 0 = (9, 12) from rfl) (Nat.lt_of_lt_of_le (Nat.le_of_ble_eq_true rfl : 0 < 152) hN) (by decide) rfl rfl ⟨Nat.le_of_ble_eq_true rfl, Nat.le_of_ble_eq_true rfl⟩ ⟨Nat.le_refl 0, Nat.le_refl 0⟩ (As := [.int x1]) (st := []) rfl (Nat.le_of_ble_eq_true rfl) (dOk_at dt_X9_force 2 rfl) (fun v_1 h_2 _ => ?_)
  refine j_if_eq hC (tgt := 16) (by decide) (dOk_at dt_X9_force 3 rfl) (fun q_3 => ?_) (fun q_3 => ?_)
  · refine j_iconst hC (v := (-1 : Int32)) rfl (dOk_at dt_X9_force 8 rfl) ?_
    exact j_iret hC hret (dOk_at dt_X9_force 9 rfl)
  · refine j_aload_n hC 0 rfl rfl (dOk_at dt_X9_force 4 rfl) ?_
    refine j_iload_n hC 2 rfl rfl (dOk_at dt_X9_force 5 rfl) ?_
    refine j_callVi hC clX9_128 (fun rz hrz => c_X9_isClaim hN _ _ rz hrz) (show shp 0 = (9, 12) from rfl) (Nat.lt_of_lt_of_le (Nat.le_of_ble_eq_true rfl : 0 < 152) hN) (by decide) rfl rfl ⟨Nat.le_of_ble_eq_true rfl, Nat.le_of_ble_eq_true rfl⟩ ⟨Nat.le_refl 0, Nat.le_refl 0⟩ (As := [.int x2]) (st := []) rfl (Nat.le_of_ble_eq_true rfl) (dOk_at dt_X9_force 6 rfl) (fun v_4 h_5 _ => ?_)
    refine j_if_ne hC (tgt := 18) (by decide) (dOk_at dt_X9_force 7 rfl) (fun q_6 => ?_) (fun q_6 => ?_)
    · refine j_aload_n hC 0 rfl rfl (dOk_at dt_X9_force 10 rfl) ?_
      refine j_getR hC flX9_38 (show shp 0 = (9, 12) from rfl) (Nat.lt_of_lt_of_le (Nat.le_of_ble_eq_true rfl : 0 < 152) hN) (by decide) (by decide) (fun _ _ _ => rfl) (fun hs => hs 0 5 72 rfl) (dOk_at dt_X9_force 11 rfl) ?_
      refine j_iload_n hC 1 rfl rfl (dOk_at dt_X9_force 12 rfl) ?_
      refine j_iload_n hC 2 rfl rfl (dOk_at dt_X9_force 13 rfl) ?_
      refine j_callVi hC clX9_180 (fun rz hrz => c_X8_forceOf hN ((show shp 72 = (8, 15) from rfl)) _ _ _ rz hrz) (show shp 72 = (8, 15) from rfl) (Nat.lt_of_lt_of_le (Nat.le_of_ble_eq_true rfl : 72 < 152) hN) (by decide) rfl rfl ⟨Nat.le_of_ble_eq_true rfl, Nat.le_of_ble_eq_true rfl⟩ ⟨Nat.le_refl 0, Nat.le_refl 0⟩ (As := [.int x1, .int x2]) (st := []) rfl (Nat.le_of_ble_eq_true rfl) (dOk_at dt_X9_force 14 rfl) (fun v_7 h_8 _ => ?_)
      exact j_iret hC hret (dOk_at dt_X9_force 15 rfl)
    · refine j_iconst hC (v := (-1 : Int32)) rfl (dOk_at dt_X9_force 8 rfl) ?_
      exact j_iret hC hret (dOk_at dt_X9_force 9 rfl)
def tb_X9_law : List (Nat × Instr × Nat) := [(0, .iload_n 1, 1), (1, .ifCond .lt 24, 3), (4, .iload_n 1, 1), (5, .iconst 3, 1), (6, .if_icmp .ge 19, 3), (9, .aload_n 0, 1), (10, .iload_n 2, 1), (11, .invokevirtual 156, 3), (14, .ifCond .eq 11, 3), (17, .aload_n 0, 1), (18, .iload_n 3, 1), (19, .invokevirtual 168, 3), (22, .ifCond .ne 7, 3), (25, .ldc2_w 184, 3), (28, .lreturn, 1), (29, .aload_n 0, 1), (30, .getfield 38, 3), (33, .iload_n 3, 1), (34, .iload_n 2, 1), (35, .invokevirtual 186, 3), (38, .aload_n 0, 1), (39, .getfield 38, 3), (42, .iload_n 1, 1), (43, .invokevirtual 190, 3), (46, .lreturn, 1)]
theorem dt_X9_law : dOk cX9_law tb_X9_law = true := by decide +kernel
def fX9_law (h : Hp) (x1 : Int32) (x2 : Int32) (x3 : Int32) : Option (Int64 × Hp) := if x1 < 0 then (some ((-9223372036854775808 : Int64), h)) else (if (3 : Int32) ≤ x1 then (some ((-9223372036854775808 : Int64), h)) else (bnd (fX9_isStraw h x2) (fun v_3 h_4 => if v_3 = 0 then (some ((-9223372036854775808 : Int64), h_4)) else (bnd (fX9_isMember h_4 x3) (fun v_6 h_7 => if v_6 = 0 then (some ((-9223372036854775808 : Int64), h_7)) else ((fX8_readNames 72 h_7 x3 x2).bind (fun h_10 => bnd (fX8_lawValue 72 h_10 x1) (fun v_11 h_12 => some (v_11, h_12)))))))))
set_option maxRecDepth 100000 in
set_option maxHeartbeats 4000000 in
theorem c_X9_law {l : Launch} {sb : State} {D : va_G} {ids : Nat → ClassId} {n : Nat} (hN : 152 ≤ n) (h : Hp) (x1 : Int32) (x2 : Int32) (x3 : Int32) (r : Int64 × Hp) (hr : fX9_law h x1 x2 x3 = some r) : jM l yX9_law cX9_law 4 (some .long) 3 sb D ids shp St n [.ref 0, .int x1, .int x2, .int x3] h (jQl sb D ids shp St n r) := by
  refine jM_of hr rfl (Nat.le_of_ble_eq_true rfl) ?_
  intro p e s m args below meth c hC hret
  unfold fX9_law
  refine j_iload_n hC 1 rfl rfl (dOk_at dt_X9_law 0 rfl) ?_
  refine j_if_lt hC (tgt := 25) (by decide) (dOk_at dt_X9_law 1 rfl) (fun q_1 => ?_) (fun q_1 => ?_)
  · refine j_ldc2 hC klX9_184 (dOk_at dt_X9_law 13 rfl) ?_
    exact j_lret hC hret (dOk_at dt_X9_law 14 rfl)
  · refine j_iload_n hC 1 rfl rfl (dOk_at dt_X9_law 2 rfl) ?_
    refine j_iconst hC (v := (3 : Int32)) rfl (dOk_at dt_X9_law 3 rfl) ?_
    refine j_icmp_ge hC (tgt := 25) (by decide) (dOk_at dt_X9_law 4 rfl) (fun q_2 => ?_) (fun q_2 => ?_)
    · refine j_ldc2 hC klX9_184 (dOk_at dt_X9_law 13 rfl) ?_
      exact j_lret hC hret (dOk_at dt_X9_law 14 rfl)
    · refine j_aload_n hC 0 rfl rfl (dOk_at dt_X9_law 5 rfl) ?_
      refine j_iload_n hC 2 rfl rfl (dOk_at dt_X9_law 6 rfl) ?_
      refine j_callVi hC clX9_156 (fun rz hrz => c_X9_isStraw hN _ _ rz hrz) (show shp 0 = (9, 12) from rfl) (Nat.lt_of_lt_of_le (Nat.le_of_ble_eq_true rfl : 0 < 152) hN) (by decide) rfl rfl ⟨Nat.le_of_ble_eq_true rfl, Nat.le_of_ble_eq_true rfl⟩ ⟨Nat.le_refl 0, Nat.le_refl 0⟩ (As := [.int x2]) (st := []) rfl (Nat.le_of_ble_eq_true rfl) (dOk_at dt_X9_law 7 rfl) (fun v_3 h_4 _ => ?_)
      refine j_if_eq hC (tgt := 25) (by decide) (dOk_at dt_X9_law 8 rfl) (fun q_5 => ?_) (fun q_5 => ?_)
      · refine j_ldc2 hC klX9_184 (dOk_at dt_X9_law 13 rfl) ?_
        exact j_lret hC hret (dOk_at dt_X9_law 14 rfl)
      · refine j_aload_n hC 0 rfl rfl (dOk_at dt_X9_law 9 rfl) ?_
        refine j_iload_n hC 3 rfl rfl (dOk_at dt_X9_law 10 rfl) ?_
        refine j_callVi hC clX9_168 (fun rz hrz => c_X9_isMember hN _ _ rz hrz) (show shp 0 = (9, 12) from rfl) (Nat.lt_of_lt_of_le (Nat.le_of_ble_eq_true rfl : 0 < 152) hN) (by decide) rfl rfl ⟨Nat.le_of_ble_eq_true rfl, Nat.le_of_ble_eq_true rfl⟩ ⟨Nat.le_refl 0, Nat.le_refl 0⟩ (As := [.int x3]) (st := []) rfl (Nat.le_of_ble_eq_true rfl) (dOk_at dt_X9_law 11 rfl) (fun v_6 h_7 _ => ?_)
        refine j_if_ne hC (tgt := 29) (by decide) (dOk_at dt_X9_law 12 rfl) (fun q_8 => ?_) (fun q_8 => ?_)
        · refine j_aload_n hC 0 rfl rfl (dOk_at dt_X9_law 15 rfl) ?_
          refine j_getR hC flX9_38 (show shp 0 = (9, 12) from rfl) (Nat.lt_of_lt_of_le (Nat.le_of_ble_eq_true rfl : 0 < 152) hN) (by decide) (by decide) (fun _ _ _ => rfl) (fun hs => hs 0 5 72 rfl) (dOk_at dt_X9_law 16 rfl) ?_
          refine j_iload_n hC 3 rfl rfl (dOk_at dt_X9_law 17 rfl) ?_
          refine j_iload_n hC 2 rfl rfl (dOk_at dt_X9_law 18 rfl) ?_
          refine j_callVv hC clX9_186 (fun rz hrz => c_X8_readNames hN ((show shp 72 = (8, 15) from rfl)) _ _ _ rz hrz) (show shp 72 = (8, 15) from rfl) (Nat.lt_of_lt_of_le (Nat.le_of_ble_eq_true rfl : 72 < 152) hN) (by decide) rfl rfl ⟨Nat.le_of_ble_eq_true rfl, Nat.le_of_ble_eq_true rfl⟩ ⟨Nat.le_refl 0, Nat.le_refl 0⟩ (As := [.int x3, .int x2]) (st := []) rfl (Nat.le_of_ble_eq_true rfl) (dOk_at dt_X9_law 19 rfl) (fun h_10 _ => ?_)
          refine j_aload_n hC 0 rfl rfl (dOk_at dt_X9_law 20 rfl) ?_
          refine j_getR hC flX9_38 (show shp 0 = (9, 12) from rfl) (Nat.lt_of_lt_of_le (Nat.le_of_ble_eq_true rfl : 0 < 152) hN) (by decide) (by decide) (fun _ _ _ => rfl) (fun hs => hs 0 5 72 rfl) (dOk_at dt_X9_law 21 rfl) ?_
          refine j_iload_n hC 1 rfl rfl (dOk_at dt_X9_law 22 rfl) ?_
          refine j_callVl hC clX9_190 (fun rz hrz => c_X8_lawValue hN ((show shp 72 = (8, 15) from rfl)) _ _ rz hrz) (show shp 72 = (8, 15) from rfl) (Nat.lt_of_lt_of_le (Nat.le_of_ble_eq_true rfl : 72 < 152) hN) (by decide) rfl rfl ⟨Nat.le_of_ble_eq_true rfl, Nat.le_of_ble_eq_true rfl⟩ ⟨Nat.le_refl 0, Nat.le_refl 0⟩ (As := [.int x1]) (st := []) rfl (Nat.le_of_ble_eq_true rfl) (dOk_at dt_X9_law 23 rfl) (fun v_11 h_12 _ => ?_)
          exact j_lret hC hret (dOk_at dt_X9_law 24 rfl)
        · refine j_ldc2 hC klX9_184 (dOk_at dt_X9_law 13 rfl) ?_
          exact j_lret hC hret (dOk_at dt_X9_law 14 rfl)
def tb_X9_debate : List (Nat × Instr × Nat) := [(0, .aload_n 0, 1), (1, .iload_n 1, 1), (2, .invokevirtual 168, 3), (5, .ifCond .eq 11, 3), (8, .aload_n 0, 1), (9, .iload_n 2, 1), (10, .invokevirtual 156, 3), (13, .ifCond .ne 5, 3), (16, .iconst (-1), 1), (17, .ireturn, 1), (18, .aload_n 0, 1), (19, .getfield 38, 3), (22, .iload_n 2, 1), (23, .invokevirtual 165, 3), (26, .ifCond .eq 6, 3), (29, .bipush (-2), 2), (31, .ireturn, 1), (32, .aload_n 0, 1), (33, .getfield 55, 3), (36, .aload_n 0, 1), (37, .getfield 38, 3), (40, .iload_n 1, 1), (41, .iload_n 2, 1), (42, .invokevirtual 194, 3), (45, .aload_n 0, 1), (46, .getfield 38, 3), (49, .iload_n 1, 1), (50, .iload_n 2, 1), (51, .invokevirtual 198, 3), (54, .ifCond .eq 7, 3), (57, .iconst 1, 1), (58, .goto 4, 3), (61, .iconst 0, 1), (62, .ireturn, 1)]
theorem dt_X9_debate : dOk cX9_debate tb_X9_debate = true := by decide +kernel
def fX9_debate (h : Hp) (x1 : Int32) (x2 : Int32) : Option (Int32 × Hp) := bnd (fX9_isMember h x1) (fun v_1 h_2 => if v_1 = 0 then (some ((-1 : Int32), h_2)) else (bnd (fX9_isStraw h_2 x2) (fun v_4 h_5 => if v_4 = 0 then (some ((-1 : Int32), h_5)) else (bnd (fX8_inShed 72 h_5 x2) (fun v_7 h_8 => if v_7 = 0 then ((fX4_record 72 h_8 x1 x2).bind (fun h_11 => bnd (fX8_contend 72 h_11 x1 x2) (fun v_12 h_13 => if v_12 = 0 then (some ((0 : Int32), h_13)) else (some ((1 : Int32), h_13))))) else (some ((-2 : Int32), h_8)))))))
set_option maxRecDepth 100000 in
set_option maxHeartbeats 4000000 in
theorem c_X9_debate {l : Launch} {sb : State} {D : va_G} {ids : Nat → ClassId} {n : Nat} (hN : 152 ≤ n) (h : Hp) (x1 : Int32) (x2 : Int32) (r : Int32 × Hp) (hr : fX9_debate h x1 x2 = some r) : jM l yX9_debate cX9_debate 3 (some .int) 5 sb D ids shp St n [.ref 0, .int x1, .int x2] h (jQi sb D ids shp St n r) := by
  refine jM_of hr rfl (Nat.le_of_ble_eq_true rfl) ?_
  intro p e s m args below meth c hC hret
  unfold fX9_debate
  refine j_aload_n hC 0 rfl rfl (dOk_at dt_X9_debate 0 rfl) ?_
  refine j_iload_n hC 1 rfl rfl (dOk_at dt_X9_debate 1 rfl) ?_
  refine j_callVi hC clX9_168 (fun rz hrz => c_X9_isMember hN _ _ rz hrz) (show shp 0 = (9, 12) from rfl) (Nat.lt_of_lt_of_le (Nat.le_of_ble_eq_true rfl : 0 < 152) hN) (by decide) rfl rfl ⟨Nat.le_of_ble_eq_true rfl, Nat.le_of_ble_eq_true rfl⟩ ⟨Nat.le_refl 0, Nat.le_refl 0⟩ (As := [.int x1]) (st := []) rfl (Nat.le_of_ble_eq_true rfl) (dOk_at dt_X9_debate 2 rfl) (fun v_1 h_2 _ => ?_)
  refine j_if_eq hC (tgt := 16) (by decide) (dOk_at dt_X9_debate 3 rfl) (fun q_3 => ?_) (fun q_3 => ?_)
  · refine j_iconst hC (v := (-1 : Int32)) rfl (dOk_at dt_X9_debate 8 rfl) ?_
    exact j_iret hC hret (dOk_at dt_X9_debate 9 rfl)
  · refine j_aload_n hC 0 rfl rfl (dOk_at dt_X9_debate 4 rfl) ?_
    refine j_iload_n hC 2 rfl rfl (dOk_at dt_X9_debate 5 rfl) ?_
    refine j_callVi hC clX9_156 (fun rz hrz => c_X9_isStraw hN _ _ rz hrz) (show shp 0 = (9, 12) from rfl) (Nat.lt_of_lt_of_le (Nat.le_of_ble_eq_true rfl : 0 < 152) hN) (by decide) rfl rfl ⟨Nat.le_of_ble_eq_true rfl, Nat.le_of_ble_eq_true rfl⟩ ⟨Nat.le_refl 0, Nat.le_refl 0⟩ (As := [.int x2]) (st := []) rfl (Nat.le_of_ble_eq_true rfl) (dOk_at dt_X9_debate 6 rfl) (fun v_4 h_5 _ => ?_)
    refine j_if_ne hC (tgt := 18) (by decide) (dOk_at dt_X9_debate 7 rfl) (fun q_6 => ?_) (fun q_6 => ?_)
    · refine j_aload_n hC 0 rfl rfl (dOk_at dt_X9_debate 10 rfl) ?_
      refine j_getR hC flX9_38 (show shp 0 = (9, 12) from rfl) (Nat.lt_of_lt_of_le (Nat.le_of_ble_eq_true rfl : 0 < 152) hN) (by decide) (by decide) (fun _ _ _ => rfl) (fun hs => hs 0 5 72 rfl) (dOk_at dt_X9_debate 11 rfl) ?_
      refine j_iload_n hC 2 rfl rfl (dOk_at dt_X9_debate 12 rfl) ?_
      refine j_callVi hC clX9_165 (fun rz hrz => c_X8_inShed hN ((show shp 72 = (8, 15) from rfl)) _ _ rz hrz) (show shp 72 = (8, 15) from rfl) (Nat.lt_of_lt_of_le (Nat.le_of_ble_eq_true rfl : 72 < 152) hN) (by decide) rfl rfl ⟨Nat.le_of_ble_eq_true rfl, Nat.le_of_ble_eq_true rfl⟩ ⟨Nat.le_refl 0, Nat.le_refl 0⟩ (As := [.int x2]) (st := []) rfl (Nat.le_of_ble_eq_true rfl) (dOk_at dt_X9_debate 13 rfl) (fun v_7 h_8 _ => ?_)
      refine j_if_eq hC (tgt := 32) (by decide) (dOk_at dt_X9_debate 14 rfl) (fun q_9 => ?_) (fun q_9 => ?_)
      · refine j_aload_n hC 0 rfl rfl (dOk_at dt_X9_debate 17 rfl) ?_
        refine j_getR hC flX9_55 (show shp 0 = (9, 12) from rfl) (Nat.lt_of_lt_of_le (Nat.le_of_ble_eq_true rfl : 0 < 152) hN) (by decide) (by decide) (fun _ _ _ => rfl) (fun hs => hs 0 9 90 rfl) (dOk_at dt_X9_debate 18 rfl) ?_
        refine j_aload_n hC 0 rfl rfl (dOk_at dt_X9_debate 19 rfl) ?_
        refine j_getR hC flX9_38 (show shp 0 = (9, 12) from rfl) (Nat.lt_of_lt_of_le (Nat.le_of_ble_eq_true rfl : 0 < 152) hN) (by decide) (by decide) (fun _ _ _ => rfl) (fun hs => hs 0 5 72 rfl) (dOk_at dt_X9_debate 20 rfl) ?_
        refine j_iload_n hC 1 rfl rfl (dOk_at dt_X9_debate 21 rfl) ?_
        refine j_iload_n hC 2 rfl rfl (dOk_at dt_X9_debate 22 rfl) ?_
        refine j_callVv hC clX9_194 (fun rz hrz => c_X4_record hN ((show shp 72 = (8, 15) from rfl)) _ _ _ rz hrz) (show shp 90 = (4, 8) from rfl) (Nat.lt_of_lt_of_le (Nat.le_of_ble_eq_true rfl : 90 < 152) hN) (by decide) rfl rfl ⟨Nat.le_of_ble_eq_true rfl, Nat.le_of_ble_eq_true rfl⟩ ⟨Nat.le_refl 0, Nat.le_refl 0⟩ (As := [.ref 72, .int x1, .int x2]) (st := []) rfl (Nat.le_of_ble_eq_true rfl) (dOk_at dt_X9_debate 23 rfl) (fun h_11 _ => ?_)
        refine j_aload_n hC 0 rfl rfl (dOk_at dt_X9_debate 24 rfl) ?_
        refine j_getR hC flX9_38 (show shp 0 = (9, 12) from rfl) (Nat.lt_of_lt_of_le (Nat.le_of_ble_eq_true rfl : 0 < 152) hN) (by decide) (by decide) (fun _ _ _ => rfl) (fun hs => hs 0 5 72 rfl) (dOk_at dt_X9_debate 25 rfl) ?_
        refine j_iload_n hC 1 rfl rfl (dOk_at dt_X9_debate 26 rfl) ?_
        refine j_iload_n hC 2 rfl rfl (dOk_at dt_X9_debate 27 rfl) ?_
        refine j_callVi hC clX9_198 (fun rz hrz => c_X8_contend hN ((show shp 72 = (8, 15) from rfl)) _ _ _ rz hrz) (show shp 72 = (8, 15) from rfl) (Nat.lt_of_lt_of_le (Nat.le_of_ble_eq_true rfl : 72 < 152) hN) (by decide) rfl rfl ⟨Nat.le_of_ble_eq_true rfl, Nat.le_of_ble_eq_true rfl⟩ ⟨Nat.le_refl 0, Nat.le_refl 0⟩ (As := [.int x1, .int x2]) (st := []) rfl (Nat.le_of_ble_eq_true rfl) (dOk_at dt_X9_debate 28 rfl) (fun v_12 h_13 _ => ?_)
        refine j_if_eq hC (tgt := 61) (by decide) (dOk_at dt_X9_debate 29 rfl) (fun q_14 => ?_) (fun q_14 => ?_)
        · refine j_iconst hC (v := (0 : Int32)) rfl (dOk_at dt_X9_debate 32 rfl) ?_
          exact j_iret hC hret (dOk_at dt_X9_debate 33 rfl)
        · refine j_iconst hC (v := (1 : Int32)) rfl (dOk_at dt_X9_debate 30 rfl) ?_
          refine j_goto hC (tgt := 62) (by decide) (dOk_at dt_X9_debate 31 rfl) ?_
          exact j_iret hC hret (dOk_at dt_X9_debate 33 rfl)
      · refine j_bipush hC (v := (-2 : Int32)) rfl (dOk_at dt_X9_debate 15 rfl) ?_
        exact j_iret hC hret (dOk_at dt_X9_debate 16 rfl)
    · refine j_iconst hC (v := (-1 : Int32)) rfl (dOk_at dt_X9_debate 8 rfl) ?_
      exact j_iret hC hret (dOk_at dt_X9_debate 9 rfl)
