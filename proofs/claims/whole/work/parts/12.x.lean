def tb_X3_withStraw : List (Nat × Instr × Nat) := [(0, .iload_n 1, 1), (1, .ifCond .lt 25, 3), (4, .iload_n 1, 1), (5, .iconst 5, 1), (6, .if_icmp .ge 20, 3), (9, .aload_n 0, 1), (10, .getfield 15, 3), (13, .iload_n 1, 1), (14, .iaload, 1), (15, .iload_n 2, 1), (16, .iconst (-1), 1), (17, .ixor, 1), (18, .iand, 1), (19, .iload_n 3, 1), (20, .ishr, 1), (21, .iconst 1, 1), (22, .iand, 1), (23, .ifCond .ne 5, 3), (26, .iconst (-1), 1), (27, .ireturn, 1), (28, .iconst 1, 1), (29, .aload_n 0, 1), (30, .iload_n 1, 1), (31, .iconst 1, 1), (32, .iadd, 1), (33, .iload_n 2, 1), (34, .iconst 1, 1), (35, .iload_n 3, 1), (36, .ishl, 1), (37, .ior, 1), (38, .invokevirtual 50, 3), (41, .iadd, 1), (42, .ireturn, 1)]
theorem dt_X3_withStraw : dOk cX3_withStraw tb_X3_withStraw = true := by decide +kernel
def fX3_withStraw (h : Hp) (x1 : Int32) (x2 : Int32) (x3 : Int32) : Option (Int32 × Hp) := if x1 < 0 then (some ((-1 : Int32), h)) else (if (5 : Int32) ≤ x1 then (some ((-1 : Int32), h)) else (if inb x1 5 then (if ((((hI h 104 (Int32.toNatClampNeg x1)) &&& (x2 ^^^ (-1 : Int32))) >>> (x3 &&& 31)) &&& (1 : Int32)) = 0 then (some ((-1 : Int32), h)) else (bnd (fX3_pairsFrom h (x1 + (1 : Int32)) (x2 ||| ((1 : Int32) <<< (x3 &&& 31)))) (fun v_4 h_5 => some (((1 : Int32) + v_4), h_5)))) else none))
set_option maxRecDepth 100000 in
set_option maxHeartbeats 4000000 in
theorem c_X3_withStraw {l : Launch} {sb : State} {D : va_G} {ids : Nat → ClassId} {n : Nat} (hN : 152 ≤ n) (h : Hp) (x1 : Int32) (x2 : Int32) (x3 : Int32) (r : Int32 × Hp) (hr : fX3_withStraw h x1 x2 x3 = some r) : jM l yX3_withStraw cX3_withStraw 4 (some .int) 1 sb D ids shp St n [.ref 103, .int x1, .int x2, .int x3] h (jQi sb D ids shp St n r) := by
  refine jM_of hr rfl (Nat.le_of_ble_eq_true rfl) ?_
  intro p e s m args below meth c hC hret
  unfold fX3_withStraw
  refine j_iload_n hC 1 rfl rfl (dOk_at dt_X3_withStraw 0 rfl) ?_
  refine j_if_lt hC (tgt := 26) (by decide) (dOk_at dt_X3_withStraw 1 rfl) (fun q_1 => ?_) (fun q_1 => ?_)
  · refine j_iconst hC (v := (-1 : Int32)) rfl (dOk_at dt_X3_withStraw 18 rfl) ?_
    exact j_iret hC hret (dOk_at dt_X3_withStraw 19 rfl)
  · refine j_iload_n hC 1 rfl rfl (dOk_at dt_X3_withStraw 2 rfl) ?_
    refine j_iconst hC (v := (5 : Int32)) rfl (dOk_at dt_X3_withStraw 3 rfl) ?_
    refine j_icmp_ge hC (tgt := 26) (by decide) (dOk_at dt_X3_withStraw 4 rfl) (fun q_2 => ?_) (fun q_2 => ?_)
    · refine j_iconst hC (v := (-1 : Int32)) rfl (dOk_at dt_X3_withStraw 18 rfl) ?_
      exact j_iret hC hret (dOk_at dt_X3_withStraw 19 rfl)
    · refine j_aload_n hC 0 rfl rfl (dOk_at dt_X3_withStraw 5 rfl) ?_
      refine j_getR hC flX3_15 (show shp 103 = (3, 4) from rfl) (Nat.lt_of_lt_of_le (Nat.le_of_ble_eq_true rfl : 103 < 152) hN) (by decide) (by decide) (fun _ _ _ => rfl) (fun hs => hs 103 1 104 rfl) (dOk_at dt_X3_withStraw 6 rfl) ?_
      refine j_iload_n hC 1 rfl rfl (dOk_at dt_X3_withStraw 7 rfl) ?_
      refine j_iald hC (show shp 104 = (21, 5) from rfl) (Nat.lt_of_lt_of_le (Nat.le_of_ble_eq_true rfl : 104 < 152) hN) (dOk_at dt_X3_withStraw 8 rfl) ?_
      refine j_iload_n hC 2 rfl rfl (dOk_at dt_X3_withStraw 9 rfl) ?_
      refine j_iconst hC (v := (-1 : Int32)) rfl (dOk_at dt_X3_withStraw 10 rfl) ?_
      refine j_ixor hC (dOk_at dt_X3_withStraw 11 rfl) ?_
      refine j_iand hC (dOk_at dt_X3_withStraw 12 rfl) ?_
      refine j_iload_n hC 3 rfl rfl (dOk_at dt_X3_withStraw 13 rfl) ?_
      refine j_ishr hC (dOk_at dt_X3_withStraw 14 rfl) ?_
      refine j_iconst hC (v := (1 : Int32)) rfl (dOk_at dt_X3_withStraw 15 rfl) ?_
      refine j_iand hC (dOk_at dt_X3_withStraw 16 rfl) ?_
      refine j_if_ne hC (tgt := 28) (by decide) (dOk_at dt_X3_withStraw 17 rfl) (fun q_3 => ?_) (fun q_3 => ?_)
      · refine j_iconst hC (v := (1 : Int32)) rfl (dOk_at dt_X3_withStraw 20 rfl) ?_
        refine j_aload_n hC 0 rfl rfl (dOk_at dt_X3_withStraw 21 rfl) ?_
        refine j_iload_n hC 1 rfl rfl (dOk_at dt_X3_withStraw 22 rfl) ?_
        refine j_iconst hC (v := (1 : Int32)) rfl (dOk_at dt_X3_withStraw 23 rfl) ?_
        refine j_iadd hC (dOk_at dt_X3_withStraw 24 rfl) ?_
        refine j_iload_n hC 2 rfl rfl (dOk_at dt_X3_withStraw 25 rfl) ?_
        refine j_iconst hC (v := (1 : Int32)) rfl (dOk_at dt_X3_withStraw 26 rfl) ?_
        refine j_iload_n hC 3 rfl rfl (dOk_at dt_X3_withStraw 27 rfl) ?_
        refine j_ishl hC (dOk_at dt_X3_withStraw 28 rfl) ?_
        refine j_ior hC (dOk_at dt_X3_withStraw 29 rfl) ?_
        refine j_callVi hC clX3_50 (fun rz hrz => c_X3_pairsFrom hN _ _ _ rz hrz) (show shp 103 = (3, 4) from rfl) (Nat.lt_of_lt_of_le (Nat.le_of_ble_eq_true rfl : 103 < 152) hN) (by decide) rfl rfl ⟨Nat.le_of_ble_eq_true rfl, Nat.le_of_ble_eq_true rfl⟩ ⟨Nat.le_refl 0, Nat.le_refl 0⟩ (As := [.int (x1 + (1 : Int32)), .int (x2 ||| ((1 : Int32) <<< (x3 &&& 31)))]) (st := [.int (1 : Int32)]) rfl (Nat.le_of_ble_eq_true rfl) (dOk_at dt_X3_withStraw 30 rfl) (fun v_4 h_5 _ => ?_)
        refine j_iadd hC (dOk_at dt_X3_withStraw 31 rfl) ?_
        exact j_iret hC hret (dOk_at dt_X3_withStraw 32 rfl)
      · refine j_iconst hC (v := (-1 : Int32)) rfl (dOk_at dt_X3_withStraw 18 rfl) ?_
        exact j_iret hC hret (dOk_at dt_X3_withStraw 19 rfl)
def tb_X3_mostFrom : List (Nat × Instr × Nat) := [(0, .aload_n 0, 1), (1, .iload_n 1, 1), (2, .iconst 1, 1), (3, .iadd, 1), (4, .iload_n 2, 1), (5, .invokevirtual 50, 3), (8, .istore_n 3, 1), (9, .iconst 0, 1), (10, .istore 4, 2), (12, .iload 4, 2), (14, .iconst 5, 1), (15, .if_icmp .ge 22, 3), (18, .iload_n 3, 1), (19, .aload_n 0, 1), (20, .iload_n 1, 1), (21, .iload_n 2, 1), (22, .iload 4, 2), (24, .invokevirtual 66, 3), (27, .invokestatic 70, 3), (30, .istore_n 3, 1), (31, .iinc 4 1, 3), (34, .goto (-22), 3), (37, .iload_n 3, 1), (38, .ireturn, 1)]
theorem dt_X3_mostFrom : dOk cX3_mostFrom tb_X3_mostFrom = true := by decide +kernel
def fX3_mostFrom_12 : Nat → Hp → Int32 → Int32 → Int32 → Int32 → Option (Int32 × Hp)
  | 0, _, _, _, _, _ => none
  | fu + 1, h, x1, x2, x3, x4 => if (5 : Int32) ≤ x4 then (some (x3, h)) else (bnd (fX3_withStraw h x1 x2 x4) (fun v_4 h_5 => (fX3_mostFrom_12 fu) h_5 x1 x2 (if x3 < v_4 then v_4 else x3) (x4 + (1 : Int32))))
def fX3_mostFrom (h : Hp) (x1 : Int32) (x2 : Int32) : Option (Int32 × Hp) := bnd (fX3_pairsFrom h (x1 + (1 : Int32)) x2) (fun v_1 h_2 => fX3_mostFrom_12 FU h_2 x1 x2 v_1 (0 : Int32))
set_option maxRecDepth 100000 in
set_option maxHeartbeats 4000000 in
theorem c_X3_mostFrom {l : Launch} {sb : State} {D : va_G} {ids : Nat → ClassId} {n : Nat} (hN : 152 ≤ n) (h : Hp) (x1 : Int32) (x2 : Int32) (r : Int32 × Hp) (hr : fX3_mostFrom h x1 x2 = some r) : jM l yX3_mostFrom cX3_mostFrom 5 (some .int) 2 sb D ids shp St n [.ref 103, .int x1, .int x2] h (jQi sb D ids shp St n r) := by
  refine jM_of hr rfl (Nat.le_of_ble_eq_true rfl) ?_
  intro p e s m args below meth c hC hret
  have b12 : ∀ (fu : Nat) (h : Hp) (x1 : Int32) (x2 : Int32) (x3 : Int32) (x4 : Int32) , jJ p l e (rmD 2) s m args below meth c 5 sb D ids shp St (fun r => MQ below (jQi sb D ids shp St n r) args s 0 0 (jA sb)) n 0 0 h 12 [(0, .ref 103), (1, .int x1), (2, .int x2), (3, .int x3), (4, .int x4)] [] (fX3_mostFrom_12 fu h x1 x2 x3 x4) := by
    intro fu 
    induction fu with
    | zero => intro h x1 x2 x3 x4 ; exact j_none
    | succ fu ih =>
    intro h x1 x2 x3 x4 
    rw [fX3_mostFrom_12]
    refine j_iload hC 4 rfl (dOk_at dt_X3_mostFrom 9 rfl) ?_
    refine j_iconst hC (v := (5 : Int32)) rfl (dOk_at dt_X3_mostFrom 10 rfl) ?_
    refine j_icmp_ge hC (tgt := 37) (by decide) (dOk_at dt_X3_mostFrom 11 rfl) (fun q_3 => ?_) (fun q_3 => ?_)
    · refine j_iload_n hC 3 rfl rfl (dOk_at dt_X3_mostFrom 22 rfl) ?_
      exact j_iret hC hret (dOk_at dt_X3_mostFrom 23 rfl)
    · refine j_iload_n hC 3 rfl rfl (dOk_at dt_X3_mostFrom 12 rfl) ?_
      refine j_aload_n hC 0 rfl rfl (dOk_at dt_X3_mostFrom 13 rfl) ?_
      refine j_iload_n hC 1 rfl rfl (dOk_at dt_X3_mostFrom 14 rfl) ?_
      refine j_iload_n hC 2 rfl rfl (dOk_at dt_X3_mostFrom 15 rfl) ?_
      refine j_iload hC 4 rfl (dOk_at dt_X3_mostFrom 16 rfl) ?_
      refine j_callVi hC clX3_66 (fun rz hrz => c_X3_withStraw hN _ _ _ _ rz hrz) (show shp 103 = (3, 4) from rfl) (Nat.lt_of_lt_of_le (Nat.le_of_ble_eq_true rfl : 103 < 152) hN) (by decide) rfl rfl ⟨Nat.le_of_ble_eq_true rfl, Nat.le_of_ble_eq_true rfl⟩ ⟨Nat.le_refl 0, Nat.le_refl 0⟩ (As := [.int x1, .int x2, .int x4]) (st := [.int x3]) rfl (Nat.le_of_ble_eq_true rfl) (dOk_at dt_X3_mostFrom 17 rfl) (fun v_4 h_5 _ => ?_)
      refine j_mmax hC mtX3_70 ⟨Nat.le_of_ble_eq_true rfl, Nat.le_of_ble_eq_true rfl⟩ ⟨Nat.le_refl 0, Nat.le_refl 0⟩ (Nat.le_of_ble_eq_true rfl) (dOk_at dt_X3_mostFrom 18 rfl) ?_
      refine j_istore_n hC rfl (lv' := [(3, .int (if x3 < v_4 then v_4 else x3)), (0, .ref 103), (1, .int x1), (2, .int x2), (4, .int x4)]) (by decide) rfl (dOk_at dt_X3_mostFrom 19 rfl) ?_
      refine j_iinc hC (v := (x4 + (1 : Int32))) (lv' := [(4, .int (x4 + (1 : Int32))), (3, .int (if x3 < v_4 then v_4 else x3)), (0, .ref 103), (1, .int x1), (2, .int x2)]) 4 rfl (congrArg (fun z => x4 + z) (show Int32.ofInt (1) = (1 : Int32) from by decide)) (by decide) rfl (dOk_at dt_X3_mostFrom 20 rfl) ?_
      refine j_goto hC (tgt := 12) (by decide) (dOk_at dt_X3_mostFrom 21 rfl) ?_
      refine j_sub [2, 3, 4, 1, 0] rfl ?_
      exact ih h_5 x1 x2 (if x3 < v_4 then v_4 else x3) (x4 + (1 : Int32)) 
  unfold fX3_mostFrom
  refine j_aload_n hC 0 rfl rfl (dOk_at dt_X3_mostFrom 0 rfl) ?_
  refine j_iload_n hC 1 rfl rfl (dOk_at dt_X3_mostFrom 1 rfl) ?_
  refine j_iconst hC (v := (1 : Int32)) rfl (dOk_at dt_X3_mostFrom 2 rfl) ?_
  refine j_iadd hC (dOk_at dt_X3_mostFrom 3 rfl) ?_
  refine j_iload_n hC 2 rfl rfl (dOk_at dt_X3_mostFrom 4 rfl) ?_
  refine j_callVi hC clX3_50 (fun rz hrz => c_X3_pairsFrom hN _ _ _ rz hrz) (show shp 103 = (3, 4) from rfl) (Nat.lt_of_lt_of_le (Nat.le_of_ble_eq_true rfl : 103 < 152) hN) (by decide) rfl rfl ⟨Nat.le_of_ble_eq_true rfl, Nat.le_of_ble_eq_true rfl⟩ ⟨Nat.le_refl 0, Nat.le_refl 0⟩ (As := [.int (x1 + (1 : Int32)), .int x2]) (st := []) rfl (Nat.le_of_ble_eq_true rfl) (dOk_at dt_X3_mostFrom 5 rfl) (fun v_1 h_2 _ => ?_)
  refine j_istore_n hC rfl (lv' := [(3, .int v_1), (0, .ref 103), (1, .int x1), (2, .int x2)]) (by decide) rfl (dOk_at dt_X3_mostFrom 6 rfl) ?_
  refine j_iconst hC (v := (0 : Int32)) rfl (dOk_at dt_X3_mostFrom 7 rfl) ?_
  refine j_istore hC (lv' := [(4, .int (0 : Int32)), (3, .int v_1), (0, .ref 103), (1, .int x1), (2, .int x2)]) (by decide) rfl (dOk_at dt_X3_mostFrom 8 rfl) ?_
  refine j_sub [2, 3, 4, 1, 0] rfl ?_
  exact b12 FU h_2 x1 x2 v_1 (0 : Int32) 
def tb_X3_choose : List (Nat × Instr × Nat) := [(0, .iconst 0, 1), (1, .istore_n 1, 1), (2, .iconst 0, 1), (3, .istore_n 2, 1), (4, .iload_n 2, 1), (5, .iconst 5, 1), (6, .if_icmp .ge 92, 3), (9, .aload_n 0, 1), (10, .getfield 19, 3), (13, .iload_n 2, 1), (14, .bipush (-2), 2), (16, .iastore, 1), (17, .aload_n 0, 1), (18, .iload_n 2, 1), (19, .iload_n 1, 1), (20, .invokevirtual 50, 3), (23, .istore_n 3, 1), (24, .iconst 0, 1), (25, .istore 4, 2), (27, .iload 4, 2), (29, .iconst 5, 1), (30, .if_icmp .ge 40, 3), (33, .aload_n 0, 1), (34, .getfield 19, 3), (37, .iload_n 2, 1), (38, .iaload, 1), (39, .bipush (-2), 2), (41, .if_icmp .ne 29, 3), (44, .aload_n 0, 1), (45, .iload_n 2, 1), (46, .iload_n 1, 1), (47, .iload 4, 2), (49, .invokevirtual 66, 3), (52, .iload_n 3, 1), (53, .if_icmp .ne 11, 3), (56, .aload_n 0, 1), (57, .getfield 19, 3), (60, .iload_n 2, 1), (61, .iload 4, 2), (63, .iastore, 1), (64, .iinc 4 1, 3), (67, .goto (-40), 3), (70, .aload_n 0, 1), (71, .getfield 19, 3), (74, .iload_n 2, 1), (75, .iaload, 1), (76, .bipush (-2), 2), (78, .if_icmp .eq 14, 3), (81, .iload_n 1, 1), (82, .iconst 1, 1), (83, .aload_n 0, 1), (84, .getfield 19, 3), (87, .iload_n 2, 1), (88, .iaload, 1), (89, .ishl, 1), (90, .ior, 1), (91, .istore_n 1, 1), (92, .iinc 2 1, 3), (95, .goto (-91), 3), (98, .return_, 1)]
theorem dt_X3_choose : dOk cX3_choose tb_X3_choose = true := by decide +kernel
def fX3_choose_92 (rec4 : Hp → Int32 → Int32 → Option (Hp)) (h : Hp) (x1 : Int32) (x2 : Int32) : Option (Hp) := rec4 h x1 (x2 + (1 : Int32))
def fX3_choose_70 (rec4 : Hp → Int32 → Int32 → Option (Hp)) (h : Hp) (x1 : Int32) (x2 : Int32) : Option (Hp) := if inb x2 5 then (if (hI h 105 (Int32.toNatClampNeg x2)) = (-2 : Int32) then (fX3_choose_92 rec4 h x1 x2) else (if inb x2 5 then (fX3_choose_92 rec4 h (x1 ||| ((1 : Int32) <<< ((hI h 105 (Int32.toNatClampNeg x2)) &&& 31))) x2) else none)) else none
def fX3_choose_64 (rec4 : Hp → Int32 → Int32 → Option (Hp)) (rec27 : Hp → Int32 → Int32 → Int32 → Int32 → Option (Hp)) (h : Hp) (x1 : Int32) (x2 : Int32) (x3 : Int32) (x4 : Int32) : Option (Hp) := rec27 h x1 x2 x3 (x4 + (1 : Int32))
def fX3_choose_27 : Nat → (Hp → Int32 → Int32 → Option (Hp)) → Hp → Int32 → Int32 → Int32 → Int32 → Option (Hp)
  | 0, _, _, _, _, _, _ => none
  | fu + 1, rec4, h, x1, x2, x3, x4 => if (5 : Int32) ≤ x4 then (fX3_choose_70 rec4 h x1 x2) else (if inb x2 5 then (if (hI h 105 (Int32.toNatClampNeg x2)) = (-2 : Int32) then (bnd (fX3_withStraw h x2 x1 x4) (fun v_6 h_7 => if v_6 = x3 then (if inb x2 5 then (fX3_choose_64 rec4 (fX3_choose_27 fu rec4) (uI h_7 105 (Int32.toNatClampNeg x2) x4) x1 x2 x3 x4) else none) else (fX3_choose_64 rec4 (fX3_choose_27 fu rec4) h_7 x1 x2 x3 x4))) else (fX3_choose_70 rec4 h x1 x2)) else none)
def fX3_choose_4 : Nat → Hp → Int32 → Int32 → Option (Hp)
  | 0, _, _, _ => none
  | fu + 1, h, x1, x2 => if (5 : Int32) ≤ x2 then (some h) else (if inb x2 5 then (bnd (fX3_pairsFrom (uI h 105 (Int32.toNatClampNeg x2) (-2 : Int32)) x2 x1) (fun v_2 h_3 => fX3_choose_27 FU (fX3_choose_4 fu) h_3 x1 x2 v_2 (0 : Int32))) else none)
def fX3_choose (h : Hp) : Option (Hp) := fX3_choose_4 FU h (0 : Int32) (0 : Int32)
set_option maxRecDepth 100000 in
set_option maxHeartbeats 4000000 in
theorem c_X3_choose {l : Launch} {sb : State} {D : va_G} {ids : Nat → ClassId} {n : Nat} (hN : 152 ≤ n) (h : Hp) (r : Hp) (hr : fX3_choose h = some r) : jM l yX3_choose cX3_choose 5 none 2 sb D ids shp St n [.ref 103] h (jQv sb D ids shp St n r) := by
  refine jM_of hr rfl (Nat.le_of_ble_eq_true rfl) ?_
  intro p e s m args below meth c hC hret
  have b92 : ∀ (rec4 : Hp → Int32 → Int32 → Option (Hp)) (hrec4 : ∀ (h : Hp) (x1 : Int32) (x2 : Int32) , jJ p l e (rmD 2) s m args below meth c 5 sb D ids shp St (fun r => MQ below (jQv sb D ids shp St n r) args s 0 0 (jA sb)) n 0 0 h 4 [(0, .ref 103), (1, .int x1), (2, .int x2)] [] (rec4 h x1 x2)) (h : Hp) (x1 : Int32) (x2 : Int32) , jJ p l e (rmD 2) s m args below meth c 5 sb D ids shp St (fun r => MQ below (jQv sb D ids shp St n r) args s 0 0 (jA sb)) n 0 0 h 92 [(0, .ref 103), (1, .int x1), (2, .int x2)] [] (fX3_choose_92 rec4 h x1 x2) := by
    intro rec4 hrec4 h x1 x2 
    unfold fX3_choose_92
    refine j_iinc hC (v := (x2 + (1 : Int32))) (lv' := [(2, .int (x2 + (1 : Int32))), (0, .ref 103), (1, .int x1)]) 2 rfl (congrArg (fun z => x2 + z) (show Int32.ofInt (1) = (1 : Int32) from by decide)) (by decide) rfl (dOk_at dt_X3_choose 57 rfl) ?_
    refine j_goto hC (tgt := 4) (by decide) (dOk_at dt_X3_choose 58 rfl) ?_
    refine j_sub [1, 2, 0] rfl ?_
    exact hrec4 h x1 (x2 + (1 : Int32)) 
  have b70 : ∀ (rec4 : Hp → Int32 → Int32 → Option (Hp)) (hrec4 : ∀ (h : Hp) (x1 : Int32) (x2 : Int32) , jJ p l e (rmD 2) s m args below meth c 5 sb D ids shp St (fun r => MQ below (jQv sb D ids shp St n r) args s 0 0 (jA sb)) n 0 0 h 4 [(0, .ref 103), (1, .int x1), (2, .int x2)] [] (rec4 h x1 x2)) (h : Hp) (x1 : Int32) (x2 : Int32) , jJ p l e (rmD 2) s m args below meth c 5 sb D ids shp St (fun r => MQ below (jQv sb D ids shp St n r) args s 0 0 (jA sb)) n 0 0 h 70 [(0, .ref 103), (1, .int x1), (2, .int x2)] [] (fX3_choose_70 rec4 h x1 x2) := by
    intro rec4 hrec4 h x1 x2 
    unfold fX3_choose_70
    refine j_aload_n hC 0 rfl rfl (dOk_at dt_X3_choose 42 rfl) ?_
    refine j_getR hC flX3_19 (show shp 103 = (3, 4) from rfl) (Nat.lt_of_lt_of_le (Nat.le_of_ble_eq_true rfl : 103 < 152) hN) (by decide) (by decide) (fun _ _ _ => rfl) (fun hs => hs 103 2 105 rfl) (dOk_at dt_X3_choose 43 rfl) ?_
    refine j_iload_n hC 2 rfl rfl (dOk_at dt_X3_choose 44 rfl) ?_
    refine j_iald hC (show shp 105 = (21, 5) from rfl) (Nat.lt_of_lt_of_le (Nat.le_of_ble_eq_true rfl : 105 < 152) hN) (dOk_at dt_X3_choose 45 rfl) ?_
    refine j_bipush hC (v := (-2 : Int32)) rfl (dOk_at dt_X3_choose 46 rfl) ?_
    refine j_icmp_eq hC (tgt := 92) (by decide) (dOk_at dt_X3_choose 47 rfl) (fun q_9 => ?_) (fun q_9 => ?_)
    · exact b92 rec4 hrec4 h x1 x2 
    · refine j_iload_n hC 1 rfl rfl (dOk_at dt_X3_choose 48 rfl) ?_
      refine j_iconst hC (v := (1 : Int32)) rfl (dOk_at dt_X3_choose 49 rfl) ?_
      refine j_aload_n hC 0 rfl rfl (dOk_at dt_X3_choose 50 rfl) ?_
      refine j_getR hC flX3_19 (show shp 103 = (3, 4) from rfl) (Nat.lt_of_lt_of_le (Nat.le_of_ble_eq_true rfl : 103 < 152) hN) (by decide) (by decide) (fun _ _ _ => rfl) (fun hs => hs 103 2 105 rfl) (dOk_at dt_X3_choose 51 rfl) ?_
      refine j_iload_n hC 2 rfl rfl (dOk_at dt_X3_choose 52 rfl) ?_
      refine j_iald hC (show shp 105 = (21, 5) from rfl) (Nat.lt_of_lt_of_le (Nat.le_of_ble_eq_true rfl : 105 < 152) hN) (dOk_at dt_X3_choose 53 rfl) ?_
      refine j_ishl hC (dOk_at dt_X3_choose 54 rfl) ?_
      refine j_ior hC (dOk_at dt_X3_choose 55 rfl) ?_
      refine j_istore_n hC rfl (lv' := [(1, .int (x1 ||| ((1 : Int32) <<< ((hI h 105 (Int32.toNatClampNeg x2)) &&& 31)))), (0, .ref 103), (2, .int x2)]) (by decide) rfl (dOk_at dt_X3_choose 56 rfl) ?_
      refine j_sub [1, 0, 2] rfl ?_
      exact b92 rec4 hrec4 h (x1 ||| ((1 : Int32) <<< ((hI h 105 (Int32.toNatClampNeg x2)) &&& 31))) x2 
  have b64 : ∀ (rec4 : Hp → Int32 → Int32 → Option (Hp)) (hrec4 : ∀ (h : Hp) (x1 : Int32) (x2 : Int32) , jJ p l e (rmD 2) s m args below meth c 5 sb D ids shp St (fun r => MQ below (jQv sb D ids shp St n r) args s 0 0 (jA sb)) n 0 0 h 4 [(0, .ref 103), (1, .int x1), (2, .int x2)] [] (rec4 h x1 x2)) (rec27 : Hp → Int32 → Int32 → Int32 → Int32 → Option (Hp)) (hrec27 : ∀ (h : Hp) (x1 : Int32) (x2 : Int32) (x3 : Int32) (x4 : Int32) , jJ p l e (rmD 2) s m args below meth c 5 sb D ids shp St (fun r => MQ below (jQv sb D ids shp St n r) args s 0 0 (jA sb)) n 0 0 h 27 [(0, .ref 103), (1, .int x1), (2, .int x2), (3, .int x3), (4, .int x4)] [] (rec27 h x1 x2 x3 x4)) (h : Hp) (x1 : Int32) (x2 : Int32) (x3 : Int32) (x4 : Int32) , jJ p l e (rmD 2) s m args below meth c 5 sb D ids shp St (fun r => MQ below (jQv sb D ids shp St n r) args s 0 0 (jA sb)) n 0 0 h 64 [(0, .ref 103), (1, .int x1), (2, .int x2), (3, .int x3), (4, .int x4)] [] (fX3_choose_64 rec4 rec27 h x1 x2 x3 x4) := by
    intro rec4 hrec4 rec27 hrec27 h x1 x2 x3 x4 
    unfold fX3_choose_64
    refine j_iinc hC (v := (x4 + (1 : Int32))) (lv' := [(4, .int (x4 + (1 : Int32))), (0, .ref 103), (1, .int x1), (2, .int x2), (3, .int x3)]) 4 rfl (congrArg (fun z => x4 + z) (show Int32.ofInt (1) = (1 : Int32) from by decide)) (by decide) rfl (dOk_at dt_X3_choose 40 rfl) ?_
    refine j_goto hC (tgt := 27) (by decide) (dOk_at dt_X3_choose 41 rfl) ?_
    refine j_sub [1, 2, 3, 4, 0] rfl ?_
    exact hrec27 h x1 x2 x3 (x4 + (1 : Int32)) 
  have b27 : ∀ (fu : Nat) (rec4 : Hp → Int32 → Int32 → Option (Hp)) (hrec4 : ∀ (h : Hp) (x1 : Int32) (x2 : Int32) , jJ p l e (rmD 2) s m args below meth c 5 sb D ids shp St (fun r => MQ below (jQv sb D ids shp St n r) args s 0 0 (jA sb)) n 0 0 h 4 [(0, .ref 103), (1, .int x1), (2, .int x2)] [] (rec4 h x1 x2)) (h : Hp) (x1 : Int32) (x2 : Int32) (x3 : Int32) (x4 : Int32) , jJ p l e (rmD 2) s m args below meth c 5 sb D ids shp St (fun r => MQ below (jQv sb D ids shp St n r) args s 0 0 (jA sb)) n 0 0 h 27 [(0, .ref 103), (1, .int x1), (2, .int x2), (3, .int x3), (4, .int x4)] [] (fX3_choose_27 fu rec4 h x1 x2 x3 x4) := by
    intro fu rec4 hrec4
    induction fu with
    | zero => intro h x1 x2 x3 x4 ; exact j_none
    | succ fu ih =>
    intro h x1 x2 x3 x4 
    rw [fX3_choose_27]
    refine j_iload hC 4 rfl (dOk_at dt_X3_choose 19 rfl) ?_
    refine j_iconst hC (v := (5 : Int32)) rfl (dOk_at dt_X3_choose 20 rfl) ?_
    refine j_icmp_ge hC (tgt := 70) (by decide) (dOk_at dt_X3_choose 21 rfl) (fun q_4 => ?_) (fun q_4 => ?_)
    · refine j_sub [0, 1, 2] rfl ?_
      exact b70 rec4 hrec4 h x1 x2 
    · refine j_aload_n hC 0 rfl rfl (dOk_at dt_X3_choose 22 rfl) ?_
      refine j_getR hC flX3_19 (show shp 103 = (3, 4) from rfl) (Nat.lt_of_lt_of_le (Nat.le_of_ble_eq_true rfl : 103 < 152) hN) (by decide) (by decide) (fun _ _ _ => rfl) (fun hs => hs 103 2 105 rfl) (dOk_at dt_X3_choose 23 rfl) ?_
      refine j_iload_n hC 2 rfl rfl (dOk_at dt_X3_choose 24 rfl) ?_
      refine j_iald hC (show shp 105 = (21, 5) from rfl) (Nat.lt_of_lt_of_le (Nat.le_of_ble_eq_true rfl : 105 < 152) hN) (dOk_at dt_X3_choose 25 rfl) ?_
      refine j_bipush hC (v := (-2 : Int32)) rfl (dOk_at dt_X3_choose 26 rfl) ?_
      refine j_icmp_ne hC (tgt := 70) (by decide) (dOk_at dt_X3_choose 27 rfl) (fun q_5 => ?_) (fun q_5 => ?_)
      · refine j_sub [0, 1, 2] rfl ?_
        exact b70 rec4 hrec4 h x1 x2 
      · refine j_aload_n hC 0 rfl rfl (dOk_at dt_X3_choose 28 rfl) ?_
        refine j_iload_n hC 2 rfl rfl (dOk_at dt_X3_choose 29 rfl) ?_
        refine j_iload_n hC 1 rfl rfl (dOk_at dt_X3_choose 30 rfl) ?_
        refine j_iload hC 4 rfl (dOk_at dt_X3_choose 31 rfl) ?_
        refine j_callVi hC clX3_66 (fun rz hrz => c_X3_withStraw hN _ _ _ _ rz hrz) (show shp 103 = (3, 4) from rfl) (Nat.lt_of_lt_of_le (Nat.le_of_ble_eq_true rfl : 103 < 152) hN) (by decide) rfl rfl ⟨Nat.le_of_ble_eq_true rfl, Nat.le_of_ble_eq_true rfl⟩ ⟨Nat.le_refl 0, Nat.le_refl 0⟩ (As := [.int x2, .int x1, .int x4]) (st := []) rfl (Nat.le_of_ble_eq_true rfl) (dOk_at dt_X3_choose 32 rfl) (fun v_6 h_7 _ => ?_)
        refine j_iload_n hC 3 rfl rfl (dOk_at dt_X3_choose 33 rfl) ?_
        refine j_icmp_ne hC (tgt := 64) (by decide) (dOk_at dt_X3_choose 34 rfl) (fun q_8 => ?_) (fun q_8 => ?_)
        · exact b64 rec4 hrec4 (fX3_choose_27 fu rec4) ih h_7 x1 x2 x3 x4 
        · refine j_aload_n hC 0 rfl rfl (dOk_at dt_X3_choose 35 rfl) ?_
          refine j_getR hC flX3_19 (show shp 103 = (3, 4) from rfl) (Nat.lt_of_lt_of_le (Nat.le_of_ble_eq_true rfl : 103 < 152) hN) (by decide) (by decide) (fun _ _ _ => rfl) (fun hs => hs 103 2 105 rfl) (dOk_at dt_X3_choose 36 rfl) ?_
          refine j_iload_n hC 2 rfl rfl (dOk_at dt_X3_choose 37 rfl) ?_
          refine j_iload hC 4 rfl (dOk_at dt_X3_choose 38 rfl) ?_
          refine j_iast hC St_SP (show shp 105 = (21, 5) from rfl) (Nat.lt_of_lt_of_le (Nat.le_of_ble_eq_true rfl : 105 < 152) hN) (dOk_at dt_X3_choose 39 rfl) ?_
          exact b64 rec4 hrec4 (fX3_choose_27 fu rec4) ih (uI h_7 105 (Int32.toNatClampNeg x2) x4) x1 x2 x3 x4 
  have b4 : ∀ (fu : Nat) (h : Hp) (x1 : Int32) (x2 : Int32) , jJ p l e (rmD 2) s m args below meth c 5 sb D ids shp St (fun r => MQ below (jQv sb D ids shp St n r) args s 0 0 (jA sb)) n 0 0 h 4 [(0, .ref 103), (1, .int x1), (2, .int x2)] [] (fX3_choose_4 fu h x1 x2) := by
    intro fu 
    induction fu with
    | zero => intro h x1 x2 ; exact j_none
    | succ fu ih =>
    intro h x1 x2 
    rw [fX3_choose_4]
    refine j_iload_n hC 2 rfl rfl (dOk_at dt_X3_choose 4 rfl) ?_
    refine j_iconst hC (v := (5 : Int32)) rfl (dOk_at dt_X3_choose 5 rfl) ?_
    refine j_icmp_ge hC (tgt := 98) (by decide) (dOk_at dt_X3_choose 6 rfl) (fun q_1 => ?_) (fun q_1 => ?_)
    · exact j_vret hC hret (dOk_at dt_X3_choose 59 rfl)
    · refine j_aload_n hC 0 rfl rfl (dOk_at dt_X3_choose 7 rfl) ?_
      refine j_getR hC flX3_19 (show shp 103 = (3, 4) from rfl) (Nat.lt_of_lt_of_le (Nat.le_of_ble_eq_true rfl : 103 < 152) hN) (by decide) (by decide) (fun _ _ _ => rfl) (fun hs => hs 103 2 105 rfl) (dOk_at dt_X3_choose 8 rfl) ?_
      refine j_iload_n hC 2 rfl rfl (dOk_at dt_X3_choose 9 rfl) ?_
      refine j_bipush hC (v := (-2 : Int32)) rfl (dOk_at dt_X3_choose 10 rfl) ?_
      refine j_iast hC St_SP (show shp 105 = (21, 5) from rfl) (Nat.lt_of_lt_of_le (Nat.le_of_ble_eq_true rfl : 105 < 152) hN) (dOk_at dt_X3_choose 11 rfl) ?_
      refine j_aload_n hC 0 rfl rfl (dOk_at dt_X3_choose 12 rfl) ?_
      refine j_iload_n hC 2 rfl rfl (dOk_at dt_X3_choose 13 rfl) ?_
      refine j_iload_n hC 1 rfl rfl (dOk_at dt_X3_choose 14 rfl) ?_
      refine j_callVi hC clX3_50 (fun rz hrz => c_X3_pairsFrom hN _ _ _ rz hrz) (show shp 103 = (3, 4) from rfl) (Nat.lt_of_lt_of_le (Nat.le_of_ble_eq_true rfl : 103 < 152) hN) (by decide) rfl rfl ⟨Nat.le_of_ble_eq_true rfl, Nat.le_of_ble_eq_true rfl⟩ ⟨Nat.le_refl 0, Nat.le_refl 0⟩ (As := [.int x2, .int x1]) (st := []) rfl (Nat.le_of_ble_eq_true rfl) (dOk_at dt_X3_choose 15 rfl) (fun v_2 h_3 _ => ?_)
      refine j_istore_n hC rfl (lv' := [(3, .int v_2), (0, .ref 103), (1, .int x1), (2, .int x2)]) (by decide) rfl (dOk_at dt_X3_choose 16 rfl) ?_
      refine j_iconst hC (v := (0 : Int32)) rfl (dOk_at dt_X3_choose 17 rfl) ?_
      refine j_istore hC (lv' := [(4, .int (0 : Int32)), (3, .int v_2), (0, .ref 103), (1, .int x1), (2, .int x2)]) (by decide) rfl (dOk_at dt_X3_choose 18 rfl) ?_
      refine j_sub [2, 3, 4, 1, 0] rfl ?_
      exact b27 FU (fX3_choose_4 fu) ih h_3 x1 x2 v_2 (0 : Int32) 
  unfold fX3_choose
  refine j_iconst hC (v := (0 : Int32)) rfl (dOk_at dt_X3_choose 0 rfl) ?_
  refine j_istore_n hC rfl (lv' := [(1, .int (0 : Int32)), (0, .ref 103)]) (by decide) rfl (dOk_at dt_X3_choose 1 rfl) ?_
  refine j_iconst hC (v := (0 : Int32)) rfl (dOk_at dt_X3_choose 2 rfl) ?_
  refine j_istore_n hC rfl (lv' := [(2, .int (0 : Int32)), (1, .int (0 : Int32)), (0, .ref 103)]) (by decide) rfl (dOk_at dt_X3_choose 3 rfl) ?_
  refine j_sub [2, 1, 0] rfl ?_
  exact b4 FU h (0 : Int32) (0 : Int32) 
def tb_X3_pair : List (Nat × Instr × Nat) := [(0, .iconst 0, 1), (1, .istore_n 2, 1), (2, .iload_n 2, 1), (3, .iconst 5, 1), (4, .if_icmp .ge 39, 3), (7, .aload_n 0, 1), (8, .getfield 15, 3), (11, .iload_n 2, 1), (12, .iload_n 2, 1), (13, .aload_n 1, 1), (14, .getfield 25, 3), (17, .getfield 31, 3), (20, .getfield 37, 3), (23, .if_icmp .ge 12, 3), (26, .aload_n 0, 1), (27, .aload_n 1, 1), (28, .iload_n 2, 1), (29, .invokevirtual 42, 3), (32, .goto 4, 3), (35, .iconst 0, 1), (36, .iastore, 1), (37, .iinc 2 1, 3), (40, .goto (-38), 3), (43, .iconst 4, 1), (44, .istore_n 2, 1), (45, .iload_n 2, 1), (46, .ifCond .lt 39, 3), (49, .iconst 0, 1), (50, .istore_n 3, 1), (51, .iload_n 3, 1), (52, .bipush 32, 2), (54, .if_icmp .ge 25, 3), (57, .aload_n 0, 1), (58, .getfield 22, 3), (61, .iload_n 2, 1), (62, .iconst 5, 1), (63, .ishl, 1), (64, .iload_n 3, 1), (65, .ior, 1), (66, .aload_n 0, 1), (67, .iload_n 2, 1), (68, .iload_n 3, 1), (69, .invokevirtual 46, 3), (72, .iastore, 1), (73, .iinc 3 1, 3), (76, .goto (-25), 3), (79, .iinc 2 (-1), 3), (82, .goto (-37), 3), (85, .aload_n 0, 1), (86, .aload_n 0, 1), (87, .iconst 0, 1), (88, .iconst 0, 1), (89, .invokevirtual 50, 3), (92, .putfield 9, 3), (95, .aload_n 0, 1), (96, .invokevirtual 53, 3), (99, .return_, 1)]
theorem dt_X3_pair : dOk cX3_pair tb_X3_pair = true := by decide +kernel
def fX3_pair_51 : Nat → (Nat) → (Hp → Int32 → Option (Hp)) → Hp → Int32 → Int32 → Option (Hp)
  | 0, _, _, _, _, _ => none
  | fu + 1, r1, rec45, h, x2, x3 => if (32 : Int32) ≤ x3 then (rec45 h (x2 + (-1 : Int32))) else (bnd (fX3_mostFrom h x2 x3) (fun v_13 h_14 => if inb ((x2 <<< ((5 : Int32) &&& 31)) ||| x3) 192 then ((fX3_pair_51 fu r1 rec45) (uI h_14 106 (Int32.toNatClampNeg ((x2 <<< ((5 : Int32) &&& 31)) ||| x3)) v_13) x2 (x3 + (1 : Int32))) else none))
def fX3_pair_45 : Nat → (Nat) → Hp → Int32 → Option (Hp)
  | 0, _, _, _ => none
  | fu + 1, r1, h, x2 => if x2 < 0 then (bnd (fX3_pairsFrom h (0 : Int32) (0 : Int32)) (fun v_8 h_9 => (fX3_choose (uI h_9 103 0 v_8)).bind (fun h_11 => some h_11))) else (fX3_pair_51 FU r1 (fX3_pair_45 fu r1) h x2 (0 : Int32))
def fX3_pair_36 (r1 : Nat) (rec2 : Hp → Int32 → Option (Hp)) (h : Hp) (x2 : Int32) (s1 : Int32) (s2 : Int32) : Option (Hp) := if inb s1 5 then (rec2 (uI h 104 (Int32.toNatClampNeg s1) s2) (x2 + (1 : Int32))) else none
def fX3_pair_2 : Nat → (Nat) → Hp → Int32 → Option (Hp)
  | 0, _, _, _ => none
  | fu + 1, r1, h, x2 => if (5 : Int32) ≤ x2 then (fX3_pair_45 FU r1 h (4 : Int32)) else ((dref shp h r1 0 (7, 20)).bind (fun z_2 => if (hI h (rf z_2 4) 2) ≤ x2 then (fX3_pair_36 r1 (fX3_pair_2 fu r1) h x2 x2 (0 : Int32)) else (bnd (fX3_beatableBy r1 h x2) (fun v_5 h_6 => fX3_pair_36 r1 (fX3_pair_2 fu r1) h_6 x2 x2 v_5))))
def fX3_pair (r1 : Nat) (h : Hp) : Option (Hp) := fX3_pair_2 FU r1 h (0 : Int32)
set_option maxRecDepth 100000 in
set_option maxHeartbeats 4000000 in
theorem c_X3_pair {l : Launch} {sb : State} {D : va_G} {ids : Nat → ClassId} {n : Nat} (hN : 152 ≤ n) {r1 : Nat} (h1 : shp r1 = (8, 15)) (h : Hp) (r : Hp) (hr : fX3_pair r1 h = some r) : jM l yX3_pair cX3_pair 4 none 5 sb D ids shp St n [.ref 103, .ref r1] h (jQv sb D ids shp St n r) := by
  refine jM_of hr rfl (Nat.le_of_ble_eq_true rfl) ?_
  intro p e s m args below meth c hC hret
  have b51 : ∀ (fu : Nat) (rec45 : Hp → Int32 → Option (Hp)) (hrec45 : ∀ (h : Hp) (x2 : Int32) , jJ p l e (rmD 5) s m args below meth c 4 sb D ids shp St (fun r => MQ below (jQv sb D ids shp St n r) args s 0 0 (jA sb)) n 0 0 h 45 [(0, .ref 103), (2, .int x2)] [] (rec45 h x2)) (h : Hp) (x2 : Int32) (x3 : Int32) , jJ p l e (rmD 5) s m args below meth c 4 sb D ids shp St (fun r => MQ below (jQv sb D ids shp St n r) args s 0 0 (jA sb)) n 0 0 h 51 [(0, .ref 103), (2, .int x2), (3, .int x3)] [] (fX3_pair_51 fu r1 rec45 h x2 x3) := by
    intro fu rec45 hrec45
    induction fu with
    | zero => intro h x2 x3 ; exact j_none
    | succ fu ih =>
    intro h x2 x3 
    rw [fX3_pair_51]
    refine j_iload_n hC 2 rfl rfl (dOk_at dt_X3_pair 29 rfl) ?_
    refine j_bipush hC (v := (32 : Int32)) rfl (dOk_at dt_X3_pair 30 rfl) ?_
    refine j_icmp_ge hC (tgt := 79) (by decide) (dOk_at dt_X3_pair 31 rfl) (fun q_12 => ?_) (fun q_12 => ?_)
    · refine j_iinc hC (v := (x2 + (-1 : Int32))) (lv' := [(2, .int (x2 + (-1 : Int32))), (0, .ref 103), (3, .int x3)]) 1 rfl (congrArg (fun z => x2 + z) (show Int32.ofInt (-1) = (-1 : Int32) from by decide)) (by decide) rfl (dOk_at dt_X3_pair 46 rfl) ?_
      refine j_goto hC (tgt := 45) (by decide) (dOk_at dt_X3_pair 47 rfl) ?_
      refine j_sub [1, 0] rfl ?_
      exact hrec45 h (x2 + (-1 : Int32)) 
    · refine j_aload_n hC 0 rfl rfl (dOk_at dt_X3_pair 32 rfl) ?_
      refine j_getR hC flX3_22 (show shp 103 = (3, 4) from rfl) (Nat.lt_of_lt_of_le (Nat.le_of_ble_eq_true rfl : 103 < 152) hN) (by decide) (by decide) (fun _ _ _ => rfl) (fun hs => hs 103 3 106 rfl) (dOk_at dt_X3_pair 33 rfl) ?_
      refine j_iload_n hC 1 rfl rfl (dOk_at dt_X3_pair 34 rfl) ?_
      refine j_iconst hC (v := (5 : Int32)) rfl (dOk_at dt_X3_pair 35 rfl) ?_
      refine j_ishl hC (dOk_at dt_X3_pair 36 rfl) ?_
      refine j_iload_n hC 2 rfl rfl (dOk_at dt_X3_pair 37 rfl) ?_
      refine j_ior hC (dOk_at dt_X3_pair 38 rfl) ?_
      refine j_aload_n hC 0 rfl rfl (dOk_at dt_X3_pair 39 rfl) ?_
      refine j_iload_n hC 1 rfl rfl (dOk_at dt_X3_pair 40 rfl) ?_
      refine j_iload_n hC 2 rfl rfl (dOk_at dt_X3_pair 41 rfl) ?_
      refine j_callVi hC clX3_46 (fun rz hrz => c_X3_mostFrom hN _ _ _ rz hrz) (show shp 103 = (3, 4) from rfl) (Nat.lt_of_lt_of_le (Nat.le_of_ble_eq_true rfl : 103 < 152) hN) (by decide) rfl rfl ⟨Nat.le_of_ble_eq_true rfl, Nat.le_of_ble_eq_true rfl⟩ ⟨Nat.le_refl 0, Nat.le_refl 0⟩ (As := [.int x2, .int x3]) (st := [.int ((x2 <<< ((5 : Int32) &&& 31)) ||| x3), .ref 106]) rfl (Nat.le_of_ble_eq_true rfl) (dOk_at dt_X3_pair 42 rfl) (fun v_13 h_14 _ => ?_)
      refine j_iast hC St_SP (show shp 106 = (21, 192) from rfl) (Nat.lt_of_lt_of_le (Nat.le_of_ble_eq_true rfl : 106 < 152) hN) (dOk_at dt_X3_pair 43 rfl) ?_
      refine j_iinc hC (v := (x3 + (1 : Int32))) (lv' := [(3, .int (x3 + (1 : Int32))), (0, .ref 103), (2, .int x2)]) 2 rfl (congrArg (fun z => x3 + z) (show Int32.ofInt (1) = (1 : Int32) from by decide)) (by decide) rfl (dOk_at dt_X3_pair 44 rfl) ?_
      refine j_goto hC (tgt := 51) (by decide) (dOk_at dt_X3_pair 45 rfl) ?_
      refine j_sub [1, 2, 0] rfl ?_
      exact ih (uI h_14 106 (Int32.toNatClampNeg ((x2 <<< ((5 : Int32) &&& 31)) ||| x3)) v_13) x2 (x3 + (1 : Int32)) 
  have b45 : ∀ (fu : Nat) (h : Hp) (x2 : Int32) , jJ p l e (rmD 5) s m args below meth c 4 sb D ids shp St (fun r => MQ below (jQv sb D ids shp St n r) args s 0 0 (jA sb)) n 0 0 h 45 [(0, .ref 103), (2, .int x2)] [] (fX3_pair_45 fu r1 h x2) := by
    intro fu 
    induction fu with
    | zero => intro h x2 ; exact j_none
    | succ fu ih =>
    intro h x2 
    rw [fX3_pair_45]
    refine j_iload_n hC 1 rfl rfl (dOk_at dt_X3_pair 25 rfl) ?_
    refine j_if_lt hC (tgt := 85) (by decide) (dOk_at dt_X3_pair 26 rfl) (fun q_7 => ?_) (fun q_7 => ?_)
    · refine j_aload_n hC 0 rfl rfl (dOk_at dt_X3_pair 48 rfl) ?_
      refine j_aload_n hC 0 rfl rfl (dOk_at dt_X3_pair 49 rfl) ?_
      refine j_iconst hC (v := (0 : Int32)) rfl (dOk_at dt_X3_pair 50 rfl) ?_
      refine j_iconst hC (v := (0 : Int32)) rfl (dOk_at dt_X3_pair 51 rfl) ?_
      refine j_callVi hC clX3_50 (fun rz hrz => c_X3_pairsFrom hN _ _ _ rz hrz) (show shp 103 = (3, 4) from rfl) (Nat.lt_of_lt_of_le (Nat.le_of_ble_eq_true rfl : 103 < 152) hN) (by decide) rfl rfl ⟨Nat.le_of_ble_eq_true rfl, Nat.le_of_ble_eq_true rfl⟩ ⟨Nat.le_refl 0, Nat.le_refl 0⟩ (As := [.int (0 : Int32), .int (0 : Int32)]) (st := [.ref 103]) rfl (Nat.le_of_ble_eq_true rfl) (dOk_at dt_X3_pair 52 rfl) (fun v_8 h_9 _ => ?_)
      refine j_putI hC St_SP flX3_9 (show shp 103 = (3, 4) from rfl) (Nat.lt_of_lt_of_le (Nat.le_of_ble_eq_true rfl : 103 < 152) hN) (by decide) (by decide) rfl rfl (dOk_at dt_X3_pair 53 rfl) ?_
      refine j_aload_n hC 0 rfl rfl (dOk_at dt_X3_pair 54 rfl) ?_
      refine j_callVv hC clX3_53 (fun rz hrz => c_X3_choose hN _ rz hrz) (show shp 103 = (3, 4) from rfl) (Nat.lt_of_lt_of_le (Nat.le_of_ble_eq_true rfl : 103 < 152) hN) (by decide) rfl rfl ⟨Nat.le_of_ble_eq_true rfl, Nat.le_of_ble_eq_true rfl⟩ ⟨Nat.le_refl 0, Nat.le_refl 0⟩ (As := []) (st := []) rfl (Nat.le_of_ble_eq_true rfl) (dOk_at dt_X3_pair 55 rfl) (fun h_11 _ => ?_)
      exact j_vret hC hret (dOk_at dt_X3_pair 56 rfl)
    · refine j_iconst hC (v := (0 : Int32)) rfl (dOk_at dt_X3_pair 27 rfl) ?_
      refine j_istore_n hC rfl (lv' := [(3, .int (0 : Int32)), (0, .ref 103), (2, .int x2)]) (by decide) rfl (dOk_at dt_X3_pair 28 rfl) ?_
      refine j_sub [1, 2, 0] rfl ?_
      exact b51 FU (fX3_pair_45 fu r1) ih h x2 (0 : Int32) 
  have b36 : ∀ (rec2 : Hp → Int32 → Option (Hp)) (hrec2 : ∀ (h : Hp) (x2 : Int32) , jJ p l e (rmD 5) s m args below meth c 4 sb D ids shp St (fun r => MQ below (jQv sb D ids shp St n r) args s 0 0 (jA sb)) n 0 0 h 2 [(0, .ref 103), (1, .ref r1), (2, .int x2)] [] (rec2 h x2)) (h : Hp) (x2 : Int32) (s1 : Int32) (s2 : Int32) , jJ p l e (rmD 5) s m args below meth c 4 sb D ids shp St (fun r => MQ below (jQv sb D ids shp St n r) args s 0 0 (jA sb)) n 0 0 h 36 [(0, .ref 103), (1, .ref r1), (2, .int x2)] [.int s2, .int s1, .ref 104] (fX3_pair_36 r1 rec2 h x2 s1 s2) := by
    intro rec2 hrec2 h x2 s1 s2 
    unfold fX3_pair_36
    refine j_iast hC St_SP (show shp 104 = (21, 5) from rfl) (Nat.lt_of_lt_of_le (Nat.le_of_ble_eq_true rfl : 104 < 152) hN) (dOk_at dt_X3_pair 20 rfl) ?_
    refine j_iinc hC (v := (x2 + (1 : Int32))) (lv' := [(2, .int (x2 + (1 : Int32))), (0, .ref 103), (1, .ref r1)]) 2 rfl (congrArg (fun z => x2 + z) (show Int32.ofInt (1) = (1 : Int32) from by decide)) (by decide) rfl (dOk_at dt_X3_pair 21 rfl) ?_
    refine j_goto hC (tgt := 2) (by decide) (dOk_at dt_X3_pair 22 rfl) ?_
    refine j_sub [1, 2, 0] rfl ?_
    exact hrec2 (uI h 104 (Int32.toNatClampNeg s1) s2) (x2 + (1 : Int32)) 
  have b2 : ∀ (fu : Nat) (h : Hp) (x2 : Int32) , jJ p l e (rmD 5) s m args below meth c 4 sb D ids shp St (fun r => MQ below (jQv sb D ids shp St n r) args s 0 0 (jA sb)) n 0 0 h 2 [(0, .ref 103), (1, .ref r1), (2, .int x2)] [] (fX3_pair_2 fu r1 h x2) := by
    intro fu 
    induction fu with
    | zero => intro h x2 ; exact j_none
    | succ fu ih =>
    intro h x2 
    rw [fX3_pair_2]
    refine j_iload_n hC 2 rfl rfl (dOk_at dt_X3_pair 2 rfl) ?_
    refine j_iconst hC (v := (5 : Int32)) rfl (dOk_at dt_X3_pair 3 rfl) ?_
    refine j_icmp_ge hC (tgt := 43) (by decide) (dOk_at dt_X3_pair 4 rfl) (fun q_1 => ?_) (fun q_1 => ?_)
    · refine j_iconst hC (v := (4 : Int32)) rfl (dOk_at dt_X3_pair 23 rfl) ?_
      refine j_istore_n hC rfl (lv' := [(2, .int (4 : Int32)), (0, .ref 103), (1, .ref r1)]) (by decide) rfl (dOk_at dt_X3_pair 24 rfl) ?_
      refine j_sub [1, 0] rfl ?_
      exact b45 FU h (4 : Int32) 
    · refine j_aload_n hC 0 rfl rfl (dOk_at dt_X3_pair 5 rfl) ?_
      refine j_getR hC flX3_15 (show shp 103 = (3, 4) from rfl) (Nat.lt_of_lt_of_le (Nat.le_of_ble_eq_true rfl : 103 < 152) hN) (by decide) (by decide) (fun _ _ _ => rfl) (fun hs => hs 103 1 104 rfl) (dOk_at dt_X3_pair 6 rfl) ?_
      refine j_iload_n hC 2 rfl rfl (dOk_at dt_X3_pair 7 rfl) ?_
      refine j_iload_n hC 2 rfl rfl (dOk_at dt_X3_pair 8 rfl) ?_
      refine j_aload_n hC 1 rfl rfl (dOk_at dt_X3_pair 9 rfl) ?_
      refine j_getD (q := (7, 20)) hC flX3_25 h1 (jlt hN h1 (by decide)) (by decide) (by decide) (fun _ _ _ => rfl) (dOk_at dt_X3_pair 10 rfl) (fun z_2 _ g_3 => ?_)
      refine j_getR hC flX3_31 g_3 (jlt hN g_3 (by decide)) (by decide) (by decide) (fun _ _ _ => rfl) (fun hs => hs _ _ _ (sf_7_4 g_3).1) (dOk_at dt_X3_pair 11 rfl) ?_
      refine j_getI hC flX3_37 (sf_7_4 g_3).2.1 (Nat.lt_of_lt_of_le (sf_7_4 g_3).2.2 hN) (by decide) (by decide) (fun _ _ _ => rfl) (dOk_at dt_X3_pair 12 rfl) ?_
      refine j_icmp_ge hC (tgt := 35) (by decide) (dOk_at dt_X3_pair 13 rfl) (fun q_4 => ?_) (fun q_4 => ?_)
      · refine j_iconst hC (v := (0 : Int32)) rfl (dOk_at dt_X3_pair 19 rfl) ?_
        exact b36 (fX3_pair_2 fu r1) ih h x2 x2 (0 : Int32) 
      · refine j_aload_n hC 0 rfl rfl (dOk_at dt_X3_pair 14 rfl) ?_
        refine j_aload_n hC 1 rfl rfl (dOk_at dt_X3_pair 15 rfl) ?_
        refine j_iload_n hC 2 rfl rfl (dOk_at dt_X3_pair 16 rfl) ?_
        refine j_callVi hC clX3_42 (fun rz hrz => c_X3_beatableBy hN (h1) _ _ rz hrz) (show shp 103 = (3, 4) from rfl) (Nat.lt_of_lt_of_le (Nat.le_of_ble_eq_true rfl : 103 < 152) hN) (by decide) rfl rfl ⟨Nat.le_of_ble_eq_true rfl, Nat.le_of_ble_eq_true rfl⟩ ⟨Nat.le_refl 0, Nat.le_refl 0⟩ (As := [.ref r1, .int x2]) (st := [.int x2, .ref 104]) rfl (Nat.le_of_ble_eq_true rfl) (dOk_at dt_X3_pair 17 rfl) (fun v_5 h_6 _ => ?_)
        refine j_goto hC (tgt := 36) (by decide) (dOk_at dt_X3_pair 18 rfl) ?_
        exact b36 (fX3_pair_2 fu r1) ih h_6 x2 x2 v_5 
  unfold fX3_pair
  refine j_iconst hC (v := (0 : Int32)) rfl (dOk_at dt_X3_pair 0 rfl) ?_
  refine j_istore_n hC rfl (lv' := [(2, .int (0 : Int32)), (0, .ref 103), (1, .ref r1)]) (by decide) rfl (dOk_at dt_X3_pair 1 rfl) ?_
  refine j_sub [1, 2, 0] rfl ?_
  exact b2 FU h (0 : Int32) 
def tb_X4_clear : List (Nat × Instr × Nat) := [(0, .aload_n 0, 1), (1, .iconst 0, 1), (2, .putfield 9, 3), (5, .return_, 1)]
theorem dt_X4_clear : dOk cX4_clear tb_X4_clear = true := by decide +kernel
def fX4_clear (h : Hp) : Option (Hp) := some (uI h 90 0 (0 : Int32))
set_option maxRecDepth 100000 in
set_option maxHeartbeats 4000000 in
theorem c_X4_clear {l : Launch} {sb : State} {D : va_G} {ids : Nat → ClassId} {n : Nat} (hN : 152 ≤ n) (h : Hp) (r : Hp) (hr : fX4_clear h = some r) : jM l yX4_clear cX4_clear 1 none 0 sb D ids shp St n [.ref 90] h (jQv sb D ids shp St n r) := by
  refine jM_of hr rfl (Nat.le_of_ble_eq_true rfl) ?_
  intro p e s m args below meth c hC hret
  unfold fX4_clear
  refine j_aload_n hC 0 rfl rfl (dOk_at dt_X4_clear 0 rfl) ?_
  refine j_iconst hC (v := (0 : Int32)) rfl (dOk_at dt_X4_clear 1 rfl) ?_
  refine j_putI hC St_SP flX4_9 (show shp 90 = (4, 8) from rfl) (Nat.lt_of_lt_of_le (Nat.le_of_ble_eq_true rfl : 90 < 152) hN) (by decide) (by decide) rfl rfl (dOk_at dt_X4_clear 2 rfl) ?_
  exact j_vret hC hret (dOk_at dt_X4_clear 3 rfl)
def tb_X8_beatenOf : List (Nat × Instr × Nat) := [(0, .iload_n 1, 1), (1, .ifCond .lt 17, 3), (4, .iload_n 1, 1), (5, .iconst 5, 1), (6, .if_icmp .ge 12, 3), (9, .aload_n 0, 1), (10, .getfield 25, 3), (13, .iload_n 1, 1), (14, .iaload, 1), (15, .goto 4, 3), (18, .iconst 0, 1), (19, .ireturn, 1)]
theorem dt_X8_beatenOf : dOk cX8_beatenOf tb_X8_beatenOf = true := by decide +kernel
def fX8_beatenOf (tt : Nat) (h : Hp) (x1 : Int32) : Option (Int32 × Hp) := if x1 < 0 then (some ((0 : Int32), h)) else (if (5 : Int32) ≤ x1 then (some ((0 : Int32), h)) else (if inb x1 5 then (some ((hI h (rf tt 8) (Int32.toNatClampNeg x1)), h)) else none))
set_option maxRecDepth 100000 in
set_option maxHeartbeats 4000000 in
theorem c_X8_beatenOf {l : Launch} {sb : State} {D : va_G} {ids : Nat → ClassId} {n : Nat} (hN : 152 ≤ n) {tt : Nat} (ht : shp tt = (8, 15)) (h : Hp) (x1 : Int32) (r : Int32 × Hp) (hr : fX8_beatenOf tt h x1 = some r) : jM l yX8_beatenOf cX8_beatenOf 2 (some .int) 0 sb D ids shp St n [.ref tt, .int x1] h (jQi sb D ids shp St n r) := by
  refine jM_of hr rfl (Nat.le_of_ble_eq_true rfl) ?_
  intro p e s m args below meth c hC hret
  unfold fX8_beatenOf
  refine j_iload_n hC 1 rfl rfl (dOk_at dt_X8_beatenOf 0 rfl) ?_
  refine j_if_lt hC (tgt := 18) (by decide) (dOk_at dt_X8_beatenOf 1 rfl) (fun q_1 => ?_) (fun q_1 => ?_)
  · refine j_iconst hC (v := (0 : Int32)) rfl (dOk_at dt_X8_beatenOf 10 rfl) ?_
    exact j_iret hC hret (dOk_at dt_X8_beatenOf 11 rfl)
  · refine j_iload_n hC 1 rfl rfl (dOk_at dt_X8_beatenOf 2 rfl) ?_
    refine j_iconst hC (v := (5 : Int32)) rfl (dOk_at dt_X8_beatenOf 3 rfl) ?_
    refine j_icmp_ge hC (tgt := 18) (by decide) (dOk_at dt_X8_beatenOf 4 rfl) (fun q_2 => ?_) (fun q_2 => ?_)
    · refine j_iconst hC (v := (0 : Int32)) rfl (dOk_at dt_X8_beatenOf 10 rfl) ?_
      exact j_iret hC hret (dOk_at dt_X8_beatenOf 11 rfl)
    · refine j_aload_n hC 0 rfl rfl (dOk_at dt_X8_beatenOf 5 rfl) ?_
      refine j_getR hC flX8_25 ht (jlt hN ht (by decide)) (by decide) (by decide) (fun _ _ _ => rfl) (fun hs => hs _ _ _ (sf_8_8 ht).1) (dOk_at dt_X8_beatenOf 6 rfl) ?_
      refine j_iload_n hC 1 rfl rfl (dOk_at dt_X8_beatenOf 7 rfl) ?_
      refine j_iald hC (sf_8_8 ht).2.1 (Nat.lt_of_lt_of_le (sf_8_8 ht).2.2 hN) (dOk_at dt_X8_beatenOf 8 rfl) ?_
      refine j_goto hC (tgt := 19) (by decide) (dOk_at dt_X8_beatenOf 9 rfl) ?_
      exact j_iret hC hret (dOk_at dt_X8_beatenOf 11 rfl)
def tb_X4_record : List (Nat × Instr × Nat) := [(0, .aload_n 0, 1), (1, .aload_n 0, 1), (2, .getfield 15, 3), (5, .iconst 1, 1), (6, .iadd, 1), (7, .bipush 20, 2), (9, .if_icmp .ge 19, 3), (12, .aload_n 0, 1), (13, .getfield 15, 3), (16, .ifCond .lt 12, 3), (19, .aload_n 0, 1), (20, .getfield 15, 3), (23, .iconst 1, 1), (24, .iadd, 1), (25, .goto 4, 3), (28, .iconst 0, 1), (29, .putfield 15, 3), (32, .aload_n 0, 1), (33, .getfield 18, 3), (36, .aload_n 0, 1), (37, .getfield 15, 3), (40, .iload_n 2, 1), (41, .iastore, 1), (42, .aload_n 0, 1), (43, .getfield 22, 3), (46, .aload_n 0, 1), (47, .getfield 15, 3), (50, .iload_n 3, 1), (51, .iastore, 1), (52, .aload_n 0, 1), (53, .getfield 25, 3), (56, .aload_n 0, 1), (57, .getfield 15, 3), (60, .aload_n 1, 1), (61, .iload_n 2, 1), (62, .invokevirtual 37, 3), (65, .iastore, 1), (66, .aload_n 0, 1), (67, .getfield 28, 3), (70, .aload_n 0, 1), (71, .getfield 15, 3), (74, .aload_n 1, 1), (75, .iload_n 2, 1), (76, .invokevirtual 43, 3), (79, .iastore, 1), (80, .aload_n 0, 1), (81, .getfield 31, 3), (84, .aload_n 0, 1), (85, .getfield 15, 3), (88, .aload_n 1, 1), (89, .iload_n 2, 1), (90, .invokevirtual 46, 3), (93, .iastore, 1), (94, .aload_n 0, 1), (95, .getfield 34, 3), (98, .aload_n 0, 1), (99, .getfield 15, 3), (102, .aload_n 1, 1), (103, .iload_n 3, 1), (104, .invokevirtual 49, 3), (107, .iastore, 1), (108, .aload_n 0, 1), (109, .aload_n 0, 1), (110, .getfield 9, 3), (113, .iconst 1, 1), (114, .iadd, 1), (115, .bipush 20, 2), (117, .invokestatic 52, 3), (120, .putfield 9, 3), (123, .return_, 1)]
theorem dt_X4_record : dOk cX4_record tb_X4_record = true := by decide +kernel
def fX4_record_29 (r1 : Nat) (h : Hp) (x2 : Int32) (x3 : Int32) (s1 : Int32) : Option (Hp) := if inb (hI (uI h 90 1 s1) 90 1) 20 then (if inb (hI (uI (uI h 90 1 s1) 91 (Int32.toNatClampNeg (hI (uI h 90 1 s1) 90 1)) x2) 90 1) 20 then (bnd (fX8_holdsOf r1 (uI (uI (uI h 90 1 s1) 91 (Int32.toNatClampNeg (hI (uI h 90 1 s1) 90 1)) x2) 92 (Int32.toNatClampNeg (hI (uI (uI h 90 1 s1) 91 (Int32.toNatClampNeg (hI (uI h 90 1 s1) 90 1)) x2) 90 1)) x3) x2) (fun v_3 h_4 => if inb (hI (uI (uI (uI h 90 1 s1) 91 (Int32.toNatClampNeg (hI (uI h 90 1 s1) 90 1)) x2) 92 (Int32.toNatClampNeg (hI (uI (uI h 90 1 s1) 91 (Int32.toNatClampNeg (hI (uI h 90 1 s1) 90 1)) x2) 90 1)) x3) 90 1) 20 then (bnd (fX8_wonBy r1 (uI h_4 93 (Int32.toNatClampNeg (hI (uI (uI (uI h 90 1 s1) 91 (Int32.toNatClampNeg (hI (uI h 90 1 s1) 90 1)) x2) 92 (Int32.toNatClampNeg (hI (uI (uI h 90 1 s1) 91 (Int32.toNatClampNeg (hI (uI h 90 1 s1) 90 1)) x2) 90 1)) x3) 90 1)) v_3) x2) (fun v_5 h_6 => if inb (hI (uI h_4 93 (Int32.toNatClampNeg (hI (uI (uI (uI h 90 1 s1) 91 (Int32.toNatClampNeg (hI (uI h 90 1 s1) 90 1)) x2) 92 (Int32.toNatClampNeg (hI (uI (uI h 90 1 s1) 91 (Int32.toNatClampNeg (hI (uI h 90 1 s1) 90 1)) x2) 90 1)) x3) 90 1)) v_3) 90 1) 20 then (bnd (fX8_beatenOf r1 (uI h_6 94 (Int32.toNatClampNeg (hI (uI h_4 93 (Int32.toNatClampNeg (hI (uI (uI (uI h 90 1 s1) 91 (Int32.toNatClampNeg (hI (uI h 90 1 s1) 90 1)) x2) 92 (Int32.toNatClampNeg (hI (uI (uI h 90 1 s1) 91 (Int32.toNatClampNeg (hI (uI h 90 1 s1) 90 1)) x2) 90 1)) x3) 90 1)) v_3) 90 1)) v_5) x2) (fun v_7 h_8 => if inb (hI (uI h_6 94 (Int32.toNatClampNeg (hI (uI h_4 93 (Int32.toNatClampNeg (hI (uI (uI (uI h 90 1 s1) 91 (Int32.toNatClampNeg (hI (uI h 90 1 s1) 90 1)) x2) 92 (Int32.toNatClampNeg (hI (uI (uI h 90 1 s1) 91 (Int32.toNatClampNeg (hI (uI h 90 1 s1) 90 1)) x2) 90 1)) x3) 90 1)) v_3) 90 1)) v_5) 90 1) 20 then (bnd (fX8_fullOf r1 (uI h_8 95 (Int32.toNatClampNeg (hI (uI h_6 94 (Int32.toNatClampNeg (hI (uI h_4 93 (Int32.toNatClampNeg (hI (uI (uI (uI h 90 1 s1) 91 (Int32.toNatClampNeg (hI (uI h 90 1 s1) 90 1)) x2) 92 (Int32.toNatClampNeg (hI (uI (uI h 90 1 s1) 91 (Int32.toNatClampNeg (hI (uI h 90 1 s1) 90 1)) x2) 90 1)) x3) 90 1)) v_3) 90 1)) v_5) 90 1)) v_7) x3) (fun v_9 h_10 => if inb (hI (uI h_8 95 (Int32.toNatClampNeg (hI (uI h_6 94 (Int32.toNatClampNeg (hI (uI h_4 93 (Int32.toNatClampNeg (hI (uI (uI (uI h 90 1 s1) 91 (Int32.toNatClampNeg (hI (uI h 90 1 s1) 90 1)) x2) 92 (Int32.toNatClampNeg (hI (uI (uI h 90 1 s1) 91 (Int32.toNatClampNeg (hI (uI h 90 1 s1) 90 1)) x2) 90 1)) x3) 90 1)) v_3) 90 1)) v_5) 90 1)) v_7) 90 1) 20 then (some (uI (uI h_10 96 (Int32.toNatClampNeg (hI (uI h_8 95 (Int32.toNatClampNeg (hI (uI h_6 94 (Int32.toNatClampNeg (hI (uI h_4 93 (Int32.toNatClampNeg (hI (uI (uI (uI h 90 1 s1) 91 (Int32.toNatClampNeg (hI (uI h 90 1 s1) 90 1)) x2) 92 (Int32.toNatClampNeg (hI (uI (uI h 90 1 s1) 91 (Int32.toNatClampNeg (hI (uI h 90 1 s1) 90 1)) x2) 90 1)) x3) 90 1)) v_3) 90 1)) v_5) 90 1)) v_7) 90 1)) v_9) 90 0 (if (20 : Int32) < ((hI (uI h_10 96 (Int32.toNatClampNeg (hI (uI h_8 95 (Int32.toNatClampNeg (hI (uI h_6 94 (Int32.toNatClampNeg (hI (uI h_4 93 (Int32.toNatClampNeg (hI (uI (uI (uI h 90 1 s1) 91 (Int32.toNatClampNeg (hI (uI h 90 1 s1) 90 1)) x2) 92 (Int32.toNatClampNeg (hI (uI (uI h 90 1 s1) 91 (Int32.toNatClampNeg (hI (uI h 90 1 s1) 90 1)) x2) 90 1)) x3) 90 1)) v_3) 90 1)) v_5) 90 1)) v_7) 90 1)) v_9) 90 0) + (1 : Int32)) then (20 : Int32) else ((hI (uI h_10 96 (Int32.toNatClampNeg (hI (uI h_8 95 (Int32.toNatClampNeg (hI (uI h_6 94 (Int32.toNatClampNeg (hI (uI h_4 93 (Int32.toNatClampNeg (hI (uI (uI (uI h 90 1 s1) 91 (Int32.toNatClampNeg (hI (uI h 90 1 s1) 90 1)) x2) 92 (Int32.toNatClampNeg (hI (uI (uI h 90 1 s1) 91 (Int32.toNatClampNeg (hI (uI h 90 1 s1) 90 1)) x2) 90 1)) x3) 90 1)) v_3) 90 1)) v_5) 90 1)) v_7) 90 1)) v_9) 90 0) + (1 : Int32))))) else none)) else none)) else none)) else none)) else none) else none
def fX4_record_28 (r1 : Nat) (h : Hp) (x2 : Int32) (x3 : Int32) : Option (Hp) := fX4_record_29 r1 h x2 x3 (0 : Int32)
def fX4_record (r1 : Nat) (h : Hp) (x2 : Int32) (x3 : Int32) : Option (Hp) := if (20 : Int32) ≤ ((hI h 90 1) + (1 : Int32)) then (fX4_record_28 r1 h x2 x3) else (if (hI h 90 1) < 0 then (fX4_record_28 r1 h x2 x3) else (fX4_record_29 r1 h x2 x3 ((hI h 90 1) + (1 : Int32))))
set_option maxRecDepth 100000 in
set_option maxHeartbeats 4000000 in
theorem c_X4_record {l : Launch} {sb : State} {D : va_G} {ids : Nat → ClassId} {n : Nat} (hN : 152 ≤ n) {r1 : Nat} (h1 : shp r1 = (8, 15)) (h : Hp) (x2 : Int32) (x3 : Int32) (r : Hp) (hr : fX4_record r1 h x2 x3 = some r) : jM l yX4_record cX4_record 4 none 1 sb D ids shp St n [.ref 90, .ref r1, .int x2, .int x3] h (jQv sb D ids shp St n r) := by
  refine jM_of hr rfl (Nat.le_of_ble_eq_true rfl) ?_
  intro p e s m args below meth c hC hret
  have b29 : ∀ (h : Hp) (x2 : Int32) (x3 : Int32) (s1 : Int32) , jJ p l e (rmD 1) s m args below meth c 4 sb D ids shp St (fun r => MQ below (jQv sb D ids shp St n r) args s 0 0 (jA sb)) n 0 0 h 29 [(0, .ref 90), (1, .ref r1), (2, .int x2), (3, .int x3)] [.int s1, .ref 90] (fX4_record_29 r1 h x2 x3 s1) := by
    intro h x2 x3 s1 
    unfold fX4_record_29
    refine j_putI hC St_SP flX4_15 (show shp 90 = (4, 8) from rfl) (Nat.lt_of_lt_of_le (Nat.le_of_ble_eq_true rfl : 90 < 152) hN) (by decide) (by decide) rfl rfl (dOk_at dt_X4_record 16 rfl) ?_
    refine j_aload_n hC 0 rfl rfl (dOk_at dt_X4_record 17 rfl) ?_
    refine j_getR hC flX4_18 (show shp 90 = (4, 8) from rfl) (Nat.lt_of_lt_of_le (Nat.le_of_ble_eq_true rfl : 90 < 152) hN) (by decide) (by decide) (fun _ _ _ => rfl) (fun hs => hs 90 2 91 rfl) (dOk_at dt_X4_record 18 rfl) ?_
    refine j_aload_n hC 0 rfl rfl (dOk_at dt_X4_record 19 rfl) ?_
    refine j_getI hC flX4_15 (show shp 90 = (4, 8) from rfl) (Nat.lt_of_lt_of_le (Nat.le_of_ble_eq_true rfl : 90 < 152) hN) (by decide) (by decide) (fun _ _ _ => rfl) (dOk_at dt_X4_record 20 rfl) ?_
    refine j_iload_n hC 2 rfl rfl (dOk_at dt_X4_record 21 rfl) ?_
    refine j_iast hC St_SP (show shp 91 = (21, 20) from rfl) (Nat.lt_of_lt_of_le (Nat.le_of_ble_eq_true rfl : 91 < 152) hN) (dOk_at dt_X4_record 22 rfl) ?_
    refine j_aload_n hC 0 rfl rfl (dOk_at dt_X4_record 23 rfl) ?_
    refine j_getR hC flX4_22 (show shp 90 = (4, 8) from rfl) (Nat.lt_of_lt_of_le (Nat.le_of_ble_eq_true rfl : 90 < 152) hN) (by decide) (by decide) (fun _ _ _ => rfl) (fun hs => hs 90 3 92 rfl) (dOk_at dt_X4_record 24 rfl) ?_
    refine j_aload_n hC 0 rfl rfl (dOk_at dt_X4_record 25 rfl) ?_
    refine j_getI hC flX4_15 (show shp 90 = (4, 8) from rfl) (Nat.lt_of_lt_of_le (Nat.le_of_ble_eq_true rfl : 90 < 152) hN) (by decide) (by decide) (fun _ _ _ => rfl) (dOk_at dt_X4_record 26 rfl) ?_
    refine j_iload_n hC 3 rfl rfl (dOk_at dt_X4_record 27 rfl) ?_
    refine j_iast hC St_SP (show shp 92 = (21, 20) from rfl) (Nat.lt_of_lt_of_le (Nat.le_of_ble_eq_true rfl : 92 < 152) hN) (dOk_at dt_X4_record 28 rfl) ?_
    refine j_aload_n hC 0 rfl rfl (dOk_at dt_X4_record 29 rfl) ?_
    refine j_getR hC flX4_25 (show shp 90 = (4, 8) from rfl) (Nat.lt_of_lt_of_le (Nat.le_of_ble_eq_true rfl : 90 < 152) hN) (by decide) (by decide) (fun _ _ _ => rfl) (fun hs => hs 90 4 93 rfl) (dOk_at dt_X4_record 30 rfl) ?_
    refine j_aload_n hC 0 rfl rfl (dOk_at dt_X4_record 31 rfl) ?_
    refine j_getI hC flX4_15 (show shp 90 = (4, 8) from rfl) (Nat.lt_of_lt_of_le (Nat.le_of_ble_eq_true rfl : 90 < 152) hN) (by decide) (by decide) (fun _ _ _ => rfl) (dOk_at dt_X4_record 32 rfl) ?_
    refine j_aload_n hC 1 rfl rfl (dOk_at dt_X4_record 33 rfl) ?_
    refine j_iload_n hC 2 rfl rfl (dOk_at dt_X4_record 34 rfl) ?_
    refine j_callVi hC clX4_37 (fun rz hrz => c_X8_holdsOf hN (h1) _ _ rz hrz) h1 (jlt hN h1 (by decide)) (by decide) rfl rfl ⟨Nat.le_of_ble_eq_true rfl, Nat.le_of_ble_eq_true rfl⟩ ⟨Nat.le_refl 0, Nat.le_refl 0⟩ (As := [.int x2]) (st := [.int (hI (uI (uI (uI h 90 1 s1) 91 (Int32.toNatClampNeg (hI (uI h 90 1 s1) 90 1)) x2) 92 (Int32.toNatClampNeg (hI (uI (uI h 90 1 s1) 91 (Int32.toNatClampNeg (hI (uI h 90 1 s1) 90 1)) x2) 90 1)) x3) 90 1), .ref 93]) rfl (Nat.le_of_ble_eq_true rfl) (dOk_at dt_X4_record 35 rfl) (fun v_3 h_4 _ => ?_)
    refine j_iast hC St_SP (show shp 93 = (21, 20) from rfl) (Nat.lt_of_lt_of_le (Nat.le_of_ble_eq_true rfl : 93 < 152) hN) (dOk_at dt_X4_record 36 rfl) ?_
    refine j_aload_n hC 0 rfl rfl (dOk_at dt_X4_record 37 rfl) ?_
    refine j_getR hC flX4_28 (show shp 90 = (4, 8) from rfl) (Nat.lt_of_lt_of_le (Nat.le_of_ble_eq_true rfl : 90 < 152) hN) (by decide) (by decide) (fun _ _ _ => rfl) (fun hs => hs 90 5 94 rfl) (dOk_at dt_X4_record 38 rfl) ?_
    refine j_aload_n hC 0 rfl rfl (dOk_at dt_X4_record 39 rfl) ?_
    refine j_getI hC flX4_15 (show shp 90 = (4, 8) from rfl) (Nat.lt_of_lt_of_le (Nat.le_of_ble_eq_true rfl : 90 < 152) hN) (by decide) (by decide) (fun _ _ _ => rfl) (dOk_at dt_X4_record 40 rfl) ?_
    refine j_aload_n hC 1 rfl rfl (dOk_at dt_X4_record 41 rfl) ?_
    refine j_iload_n hC 2 rfl rfl (dOk_at dt_X4_record 42 rfl) ?_
    refine j_callVi hC clX4_43 (fun rz hrz => c_X8_wonBy hN (h1) _ _ rz hrz) h1 (jlt hN h1 (by decide)) (by decide) rfl rfl ⟨Nat.le_of_ble_eq_true rfl, Nat.le_of_ble_eq_true rfl⟩ ⟨Nat.le_refl 0, Nat.le_refl 0⟩ (As := [.int x2]) (st := [.int (hI (uI h_4 93 (Int32.toNatClampNeg (hI (uI (uI (uI h 90 1 s1) 91 (Int32.toNatClampNeg (hI (uI h 90 1 s1) 90 1)) x2) 92 (Int32.toNatClampNeg (hI (uI (uI h 90 1 s1) 91 (Int32.toNatClampNeg (hI (uI h 90 1 s1) 90 1)) x2) 90 1)) x3) 90 1)) v_3) 90 1), .ref 94]) rfl (Nat.le_of_ble_eq_true rfl) (dOk_at dt_X4_record 43 rfl) (fun v_5 h_6 _ => ?_)
    refine j_iast hC St_SP (show shp 94 = (21, 20) from rfl) (Nat.lt_of_lt_of_le (Nat.le_of_ble_eq_true rfl : 94 < 152) hN) (dOk_at dt_X4_record 44 rfl) ?_
    refine j_aload_n hC 0 rfl rfl (dOk_at dt_X4_record 45 rfl) ?_
    refine j_getR hC flX4_31 (show shp 90 = (4, 8) from rfl) (Nat.lt_of_lt_of_le (Nat.le_of_ble_eq_true rfl : 90 < 152) hN) (by decide) (by decide) (fun _ _ _ => rfl) (fun hs => hs 90 6 95 rfl) (dOk_at dt_X4_record 46 rfl) ?_
    refine j_aload_n hC 0 rfl rfl (dOk_at dt_X4_record 47 rfl) ?_
    refine j_getI hC flX4_15 (show shp 90 = (4, 8) from rfl) (Nat.lt_of_lt_of_le (Nat.le_of_ble_eq_true rfl : 90 < 152) hN) (by decide) (by decide) (fun _ _ _ => rfl) (dOk_at dt_X4_record 48 rfl) ?_
    refine j_aload_n hC 1 rfl rfl (dOk_at dt_X4_record 49 rfl) ?_
    refine j_iload_n hC 2 rfl rfl (dOk_at dt_X4_record 50 rfl) ?_
    refine j_callVi hC clX4_46 (fun rz hrz => c_X8_beatenOf hN (h1) _ _ rz hrz) h1 (jlt hN h1 (by decide)) (by decide) rfl rfl ⟨Nat.le_of_ble_eq_true rfl, Nat.le_of_ble_eq_true rfl⟩ ⟨Nat.le_refl 0, Nat.le_refl 0⟩ (As := [.int x2]) (st := [.int (hI (uI h_6 94 (Int32.toNatClampNeg (hI (uI h_4 93 (Int32.toNatClampNeg (hI (uI (uI (uI h 90 1 s1) 91 (Int32.toNatClampNeg (hI (uI h 90 1 s1) 90 1)) x2) 92 (Int32.toNatClampNeg (hI (uI (uI h 90 1 s1) 91 (Int32.toNatClampNeg (hI (uI h 90 1 s1) 90 1)) x2) 90 1)) x3) 90 1)) v_3) 90 1)) v_5) 90 1), .ref 95]) rfl (Nat.le_of_ble_eq_true rfl) (dOk_at dt_X4_record 51 rfl) (fun v_7 h_8 _ => ?_)
    refine j_iast hC St_SP (show shp 95 = (21, 20) from rfl) (Nat.lt_of_lt_of_le (Nat.le_of_ble_eq_true rfl : 95 < 152) hN) (dOk_at dt_X4_record 52 rfl) ?_
    refine j_aload_n hC 0 rfl rfl (dOk_at dt_X4_record 53 rfl) ?_
    refine j_getR hC flX4_34 (show shp 90 = (4, 8) from rfl) (Nat.lt_of_lt_of_le (Nat.le_of_ble_eq_true rfl : 90 < 152) hN) (by decide) (by decide) (fun _ _ _ => rfl) (fun hs => hs 90 7 96 rfl) (dOk_at dt_X4_record 54 rfl) ?_
    refine j_aload_n hC 0 rfl rfl (dOk_at dt_X4_record 55 rfl) ?_
    refine j_getI hC flX4_15 (show shp 90 = (4, 8) from rfl) (Nat.lt_of_lt_of_le (Nat.le_of_ble_eq_true rfl : 90 < 152) hN) (by decide) (by decide) (fun _ _ _ => rfl) (dOk_at dt_X4_record 56 rfl) ?_
    refine j_aload_n hC 1 rfl rfl (dOk_at dt_X4_record 57 rfl) ?_
    refine j_iload_n hC 3 rfl rfl (dOk_at dt_X4_record 58 rfl) ?_
    refine j_callVi hC clX4_49 (fun rz hrz => c_X8_fullOf hN (h1) _ _ rz hrz) h1 (jlt hN h1 (by decide)) (by decide) rfl rfl ⟨Nat.le_of_ble_eq_true rfl, Nat.le_of_ble_eq_true rfl⟩ ⟨Nat.le_refl 0, Nat.le_refl 0⟩ (As := [.int x3]) (st := [.int (hI (uI h_8 95 (Int32.toNatClampNeg (hI (uI h_6 94 (Int32.toNatClampNeg (hI (uI h_4 93 (Int32.toNatClampNeg (hI (uI (uI (uI h 90 1 s1) 91 (Int32.toNatClampNeg (hI (uI h 90 1 s1) 90 1)) x2) 92 (Int32.toNatClampNeg (hI (uI (uI h 90 1 s1) 91 (Int32.toNatClampNeg (hI (uI h 90 1 s1) 90 1)) x2) 90 1)) x3) 90 1)) v_3) 90 1)) v_5) 90 1)) v_7) 90 1), .ref 96]) rfl (Nat.le_of_ble_eq_true rfl) (dOk_at dt_X4_record 59 rfl) (fun v_9 h_10 _ => ?_)
    refine j_iast hC St_SP (show shp 96 = (21, 20) from rfl) (Nat.lt_of_lt_of_le (Nat.le_of_ble_eq_true rfl : 96 < 152) hN) (dOk_at dt_X4_record 60 rfl) ?_
    refine j_aload_n hC 0 rfl rfl (dOk_at dt_X4_record 61 rfl) ?_
    refine j_aload_n hC 0 rfl rfl (dOk_at dt_X4_record 62 rfl) ?_
    refine j_getI hC flX4_9 (show shp 90 = (4, 8) from rfl) (Nat.lt_of_lt_of_le (Nat.le_of_ble_eq_true rfl : 90 < 152) hN) (by decide) (by decide) (fun _ _ _ => rfl) (dOk_at dt_X4_record 63 rfl) ?_
    refine j_iconst hC (v := (1 : Int32)) rfl (dOk_at dt_X4_record 64 rfl) ?_
    refine j_iadd hC (dOk_at dt_X4_record 65 rfl) ?_
    refine j_bipush hC (v := (20 : Int32)) rfl (dOk_at dt_X4_record 66 rfl) ?_
    refine j_mmin hC mtX4_52 ⟨Nat.le_of_ble_eq_true rfl, Nat.le_of_ble_eq_true rfl⟩ ⟨Nat.le_refl 0, Nat.le_refl 0⟩ (Nat.le_of_ble_eq_true rfl) (dOk_at dt_X4_record 67 rfl) ?_
    refine j_putI hC St_SP flX4_9 (show shp 90 = (4, 8) from rfl) (Nat.lt_of_lt_of_le (Nat.le_of_ble_eq_true rfl : 90 < 152) hN) (by decide) (by decide) rfl rfl (dOk_at dt_X4_record 68 rfl) ?_
    exact j_vret hC hret (dOk_at dt_X4_record 69 rfl)
  have b28 : ∀ (h : Hp) (x2 : Int32) (x3 : Int32) , jJ p l e (rmD 1) s m args below meth c 4 sb D ids shp St (fun r => MQ below (jQv sb D ids shp St n r) args s 0 0 (jA sb)) n 0 0 h 28 [(0, .ref 90), (1, .ref r1), (2, .int x2), (3, .int x3)] [.ref 90] (fX4_record_28 r1 h x2 x3) := by
    intro h x2 x3 
    unfold fX4_record_28
    refine j_iconst hC (v := (0 : Int32)) rfl (dOk_at dt_X4_record 15 rfl) ?_
    exact b29 h x2 x3 (0 : Int32) 
  unfold fX4_record
  refine j_aload_n hC 0 rfl rfl (dOk_at dt_X4_record 0 rfl) ?_
  refine j_aload_n hC 0 rfl rfl (dOk_at dt_X4_record 1 rfl) ?_
  refine j_getI hC flX4_15 (show shp 90 = (4, 8) from rfl) (Nat.lt_of_lt_of_le (Nat.le_of_ble_eq_true rfl : 90 < 152) hN) (by decide) (by decide) (fun _ _ _ => rfl) (dOk_at dt_X4_record 2 rfl) ?_
  refine j_iconst hC (v := (1 : Int32)) rfl (dOk_at dt_X4_record 3 rfl) ?_
  refine j_iadd hC (dOk_at dt_X4_record 4 rfl) ?_
  refine j_bipush hC (v := (20 : Int32)) rfl (dOk_at dt_X4_record 5 rfl) ?_
  refine j_icmp_ge hC (tgt := 28) (by decide) (dOk_at dt_X4_record 6 rfl) (fun q_1 => ?_) (fun q_1 => ?_)
  · exact b28 h x2 x3 
  · refine j_aload_n hC 0 rfl rfl (dOk_at dt_X4_record 7 rfl) ?_
    refine j_getI hC flX4_15 (show shp 90 = (4, 8) from rfl) (Nat.lt_of_lt_of_le (Nat.le_of_ble_eq_true rfl : 90 < 152) hN) (by decide) (by decide) (fun _ _ _ => rfl) (dOk_at dt_X4_record 8 rfl) ?_
    refine j_if_lt hC (tgt := 28) (by decide) (dOk_at dt_X4_record 9 rfl) (fun q_2 => ?_) (fun q_2 => ?_)
    · exact b28 h x2 x3 
    · refine j_aload_n hC 0 rfl rfl (dOk_at dt_X4_record 10 rfl) ?_
      refine j_getI hC flX4_15 (show shp 90 = (4, 8) from rfl) (Nat.lt_of_lt_of_le (Nat.le_of_ble_eq_true rfl : 90 < 152) hN) (by decide) (by decide) (fun _ _ _ => rfl) (dOk_at dt_X4_record 11 rfl) ?_
      refine j_iconst hC (v := (1 : Int32)) rfl (dOk_at dt_X4_record 12 rfl) ?_
      refine j_iadd hC (dOk_at dt_X4_record 13 rfl) ?_
      refine j_goto hC (tgt := 29) (by decide) (dOk_at dt_X4_record 14 rfl) ?_
      exact b29 h x2 x3 ((hI h 90 1) + (1 : Int32)) 
def tb_X8_isMember : List (Nat × Instr × Nat) := [(0, .iload_n 1, 1), (1, .ifCond .lt 12, 3), (4, .iload_n 1, 1), (5, .iconst 5, 1), (6, .if_icmp .ge 7, 3), (9, .iconst 1, 1), (10, .goto 4, 3), (13, .iconst 0, 1), (14, .ireturn, 1)]
theorem dt_X8_isMember : dOk cX8_isMember tb_X8_isMember = true := by decide +kernel
def fX8_isMember (tt : Nat) (h : Hp) (x1 : Int32) : Option (Int32 × Hp) := if x1 < 0 then (some ((0 : Int32), h)) else (if (5 : Int32) ≤ x1 then (some ((0 : Int32), h)) else (some ((1 : Int32), h)))
set_option maxRecDepth 100000 in
set_option maxHeartbeats 4000000 in
theorem c_X8_isMember {l : Launch} {sb : State} {D : va_G} {ids : Nat → ClassId} {n : Nat} (hN : 152 ≤ n) {tt : Nat} (ht : shp tt = (8, 15)) (h : Hp) (x1 : Int32) (r : Int32 × Hp) (hr : fX8_isMember tt h x1 = some r) : jM l yX8_isMember cX8_isMember 2 (some .boolean) 0 sb D ids shp St n [.ref tt, .int x1] h (jQi sb D ids shp St n r) := by
  refine jM_of hr rfl (Nat.le_of_ble_eq_true rfl) ?_
  intro p e s m args below meth c hC hret
  unfold fX8_isMember
  refine j_iload_n hC 1 rfl rfl (dOk_at dt_X8_isMember 0 rfl) ?_
  refine j_if_lt hC (tgt := 13) (by decide) (dOk_at dt_X8_isMember 1 rfl) (fun q_1 => ?_) (fun q_1 => ?_)
  · refine j_iconst hC (v := (0 : Int32)) rfl (dOk_at dt_X8_isMember 7 rfl) ?_
    exact j_zretK hC hret rfl (dOk_at dt_X8_isMember 8 rfl)
  · refine j_iload_n hC 1 rfl rfl (dOk_at dt_X8_isMember 2 rfl) ?_
    refine j_iconst hC (v := (5 : Int32)) rfl (dOk_at dt_X8_isMember 3 rfl) ?_
    refine j_icmp_ge hC (tgt := 13) (by decide) (dOk_at dt_X8_isMember 4 rfl) (fun q_2 => ?_) (fun q_2 => ?_)
    · refine j_iconst hC (v := (0 : Int32)) rfl (dOk_at dt_X8_isMember 7 rfl) ?_
      exact j_zretK hC hret rfl (dOk_at dt_X8_isMember 8 rfl)
    · refine j_iconst hC (v := (1 : Int32)) rfl (dOk_at dt_X8_isMember 5 rfl) ?_
      refine j_goto hC (tgt := 14) (by decide) (dOk_at dt_X8_isMember 6 rfl) ?_
      exact j_zretK hC hret rfl (dOk_at dt_X8_isMember 8 rfl)
def tb_X8_isStraw : List (Nat × Instr × Nat) := [(0, .iload_n 1, 1), (1, .ifCond .lt 12, 3), (4, .iload_n 1, 1), (5, .iconst 5, 1), (6, .if_icmp .ge 7, 3), (9, .iconst 1, 1), (10, .goto 4, 3), (13, .iconst 0, 1), (14, .ireturn, 1)]
theorem dt_X8_isStraw : dOk cX8_isStraw tb_X8_isStraw = true := by decide +kernel
def fX8_isStraw (tt : Nat) (h : Hp) (x1 : Int32) : Option (Int32 × Hp) := if x1 < 0 then (some ((0 : Int32), h)) else (if (5 : Int32) ≤ x1 then (some ((0 : Int32), h)) else (some ((1 : Int32), h)))
set_option maxRecDepth 100000 in
set_option maxHeartbeats 4000000 in
theorem c_X8_isStraw {l : Launch} {sb : State} {D : va_G} {ids : Nat → ClassId} {n : Nat} (hN : 152 ≤ n) {tt : Nat} (ht : shp tt = (8, 15)) (h : Hp) (x1 : Int32) (r : Int32 × Hp) (hr : fX8_isStraw tt h x1 = some r) : jM l yX8_isStraw cX8_isStraw 2 (some .boolean) 0 sb D ids shp St n [.ref tt, .int x1] h (jQi sb D ids shp St n r) := by
  refine jM_of hr rfl (Nat.le_of_ble_eq_true rfl) ?_
  intro p e s m args below meth c hC hret
  unfold fX8_isStraw
  refine j_iload_n hC 1 rfl rfl (dOk_at dt_X8_isStraw 0 rfl) ?_
  refine j_if_lt hC (tgt := 13) (by decide) (dOk_at dt_X8_isStraw 1 rfl) (fun q_1 => ?_) (fun q_1 => ?_)
  · refine j_iconst hC (v := (0 : Int32)) rfl (dOk_at dt_X8_isStraw 7 rfl) ?_
    exact j_zretK hC hret rfl (dOk_at dt_X8_isStraw 8 rfl)
  · refine j_iload_n hC 1 rfl rfl (dOk_at dt_X8_isStraw 2 rfl) ?_
    refine j_iconst hC (v := (5 : Int32)) rfl (dOk_at dt_X8_isStraw 3 rfl) ?_
    refine j_icmp_ge hC (tgt := 13) (by decide) (dOk_at dt_X8_isStraw 4 rfl) (fun q_2 => ?_) (fun q_2 => ?_)
    · refine j_iconst hC (v := (0 : Int32)) rfl (dOk_at dt_X8_isStraw 7 rfl) ?_
      exact j_zretK hC hret rfl (dOk_at dt_X8_isStraw 8 rfl)
    · refine j_iconst hC (v := (1 : Int32)) rfl (dOk_at dt_X8_isStraw 5 rfl) ?_
      refine j_goto hC (tgt := 14) (by decide) (dOk_at dt_X8_isStraw 6 rfl) ?_
      exact j_zretK hC hret rfl (dOk_at dt_X8_isStraw 8 rfl)
def tb_X4_takeBack : List (Nat × Instr × Nat) := [(0, .aload_n 0, 1), (1, .getfield 9, 3), (4, .iconst 1, 1), (5, .if_icmp .lt 19, 3), (8, .aload_n 0, 1), (9, .getfield 15, 3), (12, .ifCond .lt 12, 3), (15, .aload_n 0, 1), (16, .getfield 15, 3), (19, .bipush 20, 2), (21, .if_icmp .lt 5, 3), (24, .iconst (-1), 1), (25, .ireturn, 1), (26, .aload_n 0, 1), (27, .getfield 18, 3), (30, .aload_n 0, 1), (31, .getfield 15, 3), (34, .iaload, 1), (35, .istore_n 2, 1), (36, .aload_n 0, 1), (37, .getfield 22, 3), (40, .aload_n 0, 1), (41, .getfield 15, 3), (44, .iaload, 1), (45, .istore_n 3, 1), (46, .aload_n 1, 1), (47, .iload_n 2, 1), (48, .invokevirtual 58, 3), (51, .ifCond .eq 48, 3), (54, .aload_n 1, 1), (55, .getfield 62, 3), (58, .iload_n 2, 1), (59, .aload_n 0, 1), (60, .getfield 25, 3), (63, .aload_n 0, 1), (64, .getfield 15, 3), (67, .iaload, 1), (68, .iastore, 1), (69, .aload_n 1, 1), (70, .getfield 63, 3), (73, .iload_n 2, 1), (74, .aload_n 0, 1), (75, .getfield 28, 3), (78, .aload_n 0, 1), (79, .getfield 15, 3), (82, .iaload, 1), (83, .iastore, 1), (84, .aload_n 1, 1), (85, .getfield 64, 3), (88, .iload_n 2, 1), (89, .aload_n 0, 1), (90, .getfield 31, 3), (93, .aload_n 0, 1), (94, .getfield 15, 3), (97, .iaload, 1), (98, .iastore, 1), (99, .aload_n 1, 1), (100, .iload_n 3, 1), (101, .invokevirtual 65, 3), (104, .ifCond .eq 18, 3), (107, .aload_n 1, 1), (108, .getfield 68, 3), (111, .iload_n 3, 1), (112, .aload_n 0, 1), (113, .getfield 34, 3), (116, .aload_n 0, 1), (117, .getfield 15, 3), (120, .iaload, 1), (121, .iastore, 1), (122, .aload_n 0, 1), (123, .aload_n 0, 1), (124, .getfield 15, 3), (127, .ifCond .le 12, 3), (130, .aload_n 0, 1), (131, .getfield 15, 3), (134, .iconst 1, 1), (135, .isub, 1), (136, .goto 5, 3), (139, .bipush 19, 2), (141, .putfield 15, 3), (144, .aload_n 0, 1), (145, .dup, 1), (146, .getfield 9, 3), (149, .iconst 1, 1), (150, .isub, 1), (151, .putfield 9, 3), (154, .aload_n 0, 1), (155, .getfield 9, 3), (158, .ireturn, 1)]
theorem dt_X4_takeBack : dOk cX4_takeBack tb_X4_takeBack = true := by decide +kernel
def fX4_takeBack_141 (r1 : Nat) (h : Hp) (s1 : Int32) : Option (Int32 × Hp) := some ((hI (uI (uI h 90 1 s1) 90 0 ((hI (uI h 90 1 s1) 90 0) - (1 : Int32))) 90 0), (uI (uI h 90 1 s1) 90 0 ((hI (uI h 90 1 s1) 90 0) - (1 : Int32))))
def fX4_takeBack_122 (r1 : Nat) (h : Hp) : Option (Int32 × Hp) := if (hI h 90 1) ≤ 0 then (fX4_takeBack_141 r1 h (19 : Int32)) else (fX4_takeBack_141 r1 h ((hI h 90 1) - (1 : Int32)))
def fX4_takeBack_99 (r1 : Nat) (h : Hp) (x3 : Int32) : Option (Int32 × Hp) := bnd (fX8_isStraw r1 h x3) (fun v_7 h_8 => if v_7 = 0 then (fX4_takeBack_122 r1 h_8) else (if inb (hI h_8 90 1) 20 then (if inb x3 5 then (fX4_takeBack_122 r1 (uI h_8 (rf r1 5) (Int32.toNatClampNeg x3) (hI h_8 96 (Int32.toNatClampNeg (hI h_8 90 1))))) else none) else none))
def fX4_takeBack (r1 : Nat) (h : Hp) : Option (Int32 × Hp) := if (hI h 90 0) < (1 : Int32) then (some ((-1 : Int32), h)) else (if (hI h 90 1) < 0 then (some ((-1 : Int32), h)) else (if (hI h 90 1) < (20 : Int32) then (if inb (hI h 90 1) 20 then (if inb (hI h 90 1) 20 then (bnd (fX8_isMember r1 h (hI h 91 (Int32.toNatClampNeg (hI h 90 1)))) (fun v_4 h_5 => if v_4 = 0 then (fX4_takeBack_99 r1 h_5 (hI h 92 (Int32.toNatClampNeg (hI h 90 1)))) else (if inb (hI h_5 90 1) 20 then (if inb (hI h 91 (Int32.toNatClampNeg (hI h 90 1))) 5 then (if inb (hI (uI h_5 (rf r1 6) (Int32.toNatClampNeg (hI h 91 (Int32.toNatClampNeg (hI h 90 1)))) (hI h_5 93 (Int32.toNatClampNeg (hI h_5 90 1)))) 90 1) 20 then (if inb (hI h 91 (Int32.toNatClampNeg (hI h 90 1))) 5 then (if inb (hI (uI (uI h_5 (rf r1 6) (Int32.toNatClampNeg (hI h 91 (Int32.toNatClampNeg (hI h 90 1)))) (hI h_5 93 (Int32.toNatClampNeg (hI h_5 90 1)))) (rf r1 7) (Int32.toNatClampNeg (hI h 91 (Int32.toNatClampNeg (hI h 90 1)))) (hI (uI h_5 (rf r1 6) (Int32.toNatClampNeg (hI h 91 (Int32.toNatClampNeg (hI h 90 1)))) (hI h_5 93 (Int32.toNatClampNeg (hI h_5 90 1)))) 94 (Int32.toNatClampNeg (hI (uI h_5 (rf r1 6) (Int32.toNatClampNeg (hI h 91 (Int32.toNatClampNeg (hI h 90 1)))) (hI h_5 93 (Int32.toNatClampNeg (hI h_5 90 1)))) 90 1)))) 90 1) 20 then (if inb (hI h 91 (Int32.toNatClampNeg (hI h 90 1))) 5 then (fX4_takeBack_99 r1 (uI (uI (uI h_5 (rf r1 6) (Int32.toNatClampNeg (hI h 91 (Int32.toNatClampNeg (hI h 90 1)))) (hI h_5 93 (Int32.toNatClampNeg (hI h_5 90 1)))) (rf r1 7) (Int32.toNatClampNeg (hI h 91 (Int32.toNatClampNeg (hI h 90 1)))) (hI (uI h_5 (rf r1 6) (Int32.toNatClampNeg (hI h 91 (Int32.toNatClampNeg (hI h 90 1)))) (hI h_5 93 (Int32.toNatClampNeg (hI h_5 90 1)))) 94 (Int32.toNatClampNeg (hI (uI h_5 (rf r1 6) (Int32.toNatClampNeg (hI h 91 (Int32.toNatClampNeg (hI h 90 1)))) (hI h_5 93 (Int32.toNatClampNeg (hI h_5 90 1)))) 90 1)))) (rf r1 8) (Int32.toNatClampNeg (hI h 91 (Int32.toNatClampNeg (hI h 90 1)))) (hI (uI (uI h_5 (rf r1 6) (Int32.toNatClampNeg (hI h 91 (Int32.toNatClampNeg (hI h 90 1)))) (hI h_5 93 (Int32.toNatClampNeg (hI h_5 90 1)))) (rf r1 7) (Int32.toNatClampNeg (hI h 91 (Int32.toNatClampNeg (hI h 90 1)))) (hI (uI h_5 (rf r1 6) (Int32.toNatClampNeg (hI h 91 (Int32.toNatClampNeg (hI h 90 1)))) (hI h_5 93 (Int32.toNatClampNeg (hI h_5 90 1)))) 94 (Int32.toNatClampNeg (hI (uI h_5 (rf r1 6) (Int32.toNatClampNeg (hI h 91 (Int32.toNatClampNeg (hI h 90 1)))) (hI h_5 93 (Int32.toNatClampNeg (hI h_5 90 1)))) 90 1)))) 95 (Int32.toNatClampNeg (hI (uI (uI h_5 (rf r1 6) (Int32.toNatClampNeg (hI h 91 (Int32.toNatClampNeg (hI h 90 1)))) (hI h_5 93 (Int32.toNatClampNeg (hI h_5 90 1)))) (rf r1 7) (Int32.toNatClampNeg (hI h 91 (Int32.toNatClampNeg (hI h 90 1)))) (hI (uI h_5 (rf r1 6) (Int32.toNatClampNeg (hI h 91 (Int32.toNatClampNeg (hI h 90 1)))) (hI h_5 93 (Int32.toNatClampNeg (hI h_5 90 1)))) 94 (Int32.toNatClampNeg (hI (uI h_5 (rf r1 6) (Int32.toNatClampNeg (hI h 91 (Int32.toNatClampNeg (hI h 90 1)))) (hI h_5 93 (Int32.toNatClampNeg (hI h_5 90 1)))) 90 1)))) 90 1)))) (hI h 92 (Int32.toNatClampNeg (hI h 90 1)))) else none) else none) else none) else none) else none) else none))) else none) else none) else (some ((-1 : Int32), h))))
set_option maxRecDepth 100000 in
set_option maxHeartbeats 4000000 in
theorem c_X4_takeBack {l : Launch} {sb : State} {D : va_G} {ids : Nat → ClassId} {n : Nat} (hN : 152 ≤ n) {r1 : Nat} (h1 : shp r1 = (8, 15)) (h : Hp) (r : Int32 × Hp) (hr : fX4_takeBack r1 h = some r) : jM l yX4_takeBack cX4_takeBack 4 (some .int) 1 sb D ids shp St n [.ref 90, .ref r1] h (jQi sb D ids shp St n r) := by
  refine jM_of hr rfl (Nat.le_of_ble_eq_true rfl) ?_
  intro p e s m args below meth c hC hret
  have b141 : ∀ (h : Hp) (s1 : Int32) , jJ p l e (rmD 1) s m args below meth c 4 sb D ids shp St (fun r => MQ below (jQi sb D ids shp St n r) args s 0 0 (jA sb)) n 0 0 h 141 [(0, .ref 90)] [.int s1, .ref 90] (fX4_takeBack_141 r1 h s1) := by
    intro h s1 
    unfold fX4_takeBack_141
    refine j_putI hC St_SP flX4_15 (show shp 90 = (4, 8) from rfl) (Nat.lt_of_lt_of_le (Nat.le_of_ble_eq_true rfl : 90 < 152) hN) (by decide) (by decide) rfl rfl (dOk_at dt_X4_takeBack 79 rfl) ?_
    refine j_aload_n hC 0 rfl rfl (dOk_at dt_X4_takeBack 80 rfl) ?_
    refine j_dupr hC (dOk_at dt_X4_takeBack 81 rfl) ?_
    refine j_getI hC flX4_9 (show shp 90 = (4, 8) from rfl) (Nat.lt_of_lt_of_le (Nat.le_of_ble_eq_true rfl : 90 < 152) hN) (by decide) (by decide) (fun _ _ _ => rfl) (dOk_at dt_X4_takeBack 82 rfl) ?_
    refine j_iconst hC (v := (1 : Int32)) rfl (dOk_at dt_X4_takeBack 83 rfl) ?_
    refine j_isub hC (dOk_at dt_X4_takeBack 84 rfl) ?_
    refine j_putI hC St_SP flX4_9 (show shp 90 = (4, 8) from rfl) (Nat.lt_of_lt_of_le (Nat.le_of_ble_eq_true rfl : 90 < 152) hN) (by decide) (by decide) rfl rfl (dOk_at dt_X4_takeBack 85 rfl) ?_
    refine j_aload_n hC 0 rfl rfl (dOk_at dt_X4_takeBack 86 rfl) ?_
    refine j_getI hC flX4_9 (show shp 90 = (4, 8) from rfl) (Nat.lt_of_lt_of_le (Nat.le_of_ble_eq_true rfl : 90 < 152) hN) (by decide) (by decide) (fun _ _ _ => rfl) (dOk_at dt_X4_takeBack 87 rfl) ?_
    exact j_iret hC hret (dOk_at dt_X4_takeBack 88 rfl)
  have b122 : ∀ (h : Hp) , jJ p l e (rmD 1) s m args below meth c 4 sb D ids shp St (fun r => MQ below (jQi sb D ids shp St n r) args s 0 0 (jA sb)) n 0 0 h 122 [(0, .ref 90)] [] (fX4_takeBack_122 r1 h ) := by
    intro h 
    unfold fX4_takeBack_122
    refine j_aload_n hC 0 rfl rfl (dOk_at dt_X4_takeBack 69 rfl) ?_
    refine j_aload_n hC 0 rfl rfl (dOk_at dt_X4_takeBack 70 rfl) ?_
    refine j_getI hC flX4_15 (show shp 90 = (4, 8) from rfl) (Nat.lt_of_lt_of_le (Nat.le_of_ble_eq_true rfl : 90 < 152) hN) (by decide) (by decide) (fun _ _ _ => rfl) (dOk_at dt_X4_takeBack 71 rfl) ?_
    refine j_if_le hC (tgt := 139) (by decide) (dOk_at dt_X4_takeBack 72 rfl) (fun q_10 => ?_) (fun q_10 => ?_)
    · refine j_bipush hC (v := (19 : Int32)) rfl (dOk_at dt_X4_takeBack 78 rfl) ?_
      exact b141 h (19 : Int32) 
    · refine j_aload_n hC 0 rfl rfl (dOk_at dt_X4_takeBack 73 rfl) ?_
      refine j_getI hC flX4_15 (show shp 90 = (4, 8) from rfl) (Nat.lt_of_lt_of_le (Nat.le_of_ble_eq_true rfl : 90 < 152) hN) (by decide) (by decide) (fun _ _ _ => rfl) (dOk_at dt_X4_takeBack 74 rfl) ?_
      refine j_iconst hC (v := (1 : Int32)) rfl (dOk_at dt_X4_takeBack 75 rfl) ?_
      refine j_isub hC (dOk_at dt_X4_takeBack 76 rfl) ?_
      refine j_goto hC (tgt := 141) (by decide) (dOk_at dt_X4_takeBack 77 rfl) ?_
      exact b141 h ((hI h 90 1) - (1 : Int32)) 
  have b99 : ∀ (h : Hp) (x3 : Int32) , jJ p l e (rmD 1) s m args below meth c 4 sb D ids shp St (fun r => MQ below (jQi sb D ids shp St n r) args s 0 0 (jA sb)) n 0 0 h 99 [(0, .ref 90), (1, .ref r1), (3, .int x3)] [] (fX4_takeBack_99 r1 h x3) := by
    intro h x3 
    unfold fX4_takeBack_99
    refine j_aload_n hC 1 rfl rfl (dOk_at dt_X4_takeBack 56 rfl) ?_
    refine j_iload_n hC 2 rfl rfl (dOk_at dt_X4_takeBack 57 rfl) ?_
    refine j_callVi hC clX4_65 (fun rz hrz => c_X8_isStraw hN (h1) _ _ rz hrz) h1 (jlt hN h1 (by decide)) (by decide) rfl rfl ⟨Nat.le_of_ble_eq_true rfl, Nat.le_of_ble_eq_true rfl⟩ ⟨Nat.le_refl 0, Nat.le_refl 0⟩ (As := [.int x3]) (st := []) rfl (Nat.le_of_ble_eq_true rfl) (dOk_at dt_X4_takeBack 58 rfl) (fun v_7 h_8 _ => ?_)
    refine j_if_eq hC (tgt := 122) (by decide) (dOk_at dt_X4_takeBack 59 rfl) (fun q_9 => ?_) (fun q_9 => ?_)
    · refine j_sub [0] rfl ?_
      exact b122 h_8 
    · refine j_aload_n hC 1 rfl rfl (dOk_at dt_X4_takeBack 60 rfl) ?_
      refine j_getR hC flX4_68 h1 (jlt hN h1 (by decide)) (by decide) (by decide) (fun _ _ _ => rfl) (fun hs => hs _ _ _ (sf_8_5 h1).1) (dOk_at dt_X4_takeBack 61 rfl) ?_
      refine j_iload_n hC 2 rfl rfl (dOk_at dt_X4_takeBack 62 rfl) ?_
      refine j_aload_n hC 0 rfl rfl (dOk_at dt_X4_takeBack 63 rfl) ?_
      refine j_getR hC flX4_34 (show shp 90 = (4, 8) from rfl) (Nat.lt_of_lt_of_le (Nat.le_of_ble_eq_true rfl : 90 < 152) hN) (by decide) (by decide) (fun _ _ _ => rfl) (fun hs => hs 90 7 96 rfl) (dOk_at dt_X4_takeBack 64 rfl) ?_
      refine j_aload_n hC 0 rfl rfl (dOk_at dt_X4_takeBack 65 rfl) ?_
      refine j_getI hC flX4_15 (show shp 90 = (4, 8) from rfl) (Nat.lt_of_lt_of_le (Nat.le_of_ble_eq_true rfl : 90 < 152) hN) (by decide) (by decide) (fun _ _ _ => rfl) (dOk_at dt_X4_takeBack 66 rfl) ?_
      refine j_iald hC (show shp 96 = (21, 20) from rfl) (Nat.lt_of_lt_of_le (Nat.le_of_ble_eq_true rfl : 96 < 152) hN) (dOk_at dt_X4_takeBack 67 rfl) ?_
      refine j_iast hC St_SP (sf_8_5 h1).2.1 (Nat.lt_of_lt_of_le (sf_8_5 h1).2.2 hN) (dOk_at dt_X4_takeBack 68 rfl) ?_
      refine j_sub [0] rfl ?_
      exact b122 (uI h_8 (rf r1 5) (Int32.toNatClampNeg x3) (hI h_8 96 (Int32.toNatClampNeg (hI h_8 90 1)))) 
  unfold fX4_takeBack
  refine j_aload_n hC 0 rfl rfl (dOk_at dt_X4_takeBack 0 rfl) ?_
  refine j_getI hC flX4_9 (show shp 90 = (4, 8) from rfl) (Nat.lt_of_lt_of_le (Nat.le_of_ble_eq_true rfl : 90 < 152) hN) (by decide) (by decide) (fun _ _ _ => rfl) (dOk_at dt_X4_takeBack 1 rfl) ?_
  refine j_iconst hC (v := (1 : Int32)) rfl (dOk_at dt_X4_takeBack 2 rfl) ?_
  refine j_icmp_lt hC (tgt := 24) (by decide) (dOk_at dt_X4_takeBack 3 rfl) (fun q_1 => ?_) (fun q_1 => ?_)
  · refine j_iconst hC (v := (-1 : Int32)) rfl (dOk_at dt_X4_takeBack 11 rfl) ?_
    exact j_iret hC hret (dOk_at dt_X4_takeBack 12 rfl)
  · refine j_aload_n hC 0 rfl rfl (dOk_at dt_X4_takeBack 4 rfl) ?_
    refine j_getI hC flX4_15 (show shp 90 = (4, 8) from rfl) (Nat.lt_of_lt_of_le (Nat.le_of_ble_eq_true rfl : 90 < 152) hN) (by decide) (by decide) (fun _ _ _ => rfl) (dOk_at dt_X4_takeBack 5 rfl) ?_
    refine j_if_lt hC (tgt := 24) (by decide) (dOk_at dt_X4_takeBack 6 rfl) (fun q_2 => ?_) (fun q_2 => ?_)
    · refine j_iconst hC (v := (-1 : Int32)) rfl (dOk_at dt_X4_takeBack 11 rfl) ?_
      exact j_iret hC hret (dOk_at dt_X4_takeBack 12 rfl)
    · refine j_aload_n hC 0 rfl rfl (dOk_at dt_X4_takeBack 7 rfl) ?_
      refine j_getI hC flX4_15 (show shp 90 = (4, 8) from rfl) (Nat.lt_of_lt_of_le (Nat.le_of_ble_eq_true rfl : 90 < 152) hN) (by decide) (by decide) (fun _ _ _ => rfl) (dOk_at dt_X4_takeBack 8 rfl) ?_
      refine j_bipush hC (v := (20 : Int32)) rfl (dOk_at dt_X4_takeBack 9 rfl) ?_
      refine j_icmp_lt hC (tgt := 26) (by decide) (dOk_at dt_X4_takeBack 10 rfl) (fun q_3 => ?_) (fun q_3 => ?_)
      · refine j_aload_n hC 0 rfl rfl (dOk_at dt_X4_takeBack 13 rfl) ?_
        refine j_getR hC flX4_18 (show shp 90 = (4, 8) from rfl) (Nat.lt_of_lt_of_le (Nat.le_of_ble_eq_true rfl : 90 < 152) hN) (by decide) (by decide) (fun _ _ _ => rfl) (fun hs => hs 90 2 91 rfl) (dOk_at dt_X4_takeBack 14 rfl) ?_
        refine j_aload_n hC 0 rfl rfl (dOk_at dt_X4_takeBack 15 rfl) ?_
        refine j_getI hC flX4_15 (show shp 90 = (4, 8) from rfl) (Nat.lt_of_lt_of_le (Nat.le_of_ble_eq_true rfl : 90 < 152) hN) (by decide) (by decide) (fun _ _ _ => rfl) (dOk_at dt_X4_takeBack 16 rfl) ?_
        refine j_iald hC (show shp 91 = (21, 20) from rfl) (Nat.lt_of_lt_of_le (Nat.le_of_ble_eq_true rfl : 91 < 152) hN) (dOk_at dt_X4_takeBack 17 rfl) ?_
        refine j_istore_n hC rfl (lv' := [(2, .int (hI h 91 (Int32.toNatClampNeg (hI h 90 1)))), (0, .ref 90), (1, .ref r1)]) (by decide) rfl (dOk_at dt_X4_takeBack 18 rfl) ?_
        refine j_aload_n hC 1 rfl rfl (dOk_at dt_X4_takeBack 19 rfl) ?_
        refine j_getR hC flX4_22 (show shp 90 = (4, 8) from rfl) (Nat.lt_of_lt_of_le (Nat.le_of_ble_eq_true rfl : 90 < 152) hN) (by decide) (by decide) (fun _ _ _ => rfl) (fun hs => hs 90 3 92 rfl) (dOk_at dt_X4_takeBack 20 rfl) ?_
        refine j_aload_n hC 1 rfl rfl (dOk_at dt_X4_takeBack 21 rfl) ?_
        refine j_getI hC flX4_15 (show shp 90 = (4, 8) from rfl) (Nat.lt_of_lt_of_le (Nat.le_of_ble_eq_true rfl : 90 < 152) hN) (by decide) (by decide) (fun _ _ _ => rfl) (dOk_at dt_X4_takeBack 22 rfl) ?_
        refine j_iald hC (show shp 92 = (21, 20) from rfl) (Nat.lt_of_lt_of_le (Nat.le_of_ble_eq_true rfl : 92 < 152) hN) (dOk_at dt_X4_takeBack 23 rfl) ?_
        refine j_istore_n hC rfl (lv' := [(3, .int (hI h 92 (Int32.toNatClampNeg (hI h 90 1)))), (2, .int (hI h 91 (Int32.toNatClampNeg (hI h 90 1)))), (0, .ref 90), (1, .ref r1)]) (by decide) rfl (dOk_at dt_X4_takeBack 24 rfl) ?_
        refine j_aload_n hC 3 rfl rfl (dOk_at dt_X4_takeBack 25 rfl) ?_
        refine j_iload_n hC 1 rfl rfl (dOk_at dt_X4_takeBack 26 rfl) ?_
        refine j_callVi hC clX4_58 (fun rz hrz => c_X8_isMember hN (h1) _ _ rz hrz) h1 (jlt hN h1 (by decide)) (by decide) rfl rfl ⟨Nat.le_of_ble_eq_true rfl, Nat.le_of_ble_eq_true rfl⟩ ⟨Nat.le_refl 0, Nat.le_refl 0⟩ (As := [.int (hI h 91 (Int32.toNatClampNeg (hI h 90 1)))]) (st := []) rfl (Nat.le_of_ble_eq_true rfl) (dOk_at dt_X4_takeBack 27 rfl) (fun v_4 h_5 _ => ?_)
        refine j_if_eq hC (tgt := 99) (by decide) (dOk_at dt_X4_takeBack 28 rfl) (fun q_6 => ?_) (fun q_6 => ?_)
        · refine j_sub [2, 3, 0] rfl ?_
          exact b99 h_5 (hI h 92 (Int32.toNatClampNeg (hI h 90 1))) 
        · refine j_aload_n hC 3 rfl rfl (dOk_at dt_X4_takeBack 29 rfl) ?_
          refine j_getR hC flX4_62 h1 (jlt hN h1 (by decide)) (by decide) (by decide) (fun _ _ _ => rfl) (fun hs => hs _ _ _ (sf_8_6 h1).1) (dOk_at dt_X4_takeBack 30 rfl) ?_
          refine j_iload_n hC 1 rfl rfl (dOk_at dt_X4_takeBack 31 rfl) ?_
          refine j_aload_n hC 2 rfl rfl (dOk_at dt_X4_takeBack 32 rfl) ?_
          refine j_getR hC flX4_25 (show shp 90 = (4, 8) from rfl) (Nat.lt_of_lt_of_le (Nat.le_of_ble_eq_true rfl : 90 < 152) hN) (by decide) (by decide) (fun _ _ _ => rfl) (fun hs => hs 90 4 93 rfl) (dOk_at dt_X4_takeBack 33 rfl) ?_
          refine j_aload_n hC 2 rfl rfl (dOk_at dt_X4_takeBack 34 rfl) ?_
          refine j_getI hC flX4_15 (show shp 90 = (4, 8) from rfl) (Nat.lt_of_lt_of_le (Nat.le_of_ble_eq_true rfl : 90 < 152) hN) (by decide) (by decide) (fun _ _ _ => rfl) (dOk_at dt_X4_takeBack 35 rfl) ?_
          refine j_iald hC (show shp 93 = (21, 20) from rfl) (Nat.lt_of_lt_of_le (Nat.le_of_ble_eq_true rfl : 93 < 152) hN) (dOk_at dt_X4_takeBack 36 rfl) ?_
          refine j_iast hC St_SP (sf_8_6 h1).2.1 (Nat.lt_of_lt_of_le (sf_8_6 h1).2.2 hN) (dOk_at dt_X4_takeBack 37 rfl) ?_
          refine j_aload_n hC 3 rfl rfl (dOk_at dt_X4_takeBack 38 rfl) ?_
          refine j_getR hC flX4_63 h1 (jlt hN h1 (by decide)) (by decide) (by decide) (fun _ _ _ => rfl) (fun hs => hs _ _ _ (sf_8_7 h1).1) (dOk_at dt_X4_takeBack 39 rfl) ?_
          refine j_iload_n hC 1 rfl rfl (dOk_at dt_X4_takeBack 40 rfl) ?_
          refine j_aload_n hC 2 rfl rfl (dOk_at dt_X4_takeBack 41 rfl) ?_
          refine j_getR hC flX4_28 (show shp 90 = (4, 8) from rfl) (Nat.lt_of_lt_of_le (Nat.le_of_ble_eq_true rfl : 90 < 152) hN) (by decide) (by decide) (fun _ _ _ => rfl) (fun hs => hs 90 5 94 rfl) (dOk_at dt_X4_takeBack 42 rfl) ?_
          refine j_aload_n hC 2 rfl rfl (dOk_at dt_X4_takeBack 43 rfl) ?_
          refine j_getI hC flX4_15 (show shp 90 = (4, 8) from rfl) (Nat.lt_of_lt_of_le (Nat.le_of_ble_eq_true rfl : 90 < 152) hN) (by decide) (by decide) (fun _ _ _ => rfl) (dOk_at dt_X4_takeBack 44 rfl) ?_
          refine j_iald hC (show shp 94 = (21, 20) from rfl) (Nat.lt_of_lt_of_le (Nat.le_of_ble_eq_true rfl : 94 < 152) hN) (dOk_at dt_X4_takeBack 45 rfl) ?_
          refine j_iast hC St_SP (sf_8_7 h1).2.1 (Nat.lt_of_lt_of_le (sf_8_7 h1).2.2 hN) (dOk_at dt_X4_takeBack 46 rfl) ?_
          refine j_aload_n hC 3 rfl rfl (dOk_at dt_X4_takeBack 47 rfl) ?_
          refine j_getR hC flX4_64 h1 (jlt hN h1 (by decide)) (by decide) (by decide) (fun _ _ _ => rfl) (fun hs => hs _ _ _ (sf_8_8 h1).1) (dOk_at dt_X4_takeBack 48 rfl) ?_
          refine j_iload_n hC 1 rfl rfl (dOk_at dt_X4_takeBack 49 rfl) ?_
          refine j_aload_n hC 2 rfl rfl (dOk_at dt_X4_takeBack 50 rfl) ?_
          refine j_getR hC flX4_31 (show shp 90 = (4, 8) from rfl) (Nat.lt_of_lt_of_le (Nat.le_of_ble_eq_true rfl : 90 < 152) hN) (by decide) (by decide) (fun _ _ _ => rfl) (fun hs => hs 90 6 95 rfl) (dOk_at dt_X4_takeBack 51 rfl) ?_
          refine j_aload_n hC 2 rfl rfl (dOk_at dt_X4_takeBack 52 rfl) ?_
          refine j_getI hC flX4_15 (show shp 90 = (4, 8) from rfl) (Nat.lt_of_lt_of_le (Nat.le_of_ble_eq_true rfl : 90 < 152) hN) (by decide) (by decide) (fun _ _ _ => rfl) (dOk_at dt_X4_takeBack 53 rfl) ?_
          refine j_iald hC (show shp 95 = (21, 20) from rfl) (Nat.lt_of_lt_of_le (Nat.le_of_ble_eq_true rfl : 95 < 152) hN) (dOk_at dt_X4_takeBack 54 rfl) ?_
          refine j_iast hC St_SP (sf_8_8 h1).2.1 (Nat.lt_of_lt_of_le (sf_8_8 h1).2.2 hN) (dOk_at dt_X4_takeBack 55 rfl) ?_
          refine j_sub [2, 3, 0] rfl ?_
          exact b99 (uI (uI (uI h_5 (rf r1 6) (Int32.toNatClampNeg (hI h 91 (Int32.toNatClampNeg (hI h 90 1)))) (hI h_5 93 (Int32.toNatClampNeg (hI h_5 90 1)))) (rf r1 7) (Int32.toNatClampNeg (hI h 91 (Int32.toNatClampNeg (hI h 90 1)))) (hI (uI h_5 (rf r1 6) (Int32.toNatClampNeg (hI h 91 (Int32.toNatClampNeg (hI h 90 1)))) (hI h_5 93 (Int32.toNatClampNeg (hI h_5 90 1)))) 94 (Int32.toNatClampNeg (hI (uI h_5 (rf r1 6) (Int32.toNatClampNeg (hI h 91 (Int32.toNatClampNeg (hI h 90 1)))) (hI h_5 93 (Int32.toNatClampNeg (hI h_5 90 1)))) 90 1)))) (rf r1 8) (Int32.toNatClampNeg (hI h 91 (Int32.toNatClampNeg (hI h 90 1)))) (hI (uI (uI h_5 (rf r1 6) (Int32.toNatClampNeg (hI h 91 (Int32.toNatClampNeg (hI h 90 1)))) (hI h_5 93 (Int32.toNatClampNeg (hI h_5 90 1)))) (rf r1 7) (Int32.toNatClampNeg (hI h 91 (Int32.toNatClampNeg (hI h 90 1)))) (hI (uI h_5 (rf r1 6) (Int32.toNatClampNeg (hI h 91 (Int32.toNatClampNeg (hI h 90 1)))) (hI h_5 93 (Int32.toNatClampNeg (hI h_5 90 1)))) 94 (Int32.toNatClampNeg (hI (uI h_5 (rf r1 6) (Int32.toNatClampNeg (hI h 91 (Int32.toNatClampNeg (hI h 90 1)))) (hI h_5 93 (Int32.toNatClampNeg (hI h_5 90 1)))) 90 1)))) 95 (Int32.toNatClampNeg (hI (uI (uI h_5 (rf r1 6) (Int32.toNatClampNeg (hI h 91 (Int32.toNatClampNeg (hI h 90 1)))) (hI h_5 93 (Int32.toNatClampNeg (hI h_5 90 1)))) (rf r1 7) (Int32.toNatClampNeg (hI h 91 (Int32.toNatClampNeg (hI h 90 1)))) (hI (uI h_5 (rf r1 6) (Int32.toNatClampNeg (hI h 91 (Int32.toNatClampNeg (hI h 90 1)))) (hI h_5 93 (Int32.toNatClampNeg (hI h_5 90 1)))) 94 (Int32.toNatClampNeg (hI (uI h_5 (rf r1 6) (Int32.toNatClampNeg (hI h 91 (Int32.toNatClampNeg (hI h 90 1)))) (hI h_5 93 (Int32.toNatClampNeg (hI h_5 90 1)))) 90 1)))) 90 1)))) (hI h 92 (Int32.toNatClampNeg (hI h 90 1))) 
      · refine j_iconst hC (v := (-1 : Int32)) rfl (dOk_at dt_X4_takeBack 11 rfl) ?_
        exact j_iret hC hret (dOk_at dt_X4_takeBack 12 rfl)
def tb_X5_append : List (Nat × Instr × Nat) := [(0, .bipush 24, 2), (2, .istore_n 2, 1), (3, .iload_n 2, 1), (4, .ifCond .lt 42, 3), (7, .aload_n 0, 1), (8, .getfield 15, 3), (11, .sipush 700, 3), (14, .if_icmp .ge 26, 3), (17, .aload_n 0, 1), (18, .getfield 9, 3), (21, .aload_n 0, 1), (22, .getfield 15, 3), (25, .iload_n 1, 1), (26, .iload_n 2, 1), (27, .ishr, 1), (28, .i2b, 1), (29, .bastore, 1), (30, .aload_n 0, 1), (31, .dup, 1), (32, .getfield 15, 3), (35, .iconst 1, 1), (36, .iadd, 1), (37, .putfield 15, 3), (40, .iinc 2 (-8), 3), (43, .goto (-40), 3), (46, .return_, 1)]
theorem dt_X5_append : dOk cX5_append tb_X5_append = true := by decide +kernel
def fX5_append_40 (rec3 : Hp → Int32 → Int32 → Option (Hp)) (h : Hp) (x1 : Int32) (x2 : Int32) : Option (Hp) := rec3 h x1 (x2 + (-8 : Int32))
def fX5_append_3 : Nat → Hp → Int32 → Int32 → Option (Hp)
  | 0, _, _, _ => none
  | fu + 1, h, x1, x2 => if x2 < 0 then (some h) else (if (700 : Int32) ≤ (hI h 69 1) then (fX5_append_40 (fX5_append_3 fu) h x1 x2) else (if inb (hI h 69 1) 700 then (fX5_append_40 (fX5_append_3 fu) (uI (uI h 70 (Int32.toNatClampNeg (hI h 69 1)) (Int8.toInt32 (Int32.toInt8 (Int8.toInt32 (Int32.toInt8 (x1 >>> (x2 &&& 31))))))) 69 1 ((hI (uI h 70 (Int32.toNatClampNeg (hI h 69 1)) (Int8.toInt32 (Int32.toInt8 (Int8.toInt32 (Int32.toInt8 (x1 >>> (x2 &&& 31))))))) 69 1) + (1 : Int32))) x1 x2) else none))
def fX5_append (h : Hp) (x1 : Int32) : Option (Hp) := fX5_append_3 FU h x1 (24 : Int32)
set_option maxRecDepth 100000 in
set_option maxHeartbeats 4000000 in
theorem c_X5_append {l : Launch} {sb : State} {D : va_G} {ids : Nat → ClassId} {n : Nat} (hN : 152 ≤ n) (h : Hp) (x1 : Int32) (r : Hp) (hr : fX5_append h x1 = some r) : jM l yX5_append cX5_append 3 none 0 sb D ids shp St n [.ref 69, .int x1] h (jQv sb D ids shp St n r) := by
  refine jM_of hr rfl (Nat.le_of_ble_eq_true rfl) ?_
  intro p e s m args below meth c hC hret
  have b40 : ∀ (rec3 : Hp → Int32 → Int32 → Option (Hp)) (hrec3 : ∀ (h : Hp) (x1 : Int32) (x2 : Int32) , jJ p l e (rmD 0) s m args below meth c 3 sb D ids shp St (fun r => MQ below (jQv sb D ids shp St n r) args s 0 0 (jA sb)) n 0 0 h 3 [(0, .ref 69), (1, .int x1), (2, .int x2)] [] (rec3 h x1 x2)) (h : Hp) (x1 : Int32) (x2 : Int32) , jJ p l e (rmD 0) s m args below meth c 3 sb D ids shp St (fun r => MQ below (jQv sb D ids shp St n r) args s 0 0 (jA sb)) n 0 0 h 40 [(0, .ref 69), (1, .int x1), (2, .int x2)] [] (fX5_append_40 rec3 h x1 x2) := by
    intro rec3 hrec3 h x1 x2 
    unfold fX5_append_40
    refine j_iinc hC (v := (x2 + (-8 : Int32))) (lv' := [(2, .int (x2 + (-8 : Int32))), (0, .ref 69), (1, .int x1)]) 2 rfl (congrArg (fun z => x2 + z) (show Int32.ofInt (-8) = (-8 : Int32) from by decide)) (by decide) rfl (dOk_at dt_X5_append 23 rfl) ?_
    refine j_goto hC (tgt := 3) (by decide) (dOk_at dt_X5_append 24 rfl) ?_
    refine j_sub [1, 2, 0] rfl ?_
    exact hrec3 h x1 (x2 + (-8 : Int32)) 
  have b3 : ∀ (fu : Nat) (h : Hp) (x1 : Int32) (x2 : Int32) , jJ p l e (rmD 0) s m args below meth c 3 sb D ids shp St (fun r => MQ below (jQv sb D ids shp St n r) args s 0 0 (jA sb)) n 0 0 h 3 [(0, .ref 69), (1, .int x1), (2, .int x2)] [] (fX5_append_3 fu h x1 x2) := by
    intro fu 
    induction fu with
    | zero => intro h x1 x2 ; exact j_none
    | succ fu ih =>
    intro h x1 x2 
    rw [fX5_append_3]
    refine j_iload_n hC 2 rfl rfl (dOk_at dt_X5_append 2 rfl) ?_
    refine j_if_lt hC (tgt := 46) (by decide) (dOk_at dt_X5_append 3 rfl) (fun q_1 => ?_) (fun q_1 => ?_)
    · exact j_vret hC hret (dOk_at dt_X5_append 25 rfl)
    · refine j_aload_n hC 0 rfl rfl (dOk_at dt_X5_append 4 rfl) ?_
      refine j_getI hC flX5_15 (show shp 69 = (5, 16) from rfl) (Nat.lt_of_lt_of_le (Nat.le_of_ble_eq_true rfl : 69 < 152) hN) (by decide) (by decide) (fun _ _ _ => rfl) (dOk_at dt_X5_append 5 rfl) ?_
      refine j_sipush hC (v := (700 : Int32)) rfl (dOk_at dt_X5_append 6 rfl) ?_
      refine j_icmp_ge hC (tgt := 40) (by decide) (dOk_at dt_X5_append 7 rfl) (fun q_2 => ?_) (fun q_2 => ?_)
      · exact b40 (fX5_append_3 fu) ih h x1 x2 
      · refine j_aload_n hC 0 rfl rfl (dOk_at dt_X5_append 8 rfl) ?_
        refine j_getR hC flX5_9 (show shp 69 = (5, 16) from rfl) (Nat.lt_of_lt_of_le (Nat.le_of_ble_eq_true rfl : 69 < 152) hN) (by decide) (by decide) (fun _ _ _ => rfl) (fun hs => hs 69 0 70 rfl) (dOk_at dt_X5_append 9 rfl) ?_
        refine j_aload_n hC 0 rfl rfl (dOk_at dt_X5_append 10 rfl) ?_
        refine j_getI hC flX5_15 (show shp 69 = (5, 16) from rfl) (Nat.lt_of_lt_of_le (Nat.le_of_ble_eq_true rfl : 69 < 152) hN) (by decide) (by decide) (fun _ _ _ => rfl) (dOk_at dt_X5_append 11 rfl) ?_
        refine j_iload_n hC 1 rfl rfl (dOk_at dt_X5_append 12 rfl) ?_
        refine j_iload_n hC 2 rfl rfl (dOk_at dt_X5_append 13 rfl) ?_
        refine j_ishr hC (dOk_at dt_X5_append 14 rfl) ?_
        refine j_i2b hC (dOk_at dt_X5_append 15 rfl) ?_
        refine j_bast hC St_SP (show shp 70 = (20, 700) from rfl) (Nat.lt_of_lt_of_le (Nat.le_of_ble_eq_true rfl : 70 < 152) hN) (dOk_at dt_X5_append 16 rfl) ?_
        refine j_aload_n hC 0 rfl rfl (dOk_at dt_X5_append 17 rfl) ?_
        refine j_dupr hC (dOk_at dt_X5_append 18 rfl) ?_
        refine j_getI hC flX5_15 (show shp 69 = (5, 16) from rfl) (Nat.lt_of_lt_of_le (Nat.le_of_ble_eq_true rfl : 69 < 152) hN) (by decide) (by decide) (fun _ _ _ => rfl) (dOk_at dt_X5_append 19 rfl) ?_
        refine j_iconst hC (v := (1 : Int32)) rfl (dOk_at dt_X5_append 20 rfl) ?_
        refine j_iadd hC (dOk_at dt_X5_append 21 rfl) ?_
        refine j_putI hC St_SP flX5_15 (show shp 69 = (5, 16) from rfl) (Nat.lt_of_lt_of_le (Nat.le_of_ble_eq_true rfl : 69 < 152) hN) (by decide) (by decide) rfl rfl (dOk_at dt_X5_append 22 rfl) ?_
        exact b40 (fX5_append_3 fu) ih (uI (uI h 70 (Int32.toNatClampNeg (hI h 69 1)) (Int8.toInt32 (Int32.toInt8 (Int8.toInt32 (Int32.toInt8 (x1 >>> (x2 &&& 31))))))) 69 1 ((hI (uI h 70 (Int32.toNatClampNeg (hI h 69 1)) (Int8.toInt32 (Int32.toInt8 (Int8.toInt32 (Int32.toInt8 (x1 >>> (x2 &&& 31))))))) 69 1) + (1 : Int32))) x1 x2 
  unfold fX5_append
  refine j_bipush hC (v := (24 : Int32)) rfl (dOk_at dt_X5_append 0 rfl) ?_
  refine j_istore_n hC rfl (lv' := [(2, .int (24 : Int32)), (0, .ref 69), (1, .int x1)]) (by decide) rfl (dOk_at dt_X5_append 1 rfl) ?_
  refine j_sub [1, 2, 0] rfl ?_
  exact b3 FU h x1 (24 : Int32) 
def tb_X7_clear : List (Nat × Instr × Nat) := [(0, .aload_n 0, 1), (1, .getfield 12, 3), (4, .invokevirtual 88, 3), (7, .aload_n 0, 1), (8, .getfield 23, 3), (11, .iconst 0, 1), (12, .putfield 91, 3), (15, .aload_n 0, 1), (16, .getfield 34, 3), (19, .iconst 0, 1), (20, .putfield 91, 3), (23, .aload_n 0, 1), (24, .iconst 0, 1), (25, .putfield 40, 3), (28, .aload_n 0, 1), (29, .iconst 0, 1), (30, .putfield 53, 3), (33, .aload_n 0, 1), (34, .iconst 0, 1), (35, .putfield 62, 3), (38, .aload_n 0, 1), (39, .iconst 0, 1), (40, .putfield 65, 3), (43, .aload_n 0, 1), (44, .iconst 0, 1), (45, .putfield 69, 3), (48, .aload_n 0, 1), (49, .iconst 0, 1), (50, .putfield 72, 3), (53, .iconst 0, 1), (54, .istore_n 1, 1), (55, .iload_n 1, 1), (56, .iconst 3, 1), (57, .if_icmp .ge 18, 3), (60, .aload_n 0, 1), (61, .getfield 77, 3), (64, .iload_n 1, 1), (65, .aaload, 1), (66, .invokevirtual 94, 3), (69, .iinc 1 1, 3), (72, .goto (-17), 3), (75, .aload_n 0, 1), (76, .iconst 0, 1), (77, .putfield 82, 3), (80, .aload_n 0, 1), (81, .iconst 0, 1), (82, .putfield 85, 3), (85, .return_, 1)]
theorem dt_X7_clear : dOk cX7_clear tb_X7_clear = true := by decide +kernel
def fX7_clear_55 : Nat → (Nat) → Hp → Int32 → Option (Hp)
  | 0, _, _, _ => none
  | fu + 1, tt, h, x1 => if (3 : Int32) ≤ x1 then (some (uI (uI h tt 18 (0 : Int32)) tt 19 (0 : Int32))) else (if inb x1 3 then (dref shp h (rf tt 17) (Int32.toNatClampNeg x1) (1, 4)).bind (fun z_4 => (fX1_clear z_4 h).bind (fun h_7 => (fX7_clear_55 fu tt) h_7 (x1 + (1 : Int32)))) else none)
def fX7_clear (tt : Nat) (h : Hp) : Option (Hp) := (fX0_clear (rf tt 0) h).bind (fun h_2 => fX7_clear_55 FU tt (uI (uI (uI (uI (uI (uI (uI (uI h_2 (rf tt 1) 2 (0 : Int32)) (rf tt 4) 2 (0 : Int32)) tt 6 (0 : Int32)) tt 10 (0 : Int32)) tt 13 (0 : Int32)) tt 14 (0 : Int32)) tt 15 (0 : Int32)) tt 16 (0 : Int32)) (0 : Int32))
set_option maxRecDepth 100000 in
set_option maxHeartbeats 4000000 in
theorem c_X7_clear {l : Launch} {sb : State} {D : va_G} {ids : Nat → ClassId} {n : Nat} (hN : 152 ≤ n) {tt : Nat} (ht : shp tt = (7, 20)) (h : Hp) (r : Hp) (hr : fX7_clear tt h = some r) : jM l yX7_clear cX7_clear 2 none 1 sb D ids shp St n [.ref tt] h (jQv sb D ids shp St n r) := by
  refine jM_of hr rfl (Nat.le_of_ble_eq_true rfl) ?_
  intro p e s m args below meth c hC hret
  have b55 : ∀ (fu : Nat) (h : Hp) (x1 : Int32) , jJ p l e (rmD 1) s m args below meth c 2 sb D ids shp St (fun r => MQ below (jQv sb D ids shp St n r) args s 0 0 (jA sb)) n 0 0 h 55 [(0, .ref tt), (1, .int x1)] [] (fX7_clear_55 fu tt h x1) := by
    intro fu 
    induction fu with
    | zero => intro h x1 ; exact j_none
    | succ fu ih =>
    intro h x1 
    rw [fX7_clear_55]
    refine j_iload_n hC 1 rfl rfl (dOk_at dt_X7_clear 31 rfl) ?_
    refine j_iconst hC (v := (3 : Int32)) rfl (dOk_at dt_X7_clear 32 rfl) ?_
    refine j_icmp_ge hC (tgt := 75) (by decide) (dOk_at dt_X7_clear 33 rfl) (fun q_3 => ?_) (fun q_3 => ?_)
    · refine j_aload_n hC 0 rfl rfl (dOk_at dt_X7_clear 41 rfl) ?_
      refine j_iconst hC (v := (0 : Int32)) rfl (dOk_at dt_X7_clear 42 rfl) ?_
      refine j_putI hC St_SP flX7_82 ht (jlt hN ht (by decide)) (by decide) (by decide) rfl rfl (dOk_at dt_X7_clear 43 rfl) ?_
      refine j_aload_n hC 0 rfl rfl (dOk_at dt_X7_clear 44 rfl) ?_
      refine j_iconst hC (v := (0 : Int32)) rfl (dOk_at dt_X7_clear 45 rfl) ?_
      refine j_putI hC St_SP flX7_85 ht (jlt hN ht (by decide)) (by decide) (by decide) rfl rfl (dOk_at dt_X7_clear 46 rfl) ?_
      exact j_vret hC hret (dOk_at dt_X7_clear 47 rfl)
    · refine j_aload_n hC 0 rfl rfl (dOk_at dt_X7_clear 34 rfl) ?_
      refine j_getR hC flX7_77 ht (jlt hN ht (by decide)) (by decide) (by decide) (fun _ _ _ => rfl) (fun hs => hs _ _ _ (sf_7_17 ht).1) (dOk_at dt_X7_clear 35 rfl) ?_
      refine j_iload_n hC 1 rfl rfl (dOk_at dt_X7_clear 36 rfl) ?_
      refine j_aald (q := (1, 4)) hC (sf_7_17 ht).2.1 (Nat.lt_of_lt_of_le (sf_7_17 ht).2.2 hN) (dOk_at dt_X7_clear 37 rfl) (fun z_4 _ g_5 => ?_)
      refine j_callVv hC clX7_94 (fun rz hrz => c_X1_clear hN (g_5) _ rz hrz) g_5 (jlt hN g_5 (by decide)) (by decide) rfl rfl ⟨Nat.le_of_ble_eq_true rfl, Nat.le_of_ble_eq_true rfl⟩ ⟨Nat.le_refl 0, Nat.le_refl 0⟩ (As := []) (st := []) rfl (Nat.le_of_ble_eq_true rfl) (dOk_at dt_X7_clear 38 rfl) (fun h_7 _ => ?_)
      refine j_iinc hC (v := (x1 + (1 : Int32))) (lv' := [(1, .int (x1 + (1 : Int32))), (0, .ref tt)]) 1 rfl (congrArg (fun z => x1 + z) (show Int32.ofInt (1) = (1 : Int32) from by decide)) (by decide) rfl (dOk_at dt_X7_clear 39 rfl) ?_
      refine j_goto hC (tgt := 55) (by decide) (dOk_at dt_X7_clear 40 rfl) ?_
      refine j_sub [1, 0] rfl ?_
      exact ih h_7 (x1 + (1 : Int32)) 
  unfold fX7_clear
  refine j_aload_n hC 0 rfl rfl (dOk_at dt_X7_clear 0 rfl) ?_
  refine j_getR hC flX7_12 ht (jlt hN ht (by decide)) (by decide) (by decide) (fun _ _ _ => rfl) (fun hs => hs _ _ _ (sf_7_0 ht).1) (dOk_at dt_X7_clear 1 rfl) ?_
  refine j_callVv hC clX7_88 (fun rz hrz => c_X0_clear hN ((sf_7_0 ht).2.1) _ rz hrz) (sf_7_0 ht).2.1 (Nat.lt_of_lt_of_le (sf_7_0 ht).2.2 hN) (by decide) rfl rfl ⟨Nat.le_of_ble_eq_true rfl, Nat.le_of_ble_eq_true rfl⟩ ⟨Nat.le_refl 0, Nat.le_refl 0⟩ (As := []) (st := []) rfl (Nat.le_of_ble_eq_true rfl) (dOk_at dt_X7_clear 2 rfl) (fun h_2 _ => ?_)
  refine j_aload_n hC 0 rfl rfl (dOk_at dt_X7_clear 3 rfl) ?_
  refine j_getR hC flX7_23 ht (jlt hN ht (by decide)) (by decide) (by decide) (fun _ _ _ => rfl) (fun hs => hs _ _ _ (sf_7_1 ht).1) (dOk_at dt_X7_clear 4 rfl) ?_
  refine j_iconst hC (v := (0 : Int32)) rfl (dOk_at dt_X7_clear 5 rfl) ?_
  refine j_putI hC St_SP flX7_91 (sf_7_1 ht).2.1 (Nat.lt_of_lt_of_le (sf_7_1 ht).2.2 hN) (by decide) (by decide) rfl rfl (dOk_at dt_X7_clear 6 rfl) ?_
  refine j_aload_n hC 0 rfl rfl (dOk_at dt_X7_clear 7 rfl) ?_
  refine j_getR hC flX7_34 ht (jlt hN ht (by decide)) (by decide) (by decide) (fun _ _ _ => rfl) (fun hs => hs _ _ _ (sf_7_4 ht).1) (dOk_at dt_X7_clear 8 rfl) ?_
  refine j_iconst hC (v := (0 : Int32)) rfl (dOk_at dt_X7_clear 9 rfl) ?_
  refine j_putI hC St_SP flX7_91 (sf_7_4 ht).2.1 (Nat.lt_of_lt_of_le (sf_7_4 ht).2.2 hN) (by decide) (by decide) rfl rfl (dOk_at dt_X7_clear 10 rfl) ?_
  refine j_aload_n hC 0 rfl rfl (dOk_at dt_X7_clear 11 rfl) ?_
  refine j_iconst hC (v := (0 : Int32)) rfl (dOk_at dt_X7_clear 12 rfl) ?_
  refine j_putI hC St_SP flX7_40 ht (jlt hN ht (by decide)) (by decide) (by decide) rfl rfl (dOk_at dt_X7_clear 13 rfl) ?_
  refine j_aload_n hC 0 rfl rfl (dOk_at dt_X7_clear 14 rfl) ?_
  refine j_iconst hC (v := (0 : Int32)) rfl (dOk_at dt_X7_clear 15 rfl) ?_
  refine j_putI hC St_SP flX7_53 ht (jlt hN ht (by decide)) (by decide) (by decide) rfl rfl (dOk_at dt_X7_clear 16 rfl) ?_
  refine j_aload_n hC 0 rfl rfl (dOk_at dt_X7_clear 17 rfl) ?_
  refine j_iconst hC (v := (0 : Int32)) rfl (dOk_at dt_X7_clear 18 rfl) ?_
  refine j_putI hC St_SP flX7_62 ht (jlt hN ht (by decide)) (by decide) (by decide) rfl rfl (dOk_at dt_X7_clear 19 rfl) ?_
  refine j_aload_n hC 0 rfl rfl (dOk_at dt_X7_clear 20 rfl) ?_
  refine j_iconst hC (v := (0 : Int32)) rfl (dOk_at dt_X7_clear 21 rfl) ?_
  refine j_putZ hC St_SP flX7_65 ht (jlt hN ht (by decide)) (by decide) (by decide) rfl rfl rfl (dOk_at dt_X7_clear 22 rfl) ?_
  refine j_aload_n hC 0 rfl rfl (dOk_at dt_X7_clear 23 rfl) ?_
  refine j_iconst hC (v := (0 : Int32)) rfl (dOk_at dt_X7_clear 24 rfl) ?_
  refine j_putI hC St_SP flX7_69 ht (jlt hN ht (by decide)) (by decide) (by decide) rfl rfl (dOk_at dt_X7_clear 25 rfl) ?_
  refine j_aload_n hC 0 rfl rfl (dOk_at dt_X7_clear 26 rfl) ?_
  refine j_iconst hC (v := (0 : Int32)) rfl (dOk_at dt_X7_clear 27 rfl) ?_
  refine j_putZ hC St_SP flX7_72 ht (jlt hN ht (by decide)) (by decide) (by decide) rfl rfl rfl (dOk_at dt_X7_clear 28 rfl) ?_
  refine j_iconst hC (v := (0 : Int32)) rfl (dOk_at dt_X7_clear 29 rfl) ?_
  refine j_istore_n hC rfl (lv' := [(1, .int (0 : Int32)), (0, .ref tt)]) (by decide) rfl (dOk_at dt_X7_clear 30 rfl) ?_
  refine j_sub [1, 0] rfl ?_
  exact b55 FU (uI (uI (uI (uI (uI (uI (uI (uI h_2 (rf tt 1) 2 (0 : Int32)) (rf tt 4) 2 (0 : Int32)) tt 6 (0 : Int32)) tt 10 (0 : Int32)) tt 13 (0 : Int32)) tt 14 (0 : Int32)) tt 15 (0 : Int32)) tt 16 (0 : Int32)) (0 : Int32) 
def tb_X5_readWord : List (Nat × Instr × Nat) := [(0, .aload_n 0, 1), (1, .iconst 0, 1), (2, .putfield 101, 3), (5, .bipush 25, 2), (7, .istore_n 1, 1), (8, .aload_n 0, 1), (9, .getfield 67, 3), (12, .aload_n 0, 1), (13, .getfield 62, 3), (16, .if_icmp .ge 86, 3), (19, .aload_n 0, 1), (20, .getfield 67, 3), (23, .sipush 700, 3), (26, .if_icmp .ge 76, 3), (29, .aload_n 0, 1), (30, .getfield 9, 3), (33, .aload_n 0, 1), (34, .getfield 67, 3), (37, .baload, 1), (38, .bipush 97, 2), (40, .if_icmp .lt 62, 3), (43, .aload_n 0, 1), (44, .getfield 9, 3), (47, .aload_n 0, 1), (48, .getfield 67, 3), (51, .baload, 1), (52, .bipush 122, 2), (54, .if_icmp .gt 48, 3), (57, .iload_n 1, 1), (58, .ifCond .lt 28, 3), (61, .aload_n 0, 1), (62, .dup, 1), (63, .getfield 101, 3), (66, .aload_n 0, 1), (67, .getfield 9, 3), (70, .aload_n 0, 1), (71, .getfield 67, 3), (74, .baload, 1), (75, .bipush 97, 2), (77, .isub, 1), (78, .iconst 1, 1), (79, .iadd, 1), (80, .iload_n 1, 1), (81, .ishl, 1), (82, .ior, 1), (83, .putfield 101, 3), (86, .iinc 1 (-5), 3), (89, .aload_n 0, 1), (90, .dup, 1), (91, .getfield 67, 3), (94, .iconst 1, 1), (95, .iadd, 1), (96, .putfield 67, 3), (99, .goto (-91), 3), (102, .aload_n 0, 1), (103, .iload_n 1, 1), (104, .bipush (-5), 2), (106, .if_icmp .ge 7, 3), (109, .iconst 1, 1), (110, .goto 4, 3), (113, .iconst 2, 1), (114, .putfield 79, 3), (117, .iconst 0, 1), (118, .istore_n 2, 1), (119, .iload_n 2, 1), (120, .bipush 23, 2), (122, .if_icmp .ge 40, 3), (125, .aload_n 0, 1), (126, .getfield 79, 3), (129, .iconst 2, 1), (130, .if_icmp .ne 32, 3), (133, .aload_n 0, 1), (134, .getfield 33, 3), (137, .iload_n 2, 1), (138, .iaload, 1), (139, .aload_n 0, 1), (140, .getfield 101, 3), (143, .if_icmp .ne 13, 3), (146, .aload_n 0, 1), (147, .iload_n 2, 1), (148, .putfield 88, 3), (151, .aload_n 0, 1), (152, .iconst 3, 1), (153, .putfield 79, 3), (156, .iinc 2 1, 3), (159, .goto (-40), 3), (162, .aload_n 0, 1), (163, .getfield 88, 3), (166, .bipush 13, 2), (168, .if_icmp .eq 12, 3), (171, .aload_n 0, 1), (172, .getfield 88, 3), (175, .bipush 14, 2), (177, .if_icmp .ne 27, 3), (180, .aload_n 0, 1), (181, .bipush 8, 2), (183, .putfield 79, 3), (186, .aload_n 0, 1), (187, .aload_n 0, 1), (188, .getfield 88, 3), (191, .bipush 13, 2), (193, .if_icmp .ne 7, 3), (196, .iconst 0, 1), (197, .goto 4, 3), (200, .iconst 1, 1), (201, .putfield 85, 3), (204, .return_, 1)]
theorem dt_X5_readWord : dOk cX5_readWord tb_X5_readWord = true := by decide +kernel
def fX5_readWord_180 (h : Hp) : Option (Hp) := if (hI (uI h 69 7 (8 : Int32)) 69 11) = (13 : Int32) then (some (uI (uI h 69 7 (8 : Int32)) 69 13 (0 : Int32))) else (some (uI (uI h 69 7 (8 : Int32)) 69 13 (1 : Int32)))
def fX5_readWord_162 (h : Hp) : Option (Hp) := if (hI h 69 11) = (13 : Int32) then (fX5_readWord_180 h) else (if (hI h 69 11) = (14 : Int32) then (fX5_readWord_180 h) else (some h))
def fX5_readWord_156 (rec119 : Hp → Int32 → Option (Hp)) (h : Hp) (x2 : Int32) : Option (Hp) := rec119 h (x2 + (1 : Int32))
def fX5_readWord_119 : Nat → Hp → Int32 → Option (Hp)
  | 0, _, _ => none
  | fu + 1, h, x2 => if (23 : Int32) ≤ x2 then (fX5_readWord_162 h) else (if (hI h 69 7) = (2 : Int32) then (if inb x2 23 then (if (hI h 71 (Int32.toNatClampNeg x2)) = (hI h 69 10) then (fX5_readWord_156 (fX5_readWord_119 fu) (uI (uI h 69 11 x2) 69 7 (3 : Int32)) x2) else (fX5_readWord_156 (fX5_readWord_119 fu) h x2)) else none) else (fX5_readWord_162 h))
def fX5_readWord_114 (h : Hp) (s1 : Int32) : Option (Hp) := fX5_readWord_119 FU (uI h 69 7 s1) (0 : Int32)
def fX5_readWord_102 (h : Hp) (x1 : Int32) : Option (Hp) := if (-5 : Int32) ≤ x1 then (fX5_readWord_114 h (2 : Int32)) else (fX5_readWord_114 h (1 : Int32))
def fX5_readWord_86 (rec8 : Hp → Int32 → Option (Hp)) (h : Hp) (x1 : Int32) : Option (Hp) := rec8 (uI h 69 6 ((hI h 69 6) + (1 : Int32))) (x1 + (-5 : Int32))
def fX5_readWord_8 : Nat → Hp → Int32 → Option (Hp)
  | 0, _, _ => none
  | fu + 1, h, x1 => if (hI h 69 3) ≤ (hI h 69 6) then (fX5_readWord_102 h x1) else (if (700 : Int32) ≤ (hI h 69 6) then (fX5_readWord_102 h x1) else (if inb (hI h 69 6) 700 then (if (hI h 70 (Int32.toNatClampNeg (hI h 69 6))) < (97 : Int32) then (fX5_readWord_102 h x1) else (if inb (hI h 69 6) 700 then (if (122 : Int32) < (hI h 70 (Int32.toNatClampNeg (hI h 69 6))) then (fX5_readWord_102 h x1) else (if x1 < 0 then (fX5_readWord_86 (fX5_readWord_8 fu) h x1) else (if inb (hI h 69 6) 700 then (fX5_readWord_86 (fX5_readWord_8 fu) (uI h 69 10 ((hI h 69 10) ||| ((((hI h 70 (Int32.toNatClampNeg (hI h 69 6))) - (97 : Int32)) + (1 : Int32)) <<< (x1 &&& 31)))) x1) else none))) else none)) else none))
def fX5_readWord (h : Hp) : Option (Hp) := fX5_readWord_8 FU (uI h 69 10 (0 : Int32)) (25 : Int32)
set_option maxRecDepth 100000 in
set_option maxHeartbeats 4000000 in
theorem c_X5_readWord {l : Launch} {sb : State} {D : va_G} {ids : Nat → ClassId} {n : Nat} (hN : 152 ≤ n) (h : Hp) (r : Hp) (hr : fX5_readWord h = some r) : jM l yX5_readWord cX5_readWord 3 none 0 sb D ids shp St n [.ref 69] h (jQv sb D ids shp St n r) := by
  refine jM_of hr rfl (Nat.le_of_ble_eq_true rfl) ?_
  intro p e s m args below meth c hC hret
  have b180 : ∀ (h : Hp) , jJ p l e (rmD 0) s m args below meth c 3 sb D ids shp St (fun r => MQ below (jQv sb D ids shp St n r) args s 0 0 (jA sb)) n 0 0 h 180 [(0, .ref 69)] [] (fX5_readWord_180 h ) := by
    intro h 
    unfold fX5_readWord_180
    refine j_aload_n hC 0 rfl rfl (dOk_at dt_X5_readWord 94 rfl) ?_
    refine j_bipush hC (v := (8 : Int32)) rfl (dOk_at dt_X5_readWord 95 rfl) ?_
    refine j_putI hC St_SP flX5_79 (show shp 69 = (5, 16) from rfl) (Nat.lt_of_lt_of_le (Nat.le_of_ble_eq_true rfl : 69 < 152) hN) (by decide) (by decide) rfl rfl (dOk_at dt_X5_readWord 96 rfl) ?_
    refine j_aload_n hC 0 rfl rfl (dOk_at dt_X5_readWord 97 rfl) ?_
    refine j_aload_n hC 0 rfl rfl (dOk_at dt_X5_readWord 98 rfl) ?_
    refine j_getI hC flX5_88 (show shp 69 = (5, 16) from rfl) (Nat.lt_of_lt_of_le (Nat.le_of_ble_eq_true rfl : 69 < 152) hN) (by decide) (by decide) (fun _ _ _ => rfl) (dOk_at dt_X5_readWord 99 rfl) ?_
    refine j_bipush hC (v := (13 : Int32)) rfl (dOk_at dt_X5_readWord 100 rfl) ?_
    refine j_icmp_ne hC (tgt := 200) (by decide) (dOk_at dt_X5_readWord 101 rfl) (fun q_12 => ?_) (fun q_12 => ?_)
    · refine j_iconst hC (v := (1 : Int32)) rfl (dOk_at dt_X5_readWord 104 rfl) ?_
      refine j_putI hC St_SP flX5_85 (show shp 69 = (5, 16) from rfl) (Nat.lt_of_lt_of_le (Nat.le_of_ble_eq_true rfl : 69 < 152) hN) (by decide) (by decide) rfl rfl (dOk_at dt_X5_readWord 105 rfl) ?_
      exact j_vret hC hret (dOk_at dt_X5_readWord 106 rfl)
    · refine j_iconst hC (v := (0 : Int32)) rfl (dOk_at dt_X5_readWord 102 rfl) ?_
      refine j_goto hC (tgt := 201) (by decide) (dOk_at dt_X5_readWord 103 rfl) ?_
      refine j_putI hC St_SP flX5_85 (show shp 69 = (5, 16) from rfl) (Nat.lt_of_lt_of_le (Nat.le_of_ble_eq_true rfl : 69 < 152) hN) (by decide) (by decide) rfl rfl (dOk_at dt_X5_readWord 105 rfl) ?_
      exact j_vret hC hret (dOk_at dt_X5_readWord 106 rfl)
  have b162 : ∀ (h : Hp) , jJ p l e (rmD 0) s m args below meth c 3 sb D ids shp St (fun r => MQ below (jQv sb D ids shp St n r) args s 0 0 (jA sb)) n 0 0 h 162 [(0, .ref 69)] [] (fX5_readWord_162 h ) := by
    intro h 
    unfold fX5_readWord_162
    refine j_aload_n hC 0 rfl rfl (dOk_at dt_X5_readWord 86 rfl) ?_
    refine j_getI hC flX5_88 (show shp 69 = (5, 16) from rfl) (Nat.lt_of_lt_of_le (Nat.le_of_ble_eq_true rfl : 69 < 152) hN) (by decide) (by decide) (fun _ _ _ => rfl) (dOk_at dt_X5_readWord 87 rfl) ?_
    refine j_bipush hC (v := (13 : Int32)) rfl (dOk_at dt_X5_readWord 88 rfl) ?_
    refine j_icmp_eq hC (tgt := 180) (by decide) (dOk_at dt_X5_readWord 89 rfl) (fun q_10 => ?_) (fun q_10 => ?_)
    · exact b180 h 
    · refine j_aload_n hC 0 rfl rfl (dOk_at dt_X5_readWord 90 rfl) ?_
      refine j_getI hC flX5_88 (show shp 69 = (5, 16) from rfl) (Nat.lt_of_lt_of_le (Nat.le_of_ble_eq_true rfl : 69 < 152) hN) (by decide) (by decide) (fun _ _ _ => rfl) (dOk_at dt_X5_readWord 91 rfl) ?_
      refine j_bipush hC (v := (14 : Int32)) rfl (dOk_at dt_X5_readWord 92 rfl) ?_
      refine j_icmp_ne hC (tgt := 204) (by decide) (dOk_at dt_X5_readWord 93 rfl) (fun q_11 => ?_) (fun q_11 => ?_)
      · exact j_vret hC hret (dOk_at dt_X5_readWord 106 rfl)
      · exact b180 h 
  have b156 : ∀ (rec119 : Hp → Int32 → Option (Hp)) (hrec119 : ∀ (h : Hp) (x2 : Int32) , jJ p l e (rmD 0) s m args below meth c 3 sb D ids shp St (fun r => MQ below (jQv sb D ids shp St n r) args s 0 0 (jA sb)) n 0 0 h 119 [(0, .ref 69), (2, .int x2)] [] (rec119 h x2)) (h : Hp) (x2 : Int32) , jJ p l e (rmD 0) s m args below meth c 3 sb D ids shp St (fun r => MQ below (jQv sb D ids shp St n r) args s 0 0 (jA sb)) n 0 0 h 156 [(0, .ref 69), (2, .int x2)] [] (fX5_readWord_156 rec119 h x2) := by
    intro rec119 hrec119 h x2 
    unfold fX5_readWord_156
    refine j_iinc hC (v := (x2 + (1 : Int32))) (lv' := [(2, .int (x2 + (1 : Int32))), (0, .ref 69)]) 1 rfl (congrArg (fun z => x2 + z) (show Int32.ofInt (1) = (1 : Int32) from by decide)) (by decide) rfl (dOk_at dt_X5_readWord 84 rfl) ?_
    refine j_goto hC (tgt := 119) (by decide) (dOk_at dt_X5_readWord 85 rfl) ?_
    refine j_sub [1, 0] rfl ?_
    exact hrec119 h (x2 + (1 : Int32)) 
  have b119 : ∀ (fu : Nat) (h : Hp) (x2 : Int32) , jJ p l e (rmD 0) s m args below meth c 3 sb D ids shp St (fun r => MQ below (jQv sb D ids shp St n r) args s 0 0 (jA sb)) n 0 0 h 119 [(0, .ref 69), (2, .int x2)] [] (fX5_readWord_119 fu h x2) := by
    intro fu 
    induction fu with
    | zero => intro h x2 ; exact j_none
    | succ fu ih =>
    intro h x2 
    rw [fX5_readWord_119]
    refine j_iload_n hC 1 rfl rfl (dOk_at dt_X5_readWord 64 rfl) ?_
    refine j_bipush hC (v := (23 : Int32)) rfl (dOk_at dt_X5_readWord 65 rfl) ?_
    refine j_icmp_ge hC (tgt := 162) (by decide) (dOk_at dt_X5_readWord 66 rfl) (fun q_7 => ?_) (fun q_7 => ?_)
    · refine j_sub [0] rfl ?_
      exact b162 h 
    · refine j_aload_n hC 0 rfl rfl (dOk_at dt_X5_readWord 67 rfl) ?_
      refine j_getI hC flX5_79 (show shp 69 = (5, 16) from rfl) (Nat.lt_of_lt_of_le (Nat.le_of_ble_eq_true rfl : 69 < 152) hN) (by decide) (by decide) (fun _ _ _ => rfl) (dOk_at dt_X5_readWord 68 rfl) ?_
      refine j_iconst hC (v := (2 : Int32)) rfl (dOk_at dt_X5_readWord 69 rfl) ?_
      refine j_icmp_ne hC (tgt := 162) (by decide) (dOk_at dt_X5_readWord 70 rfl) (fun q_8 => ?_) (fun q_8 => ?_)
      · refine j_sub [0] rfl ?_
        exact b162 h 
      · refine j_aload_n hC 0 rfl rfl (dOk_at dt_X5_readWord 71 rfl) ?_
        refine j_getR hC flX5_33 (show shp 69 = (5, 16) from rfl) (Nat.lt_of_lt_of_le (Nat.le_of_ble_eq_true rfl : 69 < 152) hN) (by decide) (by decide) (fun _ _ _ => rfl) (fun hs => hs 69 2 71 rfl) (dOk_at dt_X5_readWord 72 rfl) ?_
        refine j_iload_n hC 1 rfl rfl (dOk_at dt_X5_readWord 73 rfl) ?_
        refine j_iald hC (show shp 71 = (21, 23) from rfl) (Nat.lt_of_lt_of_le (Nat.le_of_ble_eq_true rfl : 71 < 152) hN) (dOk_at dt_X5_readWord 74 rfl) ?_
        refine j_aload_n hC 0 rfl rfl (dOk_at dt_X5_readWord 75 rfl) ?_
        refine j_getI hC flX5_101 (show shp 69 = (5, 16) from rfl) (Nat.lt_of_lt_of_le (Nat.le_of_ble_eq_true rfl : 69 < 152) hN) (by decide) (by decide) (fun _ _ _ => rfl) (dOk_at dt_X5_readWord 76 rfl) ?_
        refine j_icmp_ne hC (tgt := 156) (by decide) (dOk_at dt_X5_readWord 77 rfl) (fun q_9 => ?_) (fun q_9 => ?_)
        · exact b156 (fX5_readWord_119 fu) ih h x2 
        · refine j_aload_n hC 0 rfl rfl (dOk_at dt_X5_readWord 78 rfl) ?_
          refine j_iload_n hC 1 rfl rfl (dOk_at dt_X5_readWord 79 rfl) ?_
          refine j_putI hC St_SP flX5_88 (show shp 69 = (5, 16) from rfl) (Nat.lt_of_lt_of_le (Nat.le_of_ble_eq_true rfl : 69 < 152) hN) (by decide) (by decide) rfl rfl (dOk_at dt_X5_readWord 80 rfl) ?_
          refine j_aload_n hC 0 rfl rfl (dOk_at dt_X5_readWord 81 rfl) ?_
          refine j_iconst hC (v := (3 : Int32)) rfl (dOk_at dt_X5_readWord 82 rfl) ?_
          refine j_putI hC St_SP flX5_79 (show shp 69 = (5, 16) from rfl) (Nat.lt_of_lt_of_le (Nat.le_of_ble_eq_true rfl : 69 < 152) hN) (by decide) (by decide) rfl rfl (dOk_at dt_X5_readWord 83 rfl) ?_
          exact b156 (fX5_readWord_119 fu) ih (uI (uI h 69 11 x2) 69 7 (3 : Int32)) x2 
  have b114 : ∀ (h : Hp) (s1 : Int32) , jJ p l e (rmD 0) s m args below meth c 3 sb D ids shp St (fun r => MQ below (jQv sb D ids shp St n r) args s 0 0 (jA sb)) n 0 0 h 114 [(0, .ref 69)] [.int s1, .ref 69] (fX5_readWord_114 h s1) := by
    intro h s1 
    unfold fX5_readWord_114
    refine j_putI hC St_SP flX5_79 (show shp 69 = (5, 16) from rfl) (Nat.lt_of_lt_of_le (Nat.le_of_ble_eq_true rfl : 69 < 152) hN) (by decide) (by decide) rfl rfl (dOk_at dt_X5_readWord 61 rfl) ?_
    refine j_iconst hC (v := (0 : Int32)) rfl (dOk_at dt_X5_readWord 62 rfl) ?_
    refine j_istore_n hC rfl (lv' := [(2, .int (0 : Int32)), (0, .ref 69)]) (by decide) rfl (dOk_at dt_X5_readWord 63 rfl) ?_
    refine j_sub [1, 0] rfl ?_
    exact b119 FU (uI h 69 7 s1) (0 : Int32) 
  have b102 : ∀ (h : Hp) (x1 : Int32) , jJ p l e (rmD 0) s m args below meth c 3 sb D ids shp St (fun r => MQ below (jQv sb D ids shp St n r) args s 0 0 (jA sb)) n 0 0 h 102 [(0, .ref 69), (1, .int x1)] [] (fX5_readWord_102 h x1) := by
    intro h x1 
    unfold fX5_readWord_102
    refine j_aload_n hC 0 rfl rfl (dOk_at dt_X5_readWord 54 rfl) ?_
    refine j_iload_n hC 1 rfl rfl (dOk_at dt_X5_readWord 55 rfl) ?_
    refine j_bipush hC (v := (-5 : Int32)) rfl (dOk_at dt_X5_readWord 56 rfl) ?_
    refine j_icmp_ge hC (tgt := 113) (by decide) (dOk_at dt_X5_readWord 57 rfl) (fun q_6 => ?_) (fun q_6 => ?_)
    · refine j_iconst hC (v := (2 : Int32)) rfl (dOk_at dt_X5_readWord 60 rfl) ?_
      refine j_sub [0] rfl ?_
      exact b114 h (2 : Int32) 
    · refine j_iconst hC (v := (1 : Int32)) rfl (dOk_at dt_X5_readWord 58 rfl) ?_
      refine j_goto hC (tgt := 114) (by decide) (dOk_at dt_X5_readWord 59 rfl) ?_
      refine j_sub [0] rfl ?_
      exact b114 h (1 : Int32) 
  have b86 : ∀ (rec8 : Hp → Int32 → Option (Hp)) (hrec8 : ∀ (h : Hp) (x1 : Int32) , jJ p l e (rmD 0) s m args below meth c 3 sb D ids shp St (fun r => MQ below (jQv sb D ids shp St n r) args s 0 0 (jA sb)) n 0 0 h 8 [(0, .ref 69), (1, .int x1)] [] (rec8 h x1)) (h : Hp) (x1 : Int32) , jJ p l e (rmD 0) s m args below meth c 3 sb D ids shp St (fun r => MQ below (jQv sb D ids shp St n r) args s 0 0 (jA sb)) n 0 0 h 86 [(0, .ref 69), (1, .int x1)] [] (fX5_readWord_86 rec8 h x1) := by
    intro rec8 hrec8 h x1 
    unfold fX5_readWord_86
    refine j_iinc hC (v := (x1 + (-5 : Int32))) (lv' := [(1, .int (x1 + (-5 : Int32))), (0, .ref 69)]) 1 rfl (congrArg (fun z => x1 + z) (show Int32.ofInt (-5) = (-5 : Int32) from by decide)) (by decide) rfl (dOk_at dt_X5_readWord 46 rfl) ?_
    refine j_aload_n hC 1 rfl rfl (dOk_at dt_X5_readWord 47 rfl) ?_
    refine j_dupr hC (dOk_at dt_X5_readWord 48 rfl) ?_
    refine j_getI hC flX5_67 (show shp 69 = (5, 16) from rfl) (Nat.lt_of_lt_of_le (Nat.le_of_ble_eq_true rfl : 69 < 152) hN) (by decide) (by decide) (fun _ _ _ => rfl) (dOk_at dt_X5_readWord 49 rfl) ?_
    refine j_iconst hC (v := (1 : Int32)) rfl (dOk_at dt_X5_readWord 50 rfl) ?_
    refine j_iadd hC (dOk_at dt_X5_readWord 51 rfl) ?_
    refine j_putI hC St_SP flX5_67 (show shp 69 = (5, 16) from rfl) (Nat.lt_of_lt_of_le (Nat.le_of_ble_eq_true rfl : 69 < 152) hN) (by decide) (by decide) rfl rfl (dOk_at dt_X5_readWord 52 rfl) ?_
    refine j_goto hC (tgt := 8) (by decide) (dOk_at dt_X5_readWord 53 rfl) ?_
    refine j_sub [1, 0] rfl ?_
    exact hrec8 (uI h 69 6 ((hI h 69 6) + (1 : Int32))) (x1 + (-5 : Int32)) 
  have b8 : ∀ (fu : Nat) (h : Hp) (x1 : Int32) , jJ p l e (rmD 0) s m args below meth c 3 sb D ids shp St (fun r => MQ below (jQv sb D ids shp St n r) args s 0 0 (jA sb)) n 0 0 h 8 [(0, .ref 69), (1, .int x1)] [] (fX5_readWord_8 fu h x1) := by
    intro fu 
    induction fu with
    | zero => intro h x1 ; exact j_none
    | succ fu ih =>
    intro h x1 
    rw [fX5_readWord_8]
    refine j_aload_n hC 0 rfl rfl (dOk_at dt_X5_readWord 5 rfl) ?_
    refine j_getI hC flX5_67 (show shp 69 = (5, 16) from rfl) (Nat.lt_of_lt_of_le (Nat.le_of_ble_eq_true rfl : 69 < 152) hN) (by decide) (by decide) (fun _ _ _ => rfl) (dOk_at dt_X5_readWord 6 rfl) ?_
    refine j_aload_n hC 0 rfl rfl (dOk_at dt_X5_readWord 7 rfl) ?_
    refine j_getI hC flX5_62 (show shp 69 = (5, 16) from rfl) (Nat.lt_of_lt_of_le (Nat.le_of_ble_eq_true rfl : 69 < 152) hN) (by decide) (by decide) (fun _ _ _ => rfl) (dOk_at dt_X5_readWord 8 rfl) ?_
    refine j_icmp_ge hC (tgt := 102) (by decide) (dOk_at dt_X5_readWord 9 rfl) (fun q_1 => ?_) (fun q_1 => ?_)
    · exact b102 h x1 
    · refine j_aload_n hC 0 rfl rfl (dOk_at dt_X5_readWord 10 rfl) ?_
      refine j_getI hC flX5_67 (show shp 69 = (5, 16) from rfl) (Nat.lt_of_lt_of_le (Nat.le_of_ble_eq_true rfl : 69 < 152) hN) (by decide) (by decide) (fun _ _ _ => rfl) (dOk_at dt_X5_readWord 11 rfl) ?_
      refine j_sipush hC (v := (700 : Int32)) rfl (dOk_at dt_X5_readWord 12 rfl) ?_
      refine j_icmp_ge hC (tgt := 102) (by decide) (dOk_at dt_X5_readWord 13 rfl) (fun q_2 => ?_) (fun q_2 => ?_)
      · exact b102 h x1 
      · refine j_aload_n hC 0 rfl rfl (dOk_at dt_X5_readWord 14 rfl) ?_
        refine j_getR hC flX5_9 (show shp 69 = (5, 16) from rfl) (Nat.lt_of_lt_of_le (Nat.le_of_ble_eq_true rfl : 69 < 152) hN) (by decide) (by decide) (fun _ _ _ => rfl) (fun hs => hs 69 0 70 rfl) (dOk_at dt_X5_readWord 15 rfl) ?_
        refine j_aload_n hC 0 rfl rfl (dOk_at dt_X5_readWord 16 rfl) ?_
        refine j_getI hC flX5_67 (show shp 69 = (5, 16) from rfl) (Nat.lt_of_lt_of_le (Nat.le_of_ble_eq_true rfl : 69 < 152) hN) (by decide) (by decide) (fun _ _ _ => rfl) (dOk_at dt_X5_readWord 17 rfl) ?_
        refine j_bald hC (show shp 70 = (20, 700) from rfl) (Nat.lt_of_lt_of_le (Nat.le_of_ble_eq_true rfl : 70 < 152) hN) (dOk_at dt_X5_readWord 18 rfl) ?_
        refine j_bipush hC (v := (97 : Int32)) rfl (dOk_at dt_X5_readWord 19 rfl) ?_
        refine j_icmp_lt hC (tgt := 102) (by decide) (dOk_at dt_X5_readWord 20 rfl) (fun q_3 => ?_) (fun q_3 => ?_)
        · exact b102 h x1 
        · refine j_aload_n hC 0 rfl rfl (dOk_at dt_X5_readWord 21 rfl) ?_
          refine j_getR hC flX5_9 (show shp 69 = (5, 16) from rfl) (Nat.lt_of_lt_of_le (Nat.le_of_ble_eq_true rfl : 69 < 152) hN) (by decide) (by decide) (fun _ _ _ => rfl) (fun hs => hs 69 0 70 rfl) (dOk_at dt_X5_readWord 22 rfl) ?_
          refine j_aload_n hC 0 rfl rfl (dOk_at dt_X5_readWord 23 rfl) ?_
          refine j_getI hC flX5_67 (show shp 69 = (5, 16) from rfl) (Nat.lt_of_lt_of_le (Nat.le_of_ble_eq_true rfl : 69 < 152) hN) (by decide) (by decide) (fun _ _ _ => rfl) (dOk_at dt_X5_readWord 24 rfl) ?_
          refine j_bald hC (show shp 70 = (20, 700) from rfl) (Nat.lt_of_lt_of_le (Nat.le_of_ble_eq_true rfl : 70 < 152) hN) (dOk_at dt_X5_readWord 25 rfl) ?_
          refine j_bipush hC (v := (122 : Int32)) rfl (dOk_at dt_X5_readWord 26 rfl) ?_
          refine j_icmp_gt hC (tgt := 102) (by decide) (dOk_at dt_X5_readWord 27 rfl) (fun q_4 => ?_) (fun q_4 => ?_)
          · exact b102 h x1 
          · refine j_iload_n hC 1 rfl rfl (dOk_at dt_X5_readWord 28 rfl) ?_
            refine j_if_lt hC (tgt := 86) (by decide) (dOk_at dt_X5_readWord 29 rfl) (fun q_5 => ?_) (fun q_5 => ?_)
            · exact b86 (fX5_readWord_8 fu) ih h x1 
            · refine j_aload_n hC 0 rfl rfl (dOk_at dt_X5_readWord 30 rfl) ?_
              refine j_dupr hC (dOk_at dt_X5_readWord 31 rfl) ?_
              refine j_getI hC flX5_101 (show shp 69 = (5, 16) from rfl) (Nat.lt_of_lt_of_le (Nat.le_of_ble_eq_true rfl : 69 < 152) hN) (by decide) (by decide) (fun _ _ _ => rfl) (dOk_at dt_X5_readWord 32 rfl) ?_
              refine j_aload_n hC 0 rfl rfl (dOk_at dt_X5_readWord 33 rfl) ?_
              refine j_getR hC flX5_9 (show shp 69 = (5, 16) from rfl) (Nat.lt_of_lt_of_le (Nat.le_of_ble_eq_true rfl : 69 < 152) hN) (by decide) (by decide) (fun _ _ _ => rfl) (fun hs => hs 69 0 70 rfl) (dOk_at dt_X5_readWord 34 rfl) ?_
              refine j_aload_n hC 0 rfl rfl (dOk_at dt_X5_readWord 35 rfl) ?_
              refine j_getI hC flX5_67 (show shp 69 = (5, 16) from rfl) (Nat.lt_of_lt_of_le (Nat.le_of_ble_eq_true rfl : 69 < 152) hN) (by decide) (by decide) (fun _ _ _ => rfl) (dOk_at dt_X5_readWord 36 rfl) ?_
              refine j_bald hC (show shp 70 = (20, 700) from rfl) (Nat.lt_of_lt_of_le (Nat.le_of_ble_eq_true rfl : 70 < 152) hN) (dOk_at dt_X5_readWord 37 rfl) ?_
              refine j_bipush hC (v := (97 : Int32)) rfl (dOk_at dt_X5_readWord 38 rfl) ?_
              refine j_isub hC (dOk_at dt_X5_readWord 39 rfl) ?_
              refine j_iconst hC (v := (1 : Int32)) rfl (dOk_at dt_X5_readWord 40 rfl) ?_
              refine j_iadd hC (dOk_at dt_X5_readWord 41 rfl) ?_
              refine j_iload_n hC 1 rfl rfl (dOk_at dt_X5_readWord 42 rfl) ?_
              refine j_ishl hC (dOk_at dt_X5_readWord 43 rfl) ?_
              refine j_ior hC (dOk_at dt_X5_readWord 44 rfl) ?_
              refine j_putI hC St_SP flX5_101 (show shp 69 = (5, 16) from rfl) (Nat.lt_of_lt_of_le (Nat.le_of_ble_eq_true rfl : 69 < 152) hN) (by decide) (by decide) rfl rfl (dOk_at dt_X5_readWord 45 rfl) ?_
              exact b86 (fX5_readWord_8 fu) ih (uI h 69 10 ((hI h 69 10) ||| ((((hI h 70 (Int32.toNatClampNeg (hI h 69 6))) - (97 : Int32)) + (1 : Int32)) <<< (x1 &&& 31)))) x1 
  unfold fX5_readWord
  refine j_aload_n hC 0 rfl rfl (dOk_at dt_X5_readWord 0 rfl) ?_
  refine j_iconst hC (v := (0 : Int32)) rfl (dOk_at dt_X5_readWord 1 rfl) ?_
  refine j_putI hC St_SP flX5_101 (show shp 69 = (5, 16) from rfl) (Nat.lt_of_lt_of_le (Nat.le_of_ble_eq_true rfl : 69 < 152) hN) (by decide) (by decide) rfl rfl (dOk_at dt_X5_readWord 2 rfl) ?_
  refine j_bipush hC (v := (25 : Int32)) rfl (dOk_at dt_X5_readWord 3 rfl) ?_
  refine j_istore_n hC rfl (lv' := [(1, .int (25 : Int32)), (0, .ref 69)]) (by decide) rfl (dOk_at dt_X5_readWord 4 rfl) ?_
  refine j_sub [1, 0] rfl ?_
  exact b8 FU (uI h 69 10 (0 : Int32)) (25 : Int32) 
def tb_X5_readNumber : List (Nat × Instr × Nat) := [(0, .aload_n 0, 1), (1, .iconst 4, 1), (2, .putfield 79, 3), (5, .aload_n 0, 1), (6, .iconst 0, 1), (7, .putfield 104, 3), (10, .aload_n 0, 1), (11, .getfield 67, 3), (14, .aload_n 0, 1), (15, .getfield 62, 3), (18, .if_icmp .ge 94, 3), (21, .aload_n 0, 1), (22, .getfield 67, 3), (25, .sipush 700, 3), (28, .if_icmp .ge 84, 3), (31, .aload_n 0, 1), (32, .getfield 9, 3), (35, .aload_n 0, 1), (36, .getfield 67, 3), (39, .baload, 1), (40, .bipush 48, 2), (42, .if_icmp .lt 70, 3), (45, .aload_n 0, 1), (46, .getfield 9, 3), (49, .aload_n 0, 1), (50, .getfield 67, 3), (53, .baload, 1), (54, .bipush 57, 2), (56, .if_icmp .gt 56, 3), (59, .aload_n 0, 1), (60, .aload_n 0, 1), (61, .getfield 104, 3), (64, .ldc 107, 2), (66, .if_icmp .ge 26, 3), (69, .aload_n 0, 1), (70, .getfield 104, 3), (73, .bipush 10, 2), (75, .imul, 1), (76, .aload_n 0, 1), (77, .getfield 9, 3), (80, .aload_n 0, 1), (81, .getfield 67, 3), (84, .baload, 1), (85, .bipush 48, 2), (87, .isub, 1), (88, .iadd, 1), (89, .goto 7, 3), (92, .aload_n 0, 1), (93, .getfield 104, 3), (96, .putfield 104, 3), (99, .aload_n 0, 1), (100, .dup, 1), (101, .getfield 67, 3), (104, .iconst 1, 1), (105, .iadd, 1), (106, .putfield 67, 3), (109, .goto (-99), 3), (112, .return_, 1)]
theorem dt_X5_readNumber : dOk cX5_readNumber tb_X5_readNumber = true := by decide +kernel
def fX5_readNumber_96 (rec10 : Hp → Option (Hp)) (h : Hp) (s1 : Int32) : Option (Hp) := rec10 (uI (uI h 69 12 s1) 69 6 ((hI (uI h 69 12 s1) 69 6) + (1 : Int32)))
def fX5_readNumber_10 : Nat → Hp → Option (Hp)
  | 0, _ => none
  | fu + 1, h => if (hI h 69 3) ≤ (hI h 69 6) then (some h) else (if (700 : Int32) ≤ (hI h 69 6) then (some h) else (if inb (hI h 69 6) 700 then (if (hI h 70 (Int32.toNatClampNeg (hI h 69 6))) < (48 : Int32) then (some h) else (if inb (hI h 69 6) 700 then (if (57 : Int32) < (hI h 70 (Int32.toNatClampNeg (hI h 69 6))) then (some h) else (if (100000 : Int32) ≤ (hI h 69 12) then (fX5_readNumber_96 (fX5_readNumber_10 fu) h (hI h 69 12)) else (if inb (hI h 69 6) 700 then (fX5_readNumber_96 (fX5_readNumber_10 fu) h (((hI h 69 12) * (10 : Int32)) + ((hI h 70 (Int32.toNatClampNeg (hI h 69 6))) - (48 : Int32)))) else none))) else none)) else none))
def fX5_readNumber (h : Hp) : Option (Hp) := fX5_readNumber_10 FU (uI (uI h 69 7 (4 : Int32)) 69 12 (0 : Int32))
set_option maxRecDepth 100000 in
set_option maxHeartbeats 4000000 in
theorem c_X5_readNumber {l : Launch} {sb : State} {D : va_G} {ids : Nat → ClassId} {n : Nat} (hN : 152 ≤ n) (h : Hp) (r : Hp) (hr : fX5_readNumber h = some r) : jM l yX5_readNumber cX5_readNumber 1 none 0 sb D ids shp St n [.ref 69] h (jQv sb D ids shp St n r) := by
  refine jM_of hr rfl (Nat.le_of_ble_eq_true rfl) ?_
  intro p e s m args below meth c hC hret
  have b96 : ∀ (rec10 : Hp → Option (Hp)) (hrec10 : ∀ (h : Hp) , jJ p l e (rmD 0) s m args below meth c 1 sb D ids shp St (fun r => MQ below (jQv sb D ids shp St n r) args s 0 0 (jA sb)) n 0 0 h 10 [(0, .ref 69)] [] (rec10 h )) (h : Hp) (s1 : Int32) , jJ p l e (rmD 0) s m args below meth c 1 sb D ids shp St (fun r => MQ below (jQv sb D ids shp St n r) args s 0 0 (jA sb)) n 0 0 h 96 [(0, .ref 69)] [.int s1, .ref 69] (fX5_readNumber_96 rec10 h s1) := by
    intro rec10 hrec10 h s1 
    unfold fX5_readNumber_96
    refine j_putI hC St_SP flX5_104 (show shp 69 = (5, 16) from rfl) (Nat.lt_of_lt_of_le (Nat.le_of_ble_eq_true rfl : 69 < 152) hN) (by decide) (by decide) rfl rfl (dOk_at dt_X5_readNumber 49 rfl) ?_
    refine j_aload_n hC 0 rfl rfl (dOk_at dt_X5_readNumber 50 rfl) ?_
    refine j_dupr hC (dOk_at dt_X5_readNumber 51 rfl) ?_
    refine j_getI hC flX5_67 (show shp 69 = (5, 16) from rfl) (Nat.lt_of_lt_of_le (Nat.le_of_ble_eq_true rfl : 69 < 152) hN) (by decide) (by decide) (fun _ _ _ => rfl) (dOk_at dt_X5_readNumber 52 rfl) ?_
    refine j_iconst hC (v := (1 : Int32)) rfl (dOk_at dt_X5_readNumber 53 rfl) ?_
    refine j_iadd hC (dOk_at dt_X5_readNumber 54 rfl) ?_
    refine j_putI hC St_SP flX5_67 (show shp 69 = (5, 16) from rfl) (Nat.lt_of_lt_of_le (Nat.le_of_ble_eq_true rfl : 69 < 152) hN) (by decide) (by decide) rfl rfl (dOk_at dt_X5_readNumber 55 rfl) ?_
    refine j_goto hC (tgt := 10) (by decide) (dOk_at dt_X5_readNumber 56 rfl) ?_
    exact hrec10 (uI (uI h 69 12 s1) 69 6 ((hI (uI h 69 12 s1) 69 6) + (1 : Int32))) 
  have b10 : ∀ (fu : Nat) (h : Hp) , jJ p l e (rmD 0) s m args below meth c 1 sb D ids shp St (fun r => MQ below (jQv sb D ids shp St n r) args s 0 0 (jA sb)) n 0 0 h 10 [(0, .ref 69)] [] (fX5_readNumber_10 fu h ) := by
    intro fu 
    induction fu with
    | zero => intro h ; exact j_none
    | succ fu ih =>
    intro h 
    rw [fX5_readNumber_10]
    refine j_aload_n hC 0 rfl rfl (dOk_at dt_X5_readNumber 6 rfl) ?_
    refine j_getI hC flX5_67 (show shp 69 = (5, 16) from rfl) (Nat.lt_of_lt_of_le (Nat.le_of_ble_eq_true rfl : 69 < 152) hN) (by decide) (by decide) (fun _ _ _ => rfl) (dOk_at dt_X5_readNumber 7 rfl) ?_
    refine j_aload_n hC 0 rfl rfl (dOk_at dt_X5_readNumber 8 rfl) ?_
    refine j_getI hC flX5_62 (show shp 69 = (5, 16) from rfl) (Nat.lt_of_lt_of_le (Nat.le_of_ble_eq_true rfl : 69 < 152) hN) (by decide) (by decide) (fun _ _ _ => rfl) (dOk_at dt_X5_readNumber 9 rfl) ?_
    refine j_icmp_ge hC (tgt := 112) (by decide) (dOk_at dt_X5_readNumber 10 rfl) (fun q_1 => ?_) (fun q_1 => ?_)
    · exact j_vret hC hret (dOk_at dt_X5_readNumber 57 rfl)
    · refine j_aload_n hC 0 rfl rfl (dOk_at dt_X5_readNumber 11 rfl) ?_
      refine j_getI hC flX5_67 (show shp 69 = (5, 16) from rfl) (Nat.lt_of_lt_of_le (Nat.le_of_ble_eq_true rfl : 69 < 152) hN) (by decide) (by decide) (fun _ _ _ => rfl) (dOk_at dt_X5_readNumber 12 rfl) ?_
      refine j_sipush hC (v := (700 : Int32)) rfl (dOk_at dt_X5_readNumber 13 rfl) ?_
      refine j_icmp_ge hC (tgt := 112) (by decide) (dOk_at dt_X5_readNumber 14 rfl) (fun q_2 => ?_) (fun q_2 => ?_)
      · exact j_vret hC hret (dOk_at dt_X5_readNumber 57 rfl)
      · refine j_aload_n hC 0 rfl rfl (dOk_at dt_X5_readNumber 15 rfl) ?_
        refine j_getR hC flX5_9 (show shp 69 = (5, 16) from rfl) (Nat.lt_of_lt_of_le (Nat.le_of_ble_eq_true rfl : 69 < 152) hN) (by decide) (by decide) (fun _ _ _ => rfl) (fun hs => hs 69 0 70 rfl) (dOk_at dt_X5_readNumber 16 rfl) ?_
        refine j_aload_n hC 0 rfl rfl (dOk_at dt_X5_readNumber 17 rfl) ?_
        refine j_getI hC flX5_67 (show shp 69 = (5, 16) from rfl) (Nat.lt_of_lt_of_le (Nat.le_of_ble_eq_true rfl : 69 < 152) hN) (by decide) (by decide) (fun _ _ _ => rfl) (dOk_at dt_X5_readNumber 18 rfl) ?_
        refine j_bald hC (show shp 70 = (20, 700) from rfl) (Nat.lt_of_lt_of_le (Nat.le_of_ble_eq_true rfl : 70 < 152) hN) (dOk_at dt_X5_readNumber 19 rfl) ?_
        refine j_bipush hC (v := (48 : Int32)) rfl (dOk_at dt_X5_readNumber 20 rfl) ?_
        refine j_icmp_lt hC (tgt := 112) (by decide) (dOk_at dt_X5_readNumber 21 rfl) (fun q_3 => ?_) (fun q_3 => ?_)
        · exact j_vret hC hret (dOk_at dt_X5_readNumber 57 rfl)
        · refine j_aload_n hC 0 rfl rfl (dOk_at dt_X5_readNumber 22 rfl) ?_
          refine j_getR hC flX5_9 (show shp 69 = (5, 16) from rfl) (Nat.lt_of_lt_of_le (Nat.le_of_ble_eq_true rfl : 69 < 152) hN) (by decide) (by decide) (fun _ _ _ => rfl) (fun hs => hs 69 0 70 rfl) (dOk_at dt_X5_readNumber 23 rfl) ?_
          refine j_aload_n hC 0 rfl rfl (dOk_at dt_X5_readNumber 24 rfl) ?_
          refine j_getI hC flX5_67 (show shp 69 = (5, 16) from rfl) (Nat.lt_of_lt_of_le (Nat.le_of_ble_eq_true rfl : 69 < 152) hN) (by decide) (by decide) (fun _ _ _ => rfl) (dOk_at dt_X5_readNumber 25 rfl) ?_
          refine j_bald hC (show shp 70 = (20, 700) from rfl) (Nat.lt_of_lt_of_le (Nat.le_of_ble_eq_true rfl : 70 < 152) hN) (dOk_at dt_X5_readNumber 26 rfl) ?_
          refine j_bipush hC (v := (57 : Int32)) rfl (dOk_at dt_X5_readNumber 27 rfl) ?_
          refine j_icmp_gt hC (tgt := 112) (by decide) (dOk_at dt_X5_readNumber 28 rfl) (fun q_4 => ?_) (fun q_4 => ?_)
          · exact j_vret hC hret (dOk_at dt_X5_readNumber 57 rfl)
          · refine j_aload_n hC 0 rfl rfl (dOk_at dt_X5_readNumber 29 rfl) ?_
            refine j_aload_n hC 0 rfl rfl (dOk_at dt_X5_readNumber 30 rfl) ?_
            refine j_getI hC flX5_104 (show shp 69 = (5, 16) from rfl) (Nat.lt_of_lt_of_le (Nat.le_of_ble_eq_true rfl : 69 < 152) hN) (by decide) (by decide) (fun _ _ _ => rfl) (dOk_at dt_X5_readNumber 31 rfl) ?_
            refine j_ldc hC kcX5_107 (dOk_at dt_X5_readNumber 32 rfl) ?_
            refine j_icmp_ge hC (tgt := 92) (by decide) (dOk_at dt_X5_readNumber 33 rfl) (fun q_5 => ?_) (fun q_5 => ?_)
            · refine j_aload_n hC 0 rfl rfl (dOk_at dt_X5_readNumber 47 rfl) ?_
              refine j_getI hC flX5_104 (show shp 69 = (5, 16) from rfl) (Nat.lt_of_lt_of_le (Nat.le_of_ble_eq_true rfl : 69 < 152) hN) (by decide) (by decide) (fun _ _ _ => rfl) (dOk_at dt_X5_readNumber 48 rfl) ?_
              exact b96 (fX5_readNumber_10 fu) ih h (hI h 69 12) 
            · refine j_aload_n hC 0 rfl rfl (dOk_at dt_X5_readNumber 34 rfl) ?_
              refine j_getI hC flX5_104 (show shp 69 = (5, 16) from rfl) (Nat.lt_of_lt_of_le (Nat.le_of_ble_eq_true rfl : 69 < 152) hN) (by decide) (by decide) (fun _ _ _ => rfl) (dOk_at dt_X5_readNumber 35 rfl) ?_
              refine j_bipush hC (v := (10 : Int32)) rfl (dOk_at dt_X5_readNumber 36 rfl) ?_
              refine j_imul hC (dOk_at dt_X5_readNumber 37 rfl) ?_
              refine j_aload_n hC 0 rfl rfl (dOk_at dt_X5_readNumber 38 rfl) ?_
              refine j_getR hC flX5_9 (show shp 69 = (5, 16) from rfl) (Nat.lt_of_lt_of_le (Nat.le_of_ble_eq_true rfl : 69 < 152) hN) (by decide) (by decide) (fun _ _ _ => rfl) (fun hs => hs 69 0 70 rfl) (dOk_at dt_X5_readNumber 39 rfl) ?_
              refine j_aload_n hC 0 rfl rfl (dOk_at dt_X5_readNumber 40 rfl) ?_
              refine j_getI hC flX5_67 (show shp 69 = (5, 16) from rfl) (Nat.lt_of_lt_of_le (Nat.le_of_ble_eq_true rfl : 69 < 152) hN) (by decide) (by decide) (fun _ _ _ => rfl) (dOk_at dt_X5_readNumber 41 rfl) ?_
              refine j_bald hC (show shp 70 = (20, 700) from rfl) (Nat.lt_of_lt_of_le (Nat.le_of_ble_eq_true rfl : 70 < 152) hN) (dOk_at dt_X5_readNumber 42 rfl) ?_
              refine j_bipush hC (v := (48 : Int32)) rfl (dOk_at dt_X5_readNumber 43 rfl) ?_
              refine j_isub hC (dOk_at dt_X5_readNumber 44 rfl) ?_
              refine j_iadd hC (dOk_at dt_X5_readNumber 45 rfl) ?_
              refine j_goto hC (tgt := 96) (by decide) (dOk_at dt_X5_readNumber 46 rfl) ?_
              exact b96 (fX5_readNumber_10 fu) ih h (((hI h 69 12) * (10 : Int32)) + ((hI h 70 (Int32.toNatClampNeg (hI h 69 6))) - (48 : Int32))) 
  unfold fX5_readNumber
  refine j_aload_n hC 0 rfl rfl (dOk_at dt_X5_readNumber 0 rfl) ?_
  refine j_iconst hC (v := (4 : Int32)) rfl (dOk_at dt_X5_readNumber 1 rfl) ?_
  refine j_putI hC St_SP flX5_79 (show shp 69 = (5, 16) from rfl) (Nat.lt_of_lt_of_le (Nat.le_of_ble_eq_true rfl : 69 < 152) hN) (by decide) (by decide) rfl rfl (dOk_at dt_X5_readNumber 2 rfl) ?_
  refine j_aload_n hC 0 rfl rfl (dOk_at dt_X5_readNumber 3 rfl) ?_
  refine j_iconst hC (v := (0 : Int32)) rfl (dOk_at dt_X5_readNumber 4 rfl) ?_
  refine j_putI hC St_SP flX5_104 (show shp 69 = (5, 16) from rfl) (Nat.lt_of_lt_of_le (Nat.le_of_ble_eq_true rfl : 69 < 152) hN) (by decide) (by decide) rfl rfl (dOk_at dt_X5_readNumber 5 rfl) ?_
  exact b10 FU (uI (uI h 69 7 (4 : Int32)) 69 12 (0 : Int32)) 
def tb_X5_readSign : List (Nat × Instr × Nat) := [(0, .aload_n 0, 1), (1, .getfield 67, 3), (4, .iconst 1, 1), (5, .iadd, 1), (6, .aload_n 0, 1), (7, .getfield 62, 3), (10, .if_icmp .ge 29, 3), (13, .aload_n 0, 1), (14, .getfield 67, 3), (17, .iconst 1, 1), (18, .iadd, 1), (19, .sipush 700, 3), (22, .if_icmp .ge 17, 3), (25, .aload_n 0, 1), (26, .getfield 9, 3), (29, .aload_n 0, 1), (30, .getfield 67, 3), (33, .iconst 1, 1), (34, .iadd, 1), (35, .baload, 1), (36, .goto 4, 3), (39, .iconst 0, 1), (40, .istore_n 2, 1), (41, .aload_n 0, 1), (42, .dup, 1), (43, .getfield 67, 3), (46, .iconst 1, 1), (47, .iadd, 1), (48, .putfield 67, 3), (51, .aload_n 0, 1), (52, .bipush 8, 2), (54, .putfield 79, 3), (57, .iload_n 1, 1), (58, .tableswitch 225 40 62 #[114, 123, 207, 189, 225, 198, 225, 216, 225, 225, 225, 225, 225, 225, 225, 225, 225, 225, 225, 106, 132, 181, 161], 106), (164, .aload_n 0, 1), (165, .iconst 5, 1), (166, .putfield 79, 3), (169, .goto 119, 3), (172, .aload_n 0, 1), (173, .bipush 6, 2), (175, .putfield 79, 3), (178, .goto 110, 3), (181, .aload_n 0, 1), (182, .bipush 7, 2), (184, .putfield 79, 3), (187, .goto 101, 3), (190, .aload_n 0, 1), (191, .iload_n 2, 1), (192, .bipush 61, 2), (194, .if_icmp .ne 7, 3), (197, .iconst 4, 1), (198, .goto 15, 3), (201, .iload_n 2, 1), (202, .bipush 62, 2), (204, .if_icmp .ne 8, 3), (207, .bipush 6, 2), (209, .goto 4, 3), (212, .iconst 3, 1), (213, .putfield 85, 3), (216, .goto 72, 3), (219, .aload_n 0, 1), (220, .iload_n 2, 1), (221, .bipush 61, 2), (223, .if_icmp .ne 8, 3), (226, .bipush 7, 2), (228, .goto 5, 3), (231, .bipush 8, 2), (233, .putfield 85, 3), (236, .goto 52, 3), (239, .aload_n 0, 1), (240, .iconst 5, 1), (241, .putfield 85, 3), (244, .goto 44, 3), (247, .aload_n 0, 1), (248, .bipush 9, 2), (250, .putfield 85, 3), (253, .goto 35, 3), (256, .aload_n 0, 1), (257, .bipush 10, 2), (259, .putfield 85, 3), (262, .goto 26, 3), (265, .aload_n 0, 1), (266, .bipush 11, 2), (268, .putfield 85, 3), (271, .goto 17, 3), (274, .aload_n 0, 1), (275, .bipush 12, 2), (277, .putfield 85, 3), (280, .goto 8, 3), (283, .aload_n 0, 1), (284, .iconst 1, 1), (285, .putfield 79, 3), (288, .aload_n 0, 1), (289, .getfield 85, 3), (292, .iconst 4, 1), (293, .if_icmp .eq 21, 3), (296, .aload_n 0, 1), (297, .getfield 85, 3), (300, .bipush 6, 2), (302, .if_icmp .eq 12, 3), (305, .aload_n 0, 1), (306, .getfield 85, 3), (309, .bipush 7, 2), (311, .if_icmp .ne 13, 3), (314, .aload_n 0, 1), (315, .dup, 1), (316, .getfield 67, 3), (319, .iconst 1, 1), (320, .iadd, 1), (321, .putfield 67, 3), (324, .return_, 1)]
theorem dt_X5_readSign : dOk cX5_readSign tb_X5_readSign = true := by decide +kernel
def fX5_readSign_314 (h : Hp) : Option (Hp) := some (uI h 69 6 ((hI h 69 6) + (1 : Int32)))
def fX5_readSign_288 (h : Hp) : Option (Hp) := if (hI h 69 13) = (4 : Int32) then (fX5_readSign_314 h) else (if (hI h 69 13) = (6 : Int32) then (fX5_readSign_314 h) else (if (hI h 69 13) = (7 : Int32) then (fX5_readSign_314 h) else (some h)))
def fX5_readSign_283 (h : Hp) : Option (Hp) := fX5_readSign_288 (uI h 69 7 (1 : Int32))
def fX5_readSign_213 (h : Hp) (s1 : Int32) : Option (Hp) := fX5_readSign_288 (uI h 69 13 s1)
def fX5_readSign_233 (h : Hp) (s1 : Int32) : Option (Hp) := fX5_readSign_288 (uI h 69 13 s1)
def fX5_readSign_40 (h : Hp) (x1 : Int32) (s0 : Int32) : Option (Hp) := if inT x1 40 62 then (if x1 = (40 : Int32) then (fX5_readSign_288 (uI (uI (uI h 69 6 ((hI h 69 6) + (1 : Int32))) 69 7 (8 : Int32)) 69 7 (6 : Int32))) else (if x1 = (41 : Int32) then (fX5_readSign_288 (uI (uI (uI h 69 6 ((hI h 69 6) + (1 : Int32))) 69 7 (8 : Int32)) 69 7 (7 : Int32))) else (if x1 = (42 : Int32) then (fX5_readSign_288 (uI (uI (uI h 69 6 ((hI h 69 6) + (1 : Int32))) 69 7 (8 : Int32)) 69 13 (11 : Int32))) else (if x1 = (43 : Int32) then (fX5_readSign_288 (uI (uI (uI h 69 6 ((hI h 69 6) + (1 : Int32))) 69 7 (8 : Int32)) 69 13 (9 : Int32))) else (if x1 = (44 : Int32) then (fX5_readSign_283 (uI (uI h 69 6 ((hI h 69 6) + (1 : Int32))) 69 7 (8 : Int32))) else (if x1 = (45 : Int32) then (fX5_readSign_288 (uI (uI (uI h 69 6 ((hI h 69 6) + (1 : Int32))) 69 7 (8 : Int32)) 69 13 (10 : Int32))) else (if x1 = (46 : Int32) then (fX5_readSign_283 (uI (uI h 69 6 ((hI h 69 6) + (1 : Int32))) 69 7 (8 : Int32))) else (if x1 = (47 : Int32) then (fX5_readSign_288 (uI (uI (uI h 69 6 ((hI h 69 6) + (1 : Int32))) 69 7 (8 : Int32)) 69 13 (12 : Int32))) else (if x1 = (48 : Int32) then (fX5_readSign_283 (uI (uI h 69 6 ((hI h 69 6) + (1 : Int32))) 69 7 (8 : Int32))) else (if x1 = (49 : Int32) then (fX5_readSign_283 (uI (uI h 69 6 ((hI h 69 6) + (1 : Int32))) 69 7 (8 : Int32))) else (if x1 = (50 : Int32) then (fX5_readSign_283 (uI (uI h 69 6 ((hI h 69 6) + (1 : Int32))) 69 7 (8 : Int32))) else (if x1 = (51 : Int32) then (fX5_readSign_283 (uI (uI h 69 6 ((hI h 69 6) + (1 : Int32))) 69 7 (8 : Int32))) else (if x1 = (52 : Int32) then (fX5_readSign_283 (uI (uI h 69 6 ((hI h 69 6) + (1 : Int32))) 69 7 (8 : Int32))) else (if x1 = (53 : Int32) then (fX5_readSign_283 (uI (uI h 69 6 ((hI h 69 6) + (1 : Int32))) 69 7 (8 : Int32))) else (if x1 = (54 : Int32) then (fX5_readSign_283 (uI (uI h 69 6 ((hI h 69 6) + (1 : Int32))) 69 7 (8 : Int32))) else (if x1 = (55 : Int32) then (fX5_readSign_283 (uI (uI h 69 6 ((hI h 69 6) + (1 : Int32))) 69 7 (8 : Int32))) else (if x1 = (56 : Int32) then (fX5_readSign_283 (uI (uI h 69 6 ((hI h 69 6) + (1 : Int32))) 69 7 (8 : Int32))) else (if x1 = (57 : Int32) then (fX5_readSign_283 (uI (uI h 69 6 ((hI h 69 6) + (1 : Int32))) 69 7 (8 : Int32))) else (if x1 = (58 : Int32) then (fX5_readSign_283 (uI (uI h 69 6 ((hI h 69 6) + (1 : Int32))) 69 7 (8 : Int32))) else (if x1 = (59 : Int32) then (fX5_readSign_288 (uI (uI (uI h 69 6 ((hI h 69 6) + (1 : Int32))) 69 7 (8 : Int32)) 69 7 (5 : Int32))) else (if x1 = (60 : Int32) then (if s0 = (61 : Int32) then (fX5_readSign_213 (uI (uI h 69 6 ((hI h 69 6) + (1 : Int32))) 69 7 (8 : Int32)) (4 : Int32)) else (if s0 = (62 : Int32) then (fX5_readSign_213 (uI (uI h 69 6 ((hI h 69 6) + (1 : Int32))) 69 7 (8 : Int32)) (6 : Int32)) else (fX5_readSign_213 (uI (uI h 69 6 ((hI h 69 6) + (1 : Int32))) 69 7 (8 : Int32)) (3 : Int32)))) else (if x1 = (61 : Int32) then (fX5_readSign_288 (uI (uI (uI h 69 6 ((hI h 69 6) + (1 : Int32))) 69 7 (8 : Int32)) 69 13 (5 : Int32))) else (if x1 = (62 : Int32) then (if s0 = (61 : Int32) then (fX5_readSign_233 (uI (uI h 69 6 ((hI h 69 6) + (1 : Int32))) 69 7 (8 : Int32)) (7 : Int32)) else (fX5_readSign_233 (uI (uI h 69 6 ((hI h 69 6) + (1 : Int32))) 69 7 (8 : Int32)) (8 : Int32))) else none))))))))))))))))))))))) else (fX5_readSign_283 (uI (uI h 69 6 ((hI h 69 6) + (1 : Int32))) 69 7 (8 : Int32)))
def fX5_readSign_39 (h : Hp) (x1 : Int32) : Option (Hp) := fX5_readSign_40 h x1 (0 : Int32)
def fX5_readSign (h : Hp) (x1 : Int32) : Option (Hp) := if (hI h 69 3) ≤ ((hI h 69 6) + (1 : Int32)) then (fX5_readSign_39 h x1) else (if (700 : Int32) ≤ ((hI h 69 6) + (1 : Int32)) then (fX5_readSign_39 h x1) else (if inb ((hI h 69 6) + (1 : Int32)) 700 then (fX5_readSign_40 h x1 (hI h 70 (Int32.toNatClampNeg ((hI h 69 6) + (1 : Int32))))) else none))
set_option maxRecDepth 100000 in
set_option maxHeartbeats 4000000 in
theorem c_X5_readSign {l : Launch} {sb : State} {D : va_G} {ids : Nat → ClassId} {n : Nat} (hN : 152 ≤ n) (h : Hp) (x1 : Int32) (r : Hp) (hr : fX5_readSign h x1 = some r) : jM l yX5_readSign cX5_readSign 3 none 0 sb D ids shp St n [.ref 69, .int x1] h (jQv sb D ids shp St n r) := by
  refine jM_of hr rfl (Nat.le_of_ble_eq_true rfl) ?_
  intro p e s m args below meth c hC hret
  have b314 : ∀ (h : Hp) , jJ p l e (rmD 0) s m args below meth c 3 sb D ids shp St (fun r => MQ below (jQv sb D ids shp St n r) args s 0 0 (jA sb)) n 0 0 h 314 [(0, .ref 69)] [] (fX5_readSign_314 h ) := by
    intro h 
    unfold fX5_readSign_314
    refine j_aload_n hC 0 rfl rfl (dOk_at dt_X5_readSign 104 rfl) ?_
    refine j_dupr hC (dOk_at dt_X5_readSign 105 rfl) ?_
    refine j_getI hC flX5_67 (show shp 69 = (5, 16) from rfl) (Nat.lt_of_lt_of_le (Nat.le_of_ble_eq_true rfl : 69 < 152) hN) (by decide) (by decide) (fun _ _ _ => rfl) (dOk_at dt_X5_readSign 106 rfl) ?_
    refine j_iconst hC (v := (1 : Int32)) rfl (dOk_at dt_X5_readSign 107 rfl) ?_
    refine j_iadd hC (dOk_at dt_X5_readSign 108 rfl) ?_
    refine j_putI hC St_SP flX5_67 (show shp 69 = (5, 16) from rfl) (Nat.lt_of_lt_of_le (Nat.le_of_ble_eq_true rfl : 69 < 152) hN) (by decide) (by decide) rfl rfl (dOk_at dt_X5_readSign 109 rfl) ?_
    exact j_vret hC hret (dOk_at dt_X5_readSign 110 rfl)
  have b288 : ∀ (h : Hp) , jJ p l e (rmD 0) s m args below meth c 3 sb D ids shp St (fun r => MQ below (jQv sb D ids shp St n r) args s 0 0 (jA sb)) n 0 0 h 288 [(0, .ref 69)] [] (fX5_readSign_288 h ) := by
    intro h 
    unfold fX5_readSign_288
    refine j_aload_n hC 0 rfl rfl (dOk_at dt_X5_readSign 92 rfl) ?_
    refine j_getI hC flX5_85 (show shp 69 = (5, 16) from rfl) (Nat.lt_of_lt_of_le (Nat.le_of_ble_eq_true rfl : 69 < 152) hN) (by decide) (by decide) (fun _ _ _ => rfl) (dOk_at dt_X5_readSign 93 rfl) ?_
    refine j_iconst hC (v := (4 : Int32)) rfl (dOk_at dt_X5_readSign 94 rfl) ?_
    refine j_icmp_eq hC (tgt := 314) (by decide) (dOk_at dt_X5_readSign 95 rfl) (fun q_29 => ?_) (fun q_29 => ?_)
    · exact b314 h 
    · refine j_aload_n hC 0 rfl rfl (dOk_at dt_X5_readSign 96 rfl) ?_
      refine j_getI hC flX5_85 (show shp 69 = (5, 16) from rfl) (Nat.lt_of_lt_of_le (Nat.le_of_ble_eq_true rfl : 69 < 152) hN) (by decide) (by decide) (fun _ _ _ => rfl) (dOk_at dt_X5_readSign 97 rfl) ?_
      refine j_bipush hC (v := (6 : Int32)) rfl (dOk_at dt_X5_readSign 98 rfl) ?_
      refine j_icmp_eq hC (tgt := 314) (by decide) (dOk_at dt_X5_readSign 99 rfl) (fun q_30 => ?_) (fun q_30 => ?_)
      · exact b314 h 
      · refine j_aload_n hC 0 rfl rfl (dOk_at dt_X5_readSign 100 rfl) ?_
        refine j_getI hC flX5_85 (show shp 69 = (5, 16) from rfl) (Nat.lt_of_lt_of_le (Nat.le_of_ble_eq_true rfl : 69 < 152) hN) (by decide) (by decide) (fun _ _ _ => rfl) (dOk_at dt_X5_readSign 101 rfl) ?_
        refine j_bipush hC (v := (7 : Int32)) rfl (dOk_at dt_X5_readSign 102 rfl) ?_
        refine j_icmp_ne hC (tgt := 324) (by decide) (dOk_at dt_X5_readSign 103 rfl) (fun q_31 => ?_) (fun q_31 => ?_)
        · exact j_vret hC hret (dOk_at dt_X5_readSign 110 rfl)
        · exact b314 h 
  have b283 : ∀ (h : Hp) , jJ p l e (rmD 0) s m args below meth c 3 sb D ids shp St (fun r => MQ below (jQv sb D ids shp St n r) args s 0 0 (jA sb)) n 0 0 h 283 [(0, .ref 69)] [] (fX5_readSign_283 h ) := by
    intro h 
    unfold fX5_readSign_283
    refine j_aload_n hC 0 rfl rfl (dOk_at dt_X5_readSign 89 rfl) ?_
    refine j_iconst hC (v := (1 : Int32)) rfl (dOk_at dt_X5_readSign 90 rfl) ?_
    refine j_putI hC St_SP flX5_79 (show shp 69 = (5, 16) from rfl) (Nat.lt_of_lt_of_le (Nat.le_of_ble_eq_true rfl : 69 < 152) hN) (by decide) (by decide) rfl rfl (dOk_at dt_X5_readSign 91 rfl) ?_
    exact b288 (uI h 69 7 (1 : Int32)) 
  have b213 : ∀ (h : Hp) (s1 : Int32) , jJ p l e (rmD 0) s m args below meth c 3 sb D ids shp St (fun r => MQ below (jQv sb D ids shp St n r) args s 0 0 (jA sb)) n 0 0 h 213 [(0, .ref 69)] [.int s1, .ref 69] (fX5_readSign_213 h s1) := by
    intro h s1 
    unfold fX5_readSign_213
    refine j_putI hC St_SP flX5_85 (show shp 69 = (5, 16) from rfl) (Nat.lt_of_lt_of_le (Nat.le_of_ble_eq_true rfl : 69 < 152) hN) (by decide) (by decide) rfl rfl (dOk_at dt_X5_readSign 58 rfl) ?_
    refine j_goto hC (tgt := 288) (by decide) (dOk_at dt_X5_readSign 59 rfl) ?_
    exact b288 (uI h 69 13 s1) 
  have b233 : ∀ (h : Hp) (s1 : Int32) , jJ p l e (rmD 0) s m args below meth c 3 sb D ids shp St (fun r => MQ below (jQv sb D ids shp St n r) args s 0 0 (jA sb)) n 0 0 h 233 [(0, .ref 69)] [.int s1, .ref 69] (fX5_readSign_233 h s1) := by
    intro h s1 
    unfold fX5_readSign_233
    refine j_putI hC St_SP flX5_85 (show shp 69 = (5, 16) from rfl) (Nat.lt_of_lt_of_le (Nat.le_of_ble_eq_true rfl : 69 < 152) hN) (by decide) (by decide) rfl rfl (dOk_at dt_X5_readSign 67 rfl) ?_
    refine j_goto hC (tgt := 288) (by decide) (dOk_at dt_X5_readSign 68 rfl) ?_
    exact b288 (uI h 69 13 s1) 
  have b40 : ∀ (h : Hp) (x1 : Int32) (s0 : Int32) , jJ p l e (rmD 0) s m args below meth c 3 sb D ids shp St (fun r => MQ below (jQv sb D ids shp St n r) args s 0 0 (jA sb)) n 0 0 h 40 [(0, .ref 69), (1, .int x1)] [.int s0] (fX5_readSign_40 h x1 s0) := by
    intro h x1 s0 
    unfold fX5_readSign_40
    refine j_istore_n hC rfl (lv' := [(2, .int s0), (0, .ref 69), (1, .int x1)]) (by decide) rfl (dOk_at dt_X5_readSign 22 rfl) ?_
    refine j_aload_n hC 1 rfl rfl (dOk_at dt_X5_readSign 23 rfl) ?_
    refine j_dupr hC (dOk_at dt_X5_readSign 24 rfl) ?_
    refine j_getI hC flX5_67 (show shp 69 = (5, 16) from rfl) (Nat.lt_of_lt_of_le (Nat.le_of_ble_eq_true rfl : 69 < 152) hN) (by decide) (by decide) (fun _ _ _ => rfl) (dOk_at dt_X5_readSign 25 rfl) ?_
    refine j_iconst hC (v := (1 : Int32)) rfl (dOk_at dt_X5_readSign 26 rfl) ?_
    refine j_iadd hC (dOk_at dt_X5_readSign 27 rfl) ?_
    refine j_putI hC St_SP flX5_67 (show shp 69 = (5, 16) from rfl) (Nat.lt_of_lt_of_le (Nat.le_of_ble_eq_true rfl : 69 < 152) hN) (by decide) (by decide) rfl rfl (dOk_at dt_X5_readSign 28 rfl) ?_
    refine j_aload_n hC 1 rfl rfl (dOk_at dt_X5_readSign 29 rfl) ?_
    refine j_bipush hC (v := (8 : Int32)) rfl (dOk_at dt_X5_readSign 30 rfl) ?_
    refine j_putI hC St_SP flX5_79 (show shp 69 = (5, 16) from rfl) (Nat.lt_of_lt_of_le (Nat.le_of_ble_eq_true rfl : 69 < 152) hN) (by decide) (by decide) rfl rfl (dOk_at dt_X5_readSign 31 rfl) ?_
    refine j_iload_n hC 2 rfl rfl (dOk_at dt_X5_readSign 32 rfl) ?_
    refine j_ite (P := inT x1 40 62 = true) (fun _ => ?_) (fun q => ?_)
    · refine j_ite (P := x1 = (40 : Int32)) (fun q_3 => ?_) (fun _ => ?_)
      · refine j_tswIn hC (tgt := 172) q_3 (by decide) (by decide) rfl (by decide) (dOk_at dt_X5_readSign 33 rfl) ?_
        refine j_aload_n hC 1 rfl rfl (dOk_at dt_X5_readSign 38 rfl) ?_
        refine j_bipush hC (v := (6 : Int32)) rfl (dOk_at dt_X5_readSign 39 rfl) ?_
        refine j_putI hC St_SP flX5_79 (show shp 69 = (5, 16) from rfl) (Nat.lt_of_lt_of_le (Nat.le_of_ble_eq_true rfl : 69 < 152) hN) (by decide) (by decide) rfl rfl (dOk_at dt_X5_readSign 40 rfl) ?_
        refine j_goto hC (tgt := 288) (by decide) (dOk_at dt_X5_readSign 41 rfl) ?_
        refine j_sub [1] rfl ?_
        exact b288 (uI (uI (uI h 69 6 ((hI h 69 6) + (1 : Int32))) 69 7 (8 : Int32)) 69 7 (6 : Int32)) 
      refine j_ite (P := x1 = (41 : Int32)) (fun q_4 => ?_) (fun _ => ?_)
      · refine j_tswIn hC (tgt := 181) q_4 (by decide) (by decide) rfl (by decide) (dOk_at dt_X5_readSign 33 rfl) ?_
        refine j_aload_n hC 1 rfl rfl (dOk_at dt_X5_readSign 42 rfl) ?_
        refine j_bipush hC (v := (7 : Int32)) rfl (dOk_at dt_X5_readSign 43 rfl) ?_
        refine j_putI hC St_SP flX5_79 (show shp 69 = (5, 16) from rfl) (Nat.lt_of_lt_of_le (Nat.le_of_ble_eq_true rfl : 69 < 152) hN) (by decide) (by decide) rfl rfl (dOk_at dt_X5_readSign 44 rfl) ?_
        refine j_goto hC (tgt := 288) (by decide) (dOk_at dt_X5_readSign 45 rfl) ?_
        refine j_sub [1] rfl ?_
        exact b288 (uI (uI (uI h 69 6 ((hI h 69 6) + (1 : Int32))) 69 7 (8 : Int32)) 69 7 (7 : Int32)) 
      refine j_ite (P := x1 = (42 : Int32)) (fun q_5 => ?_) (fun _ => ?_)
      · refine j_tswIn hC (tgt := 265) q_5 (by decide) (by decide) rfl (by decide) (dOk_at dt_X5_readSign 33 rfl) ?_
        refine j_aload_n hC 1 rfl rfl (dOk_at dt_X5_readSign 81 rfl) ?_
        refine j_bipush hC (v := (11 : Int32)) rfl (dOk_at dt_X5_readSign 82 rfl) ?_
        refine j_putI hC St_SP flX5_85 (show shp 69 = (5, 16) from rfl) (Nat.lt_of_lt_of_le (Nat.le_of_ble_eq_true rfl : 69 < 152) hN) (by decide) (by decide) rfl rfl (dOk_at dt_X5_readSign 83 rfl) ?_
        refine j_goto hC (tgt := 288) (by decide) (dOk_at dt_X5_readSign 84 rfl) ?_
        refine j_sub [1] rfl ?_
        exact b288 (uI (uI (uI h 69 6 ((hI h 69 6) + (1 : Int32))) 69 7 (8 : Int32)) 69 13 (11 : Int32)) 
      refine j_ite (P := x1 = (43 : Int32)) (fun q_6 => ?_) (fun _ => ?_)
      · refine j_tswIn hC (tgt := 247) q_6 (by decide) (by decide) rfl (by decide) (dOk_at dt_X5_readSign 33 rfl) ?_
        refine j_aload_n hC 1 rfl rfl (dOk_at dt_X5_readSign 73 rfl) ?_
        refine j_bipush hC (v := (9 : Int32)) rfl (dOk_at dt_X5_readSign 74 rfl) ?_
        refine j_putI hC St_SP flX5_85 (show shp 69 = (5, 16) from rfl) (Nat.lt_of_lt_of_le (Nat.le_of_ble_eq_true rfl : 69 < 152) hN) (by decide) (by decide) rfl rfl (dOk_at dt_X5_readSign 75 rfl) ?_
        refine j_goto hC (tgt := 288) (by decide) (dOk_at dt_X5_readSign 76 rfl) ?_
        refine j_sub [1] rfl ?_
        exact b288 (uI (uI (uI h 69 6 ((hI h 69 6) + (1 : Int32))) 69 7 (8 : Int32)) 69 13 (9 : Int32)) 
      refine j_ite (P := x1 = (44 : Int32)) (fun q_7 => ?_) (fun _ => ?_)
      · refine j_tswIn hC (tgt := 283) q_7 (by decide) (by decide) rfl (by decide) (dOk_at dt_X5_readSign 33 rfl) ?_
        refine j_sub [1] rfl ?_
        exact b283 (uI (uI h 69 6 ((hI h 69 6) + (1 : Int32))) 69 7 (8 : Int32)) 
      refine j_ite (P := x1 = (45 : Int32)) (fun q_8 => ?_) (fun _ => ?_)
      · refine j_tswIn hC (tgt := 256) q_8 (by decide) (by decide) rfl (by decide) (dOk_at dt_X5_readSign 33 rfl) ?_
        refine j_aload_n hC 1 rfl rfl (dOk_at dt_X5_readSign 77 rfl) ?_
        refine j_bipush hC (v := (10 : Int32)) rfl (dOk_at dt_X5_readSign 78 rfl) ?_
        refine j_putI hC St_SP flX5_85 (show shp 69 = (5, 16) from rfl) (Nat.lt_of_lt_of_le (Nat.le_of_ble_eq_true rfl : 69 < 152) hN) (by decide) (by decide) rfl rfl (dOk_at dt_X5_readSign 79 rfl) ?_
        refine j_goto hC (tgt := 288) (by decide) (dOk_at dt_X5_readSign 80 rfl) ?_
        refine j_sub [1] rfl ?_
        exact b288 (uI (uI (uI h 69 6 ((hI h 69 6) + (1 : Int32))) 69 7 (8 : Int32)) 69 13 (10 : Int32)) 
      refine j_ite (P := x1 = (46 : Int32)) (fun q_9 => ?_) (fun _ => ?_)
      · refine j_tswIn hC (tgt := 283) q_9 (by decide) (by decide) rfl (by decide) (dOk_at dt_X5_readSign 33 rfl) ?_
        refine j_sub [1] rfl ?_
        exact b283 (uI (uI h 69 6 ((hI h 69 6) + (1 : Int32))) 69 7 (8 : Int32)) 
      refine j_ite (P := x1 = (47 : Int32)) (fun q_10 => ?_) (fun _ => ?_)
      · refine j_tswIn hC (tgt := 274) q_10 (by decide) (by decide) rfl (by decide) (dOk_at dt_X5_readSign 33 rfl) ?_
        refine j_aload_n hC 1 rfl rfl (dOk_at dt_X5_readSign 85 rfl) ?_
        refine j_bipush hC (v := (12 : Int32)) rfl (dOk_at dt_X5_readSign 86 rfl) ?_
        refine j_putI hC St_SP flX5_85 (show shp 69 = (5, 16) from rfl) (Nat.lt_of_lt_of_le (Nat.le_of_ble_eq_true rfl : 69 < 152) hN) (by decide) (by decide) rfl rfl (dOk_at dt_X5_readSign 87 rfl) ?_
        refine j_goto hC (tgt := 288) (by decide) (dOk_at dt_X5_readSign 88 rfl) ?_
        refine j_sub [1] rfl ?_
        exact b288 (uI (uI (uI h 69 6 ((hI h 69 6) + (1 : Int32))) 69 7 (8 : Int32)) 69 13 (12 : Int32)) 
      refine j_ite (P := x1 = (48 : Int32)) (fun q_11 => ?_) (fun _ => ?_)
      · refine j_tswIn hC (tgt := 283) q_11 (by decide) (by decide) rfl (by decide) (dOk_at dt_X5_readSign 33 rfl) ?_
        refine j_sub [1] rfl ?_
        exact b283 (uI (uI h 69 6 ((hI h 69 6) + (1 : Int32))) 69 7 (8 : Int32)) 
      refine j_ite (P := x1 = (49 : Int32)) (fun q_12 => ?_) (fun _ => ?_)
      · refine j_tswIn hC (tgt := 283) q_12 (by decide) (by decide) rfl (by decide) (dOk_at dt_X5_readSign 33 rfl) ?_
        refine j_sub [1] rfl ?_
        exact b283 (uI (uI h 69 6 ((hI h 69 6) + (1 : Int32))) 69 7 (8 : Int32)) 
      refine j_ite (P := x1 = (50 : Int32)) (fun q_13 => ?_) (fun _ => ?_)
      · refine j_tswIn hC (tgt := 283) q_13 (by decide) (by decide) rfl (by decide) (dOk_at dt_X5_readSign 33 rfl) ?_
        refine j_sub [1] rfl ?_
        exact b283 (uI (uI h 69 6 ((hI h 69 6) + (1 : Int32))) 69 7 (8 : Int32)) 
      refine j_ite (P := x1 = (51 : Int32)) (fun q_14 => ?_) (fun _ => ?_)
      · refine j_tswIn hC (tgt := 283) q_14 (by decide) (by decide) rfl (by decide) (dOk_at dt_X5_readSign 33 rfl) ?_
        refine j_sub [1] rfl ?_
        exact b283 (uI (uI h 69 6 ((hI h 69 6) + (1 : Int32))) 69 7 (8 : Int32)) 
      refine j_ite (P := x1 = (52 : Int32)) (fun q_15 => ?_) (fun _ => ?_)
      · refine j_tswIn hC (tgt := 283) q_15 (by decide) (by decide) rfl (by decide) (dOk_at dt_X5_readSign 33 rfl) ?_
        refine j_sub [1] rfl ?_
        exact b283 (uI (uI h 69 6 ((hI h 69 6) + (1 : Int32))) 69 7 (8 : Int32)) 
      refine j_ite (P := x1 = (53 : Int32)) (fun q_16 => ?_) (fun _ => ?_)
      · refine j_tswIn hC (tgt := 283) q_16 (by decide) (by decide) rfl (by decide) (dOk_at dt_X5_readSign 33 rfl) ?_
        refine j_sub [1] rfl ?_
        exact b283 (uI (uI h 69 6 ((hI h 69 6) + (1 : Int32))) 69 7 (8 : Int32)) 
      refine j_ite (P := x1 = (54 : Int32)) (fun q_17 => ?_) (fun _ => ?_)
      · refine j_tswIn hC (tgt := 283) q_17 (by decide) (by decide) rfl (by decide) (dOk_at dt_X5_readSign 33 rfl) ?_
        refine j_sub [1] rfl ?_
        exact b283 (uI (uI h 69 6 ((hI h 69 6) + (1 : Int32))) 69 7 (8 : Int32)) 
      refine j_ite (P := x1 = (55 : Int32)) (fun q_18 => ?_) (fun _ => ?_)
      · refine j_tswIn hC (tgt := 283) q_18 (by decide) (by decide) rfl (by decide) (dOk_at dt_X5_readSign 33 rfl) ?_
        refine j_sub [1] rfl ?_
        exact b283 (uI (uI h 69 6 ((hI h 69 6) + (1 : Int32))) 69 7 (8 : Int32)) 
      refine j_ite (P := x1 = (56 : Int32)) (fun q_19 => ?_) (fun _ => ?_)
      · refine j_tswIn hC (tgt := 283) q_19 (by decide) (by decide) rfl (by decide) (dOk_at dt_X5_readSign 33 rfl) ?_
        refine j_sub [1] rfl ?_
        exact b283 (uI (uI h 69 6 ((hI h 69 6) + (1 : Int32))) 69 7 (8 : Int32)) 
      refine j_ite (P := x1 = (57 : Int32)) (fun q_20 => ?_) (fun _ => ?_)
      · refine j_tswIn hC (tgt := 283) q_20 (by decide) (by decide) rfl (by decide) (dOk_at dt_X5_readSign 33 rfl) ?_
        refine j_sub [1] rfl ?_
        exact b283 (uI (uI h 69 6 ((hI h 69 6) + (1 : Int32))) 69 7 (8 : Int32)) 
      refine j_ite (P := x1 = (58 : Int32)) (fun q_21 => ?_) (fun _ => ?_)
      · refine j_tswIn hC (tgt := 283) q_21 (by decide) (by decide) rfl (by decide) (dOk_at dt_X5_readSign 33 rfl) ?_
        refine j_sub [1] rfl ?_
        exact b283 (uI (uI h 69 6 ((hI h 69 6) + (1 : Int32))) 69 7 (8 : Int32)) 
      refine j_ite (P := x1 = (59 : Int32)) (fun q_22 => ?_) (fun _ => ?_)
      · refine j_tswIn hC (tgt := 164) q_22 (by decide) (by decide) rfl (by decide) (dOk_at dt_X5_readSign 33 rfl) ?_
        refine j_aload_n hC 1 rfl rfl (dOk_at dt_X5_readSign 34 rfl) ?_
        refine j_iconst hC (v := (5 : Int32)) rfl (dOk_at dt_X5_readSign 35 rfl) ?_
        refine j_putI hC St_SP flX5_79 (show shp 69 = (5, 16) from rfl) (Nat.lt_of_lt_of_le (Nat.le_of_ble_eq_true rfl : 69 < 152) hN) (by decide) (by decide) rfl rfl (dOk_at dt_X5_readSign 36 rfl) ?_
        refine j_goto hC (tgt := 288) (by decide) (dOk_at dt_X5_readSign 37 rfl) ?_
        refine j_sub [1] rfl ?_
        exact b288 (uI (uI (uI h 69 6 ((hI h 69 6) + (1 : Int32))) 69 7 (8 : Int32)) 69 7 (5 : Int32)) 
      refine j_ite (P := x1 = (60 : Int32)) (fun q_23 => ?_) (fun _ => ?_)
      · refine j_tswIn hC (tgt := 190) q_23 (by decide) (by decide) rfl (by decide) (dOk_at dt_X5_readSign 33 rfl) ?_
        refine j_aload_n hC 1 rfl rfl (dOk_at dt_X5_readSign 46 rfl) ?_
        refine j_iload_n hC 0 rfl rfl (dOk_at dt_X5_readSign 47 rfl) ?_
        refine j_bipush hC (v := (61 : Int32)) rfl (dOk_at dt_X5_readSign 48 rfl) ?_
        refine j_icmp_ne hC (tgt := 201) (by decide) (dOk_at dt_X5_readSign 49 rfl) (fun q_24 => ?_) (fun q_24 => ?_)
        · refine j_iload_n hC 0 rfl rfl (dOk_at dt_X5_readSign 52 rfl) ?_
          refine j_bipush hC (v := (62 : Int32)) rfl (dOk_at dt_X5_readSign 53 rfl) ?_
          refine j_icmp_ne hC (tgt := 212) (by decide) (dOk_at dt_X5_readSign 54 rfl) (fun q_25 => ?_) (fun q_25 => ?_)
          · refine j_iconst hC (v := (3 : Int32)) rfl (dOk_at dt_X5_readSign 57 rfl) ?_
            refine j_sub [1] rfl ?_
            exact b213 (uI (uI h 69 6 ((hI h 69 6) + (1 : Int32))) 69 7 (8 : Int32)) (3 : Int32) 
          · refine j_bipush hC (v := (6 : Int32)) rfl (dOk_at dt_X5_readSign 55 rfl) ?_
            refine j_goto hC (tgt := 213) (by decide) (dOk_at dt_X5_readSign 56 rfl) ?_
            refine j_sub [1] rfl ?_
            exact b213 (uI (uI h 69 6 ((hI h 69 6) + (1 : Int32))) 69 7 (8 : Int32)) (6 : Int32) 
        · refine j_iconst hC (v := (4 : Int32)) rfl (dOk_at dt_X5_readSign 50 rfl) ?_
          refine j_goto hC (tgt := 213) (by decide) (dOk_at dt_X5_readSign 51 rfl) ?_
          refine j_sub [1] rfl ?_
          exact b213 (uI (uI h 69 6 ((hI h 69 6) + (1 : Int32))) 69 7 (8 : Int32)) (4 : Int32) 
      refine j_ite (P := x1 = (61 : Int32)) (fun q_26 => ?_) (fun _ => ?_)
      · refine j_tswIn hC (tgt := 239) q_26 (by decide) (by decide) rfl (by decide) (dOk_at dt_X5_readSign 33 rfl) ?_
        refine j_aload_n hC 1 rfl rfl (dOk_at dt_X5_readSign 69 rfl) ?_
        refine j_iconst hC (v := (5 : Int32)) rfl (dOk_at dt_X5_readSign 70 rfl) ?_
        refine j_putI hC St_SP flX5_85 (show shp 69 = (5, 16) from rfl) (Nat.lt_of_lt_of_le (Nat.le_of_ble_eq_true rfl : 69 < 152) hN) (by decide) (by decide) rfl rfl (dOk_at dt_X5_readSign 71 rfl) ?_
        refine j_goto hC (tgt := 288) (by decide) (dOk_at dt_X5_readSign 72 rfl) ?_
        refine j_sub [1] rfl ?_
        exact b288 (uI (uI (uI h 69 6 ((hI h 69 6) + (1 : Int32))) 69 7 (8 : Int32)) 69 13 (5 : Int32)) 
      refine j_ite (P := x1 = (62 : Int32)) (fun q_27 => ?_) (fun _ => ?_)
      · refine j_tswIn hC (tgt := 219) q_27 (by decide) (by decide) rfl (by decide) (dOk_at dt_X5_readSign 33 rfl) ?_
        refine j_aload_n hC 1 rfl rfl (dOk_at dt_X5_readSign 60 rfl) ?_
        refine j_iload_n hC 0 rfl rfl (dOk_at dt_X5_readSign 61 rfl) ?_
        refine j_bipush hC (v := (61 : Int32)) rfl (dOk_at dt_X5_readSign 62 rfl) ?_
        refine j_icmp_ne hC (tgt := 231) (by decide) (dOk_at dt_X5_readSign 63 rfl) (fun q_28 => ?_) (fun q_28 => ?_)
        · refine j_bipush hC (v := (8 : Int32)) rfl (dOk_at dt_X5_readSign 66 rfl) ?_
          refine j_sub [1] rfl ?_
          exact b233 (uI (uI h 69 6 ((hI h 69 6) + (1 : Int32))) 69 7 (8 : Int32)) (8 : Int32) 
        · refine j_bipush hC (v := (7 : Int32)) rfl (dOk_at dt_X5_readSign 64 rfl) ?_
          refine j_goto hC (tgt := 233) (by decide) (dOk_at dt_X5_readSign 65 rfl) ?_
          refine j_sub [1] rfl ?_
          exact b233 (uI (uI h 69 6 ((hI h 69 6) + (1 : Int32))) 69 7 (8 : Int32)) (7 : Int32) 
      exact j_none
    · refine j_tswOut hC (tgt := 283) q (by decide) (dOk_at dt_X5_readSign 33 rfl) ?_
      refine j_sub [1] rfl ?_
      exact b283 (uI (uI h 69 6 ((hI h 69 6) + (1 : Int32))) 69 7 (8 : Int32)) 
  have b39 : ∀ (h : Hp) (x1 : Int32) , jJ p l e (rmD 0) s m args below meth c 3 sb D ids shp St (fun r => MQ below (jQv sb D ids shp St n r) args s 0 0 (jA sb)) n 0 0 h 39 [(0, .ref 69), (1, .int x1)] [] (fX5_readSign_39 h x1) := by
    intro h x1 
    unfold fX5_readSign_39
    refine j_iconst hC (v := (0 : Int32)) rfl (dOk_at dt_X5_readSign 21 rfl) ?_
    exact b40 h x1 (0 : Int32) 
  unfold fX5_readSign
  refine j_aload_n hC 0 rfl rfl (dOk_at dt_X5_readSign 0 rfl) ?_
  refine j_getI hC flX5_67 (show shp 69 = (5, 16) from rfl) (Nat.lt_of_lt_of_le (Nat.le_of_ble_eq_true rfl : 69 < 152) hN) (by decide) (by decide) (fun _ _ _ => rfl) (dOk_at dt_X5_readSign 1 rfl) ?_
  refine j_iconst hC (v := (1 : Int32)) rfl (dOk_at dt_X5_readSign 2 rfl) ?_
  refine j_iadd hC (dOk_at dt_X5_readSign 3 rfl) ?_
  refine j_aload_n hC 0 rfl rfl (dOk_at dt_X5_readSign 4 rfl) ?_
  refine j_getI hC flX5_62 (show shp 69 = (5, 16) from rfl) (Nat.lt_of_lt_of_le (Nat.le_of_ble_eq_true rfl : 69 < 152) hN) (by decide) (by decide) (fun _ _ _ => rfl) (dOk_at dt_X5_readSign 5 rfl) ?_
  refine j_icmp_ge hC (tgt := 39) (by decide) (dOk_at dt_X5_readSign 6 rfl) (fun q_1 => ?_) (fun q_1 => ?_)
  · exact b39 h x1 
  · refine j_aload_n hC 0 rfl rfl (dOk_at dt_X5_readSign 7 rfl) ?_
    refine j_getI hC flX5_67 (show shp 69 = (5, 16) from rfl) (Nat.lt_of_lt_of_le (Nat.le_of_ble_eq_true rfl : 69 < 152) hN) (by decide) (by decide) (fun _ _ _ => rfl) (dOk_at dt_X5_readSign 8 rfl) ?_
    refine j_iconst hC (v := (1 : Int32)) rfl (dOk_at dt_X5_readSign 9 rfl) ?_
    refine j_iadd hC (dOk_at dt_X5_readSign 10 rfl) ?_
    refine j_sipush hC (v := (700 : Int32)) rfl (dOk_at dt_X5_readSign 11 rfl) ?_
    refine j_icmp_ge hC (tgt := 39) (by decide) (dOk_at dt_X5_readSign 12 rfl) (fun q_2 => ?_) (fun q_2 => ?_)
    · exact b39 h x1 
    · refine j_aload_n hC 0 rfl rfl (dOk_at dt_X5_readSign 13 rfl) ?_
      refine j_getR hC flX5_9 (show shp 69 = (5, 16) from rfl) (Nat.lt_of_lt_of_le (Nat.le_of_ble_eq_true rfl : 69 < 152) hN) (by decide) (by decide) (fun _ _ _ => rfl) (fun hs => hs 69 0 70 rfl) (dOk_at dt_X5_readSign 14 rfl) ?_
      refine j_aload_n hC 0 rfl rfl (dOk_at dt_X5_readSign 15 rfl) ?_
      refine j_getI hC flX5_67 (show shp 69 = (5, 16) from rfl) (Nat.lt_of_lt_of_le (Nat.le_of_ble_eq_true rfl : 69 < 152) hN) (by decide) (by decide) (fun _ _ _ => rfl) (dOk_at dt_X5_readSign 16 rfl) ?_
      refine j_iconst hC (v := (1 : Int32)) rfl (dOk_at dt_X5_readSign 17 rfl) ?_
      refine j_iadd hC (dOk_at dt_X5_readSign 18 rfl) ?_
      refine j_bald hC (show shp 70 = (20, 700) from rfl) (Nat.lt_of_lt_of_le (Nat.le_of_ble_eq_true rfl : 70 < 152) hN) (dOk_at dt_X5_readSign 19 rfl) ?_
      refine j_goto hC (tgt := 40) (by decide) (dOk_at dt_X5_readSign 20 rfl) ?_
      exact b40 h x1 (hI h 70 (Int32.toNatClampNeg ((hI h 69 6) + (1 : Int32)))) 
def tb_X5_next : List (Nat × Instr × Nat) := [(0, .aload_n 0, 1), (1, .aload_n 0, 1), (2, .getfield 70, 3), (5, .putfield 82, 3), (8, .aload_n 0, 1), (9, .getfield 67, 3), (12, .aload_n 0, 1), (13, .getfield 62, 3), (16, .if_icmp .ge 54, 3), (19, .aload_n 0, 1), (20, .getfield 67, 3), (23, .sipush 700, 3), (26, .if_icmp .ge 44, 3), (29, .aload_n 0, 1), (30, .getfield 9, 3), (33, .aload_n 0, 1), (34, .getfield 67, 3), (37, .baload, 1), (38, .bipush 10, 2), (40, .if_icmp .eq 17, 3), (43, .aload_n 0, 1), (44, .getfield 9, 3), (47, .aload_n 0, 1), (48, .getfield 67, 3), (51, .baload, 1), (52, .bipush 32, 2), (54, .if_icmp .ne 16, 3), (57, .aload_n 0, 1), (58, .dup, 1), (59, .getfield 67, 3), (62, .iconst 1, 1), (63, .iadd, 1), (64, .putfield 67, 3), (67, .goto (-59), 3), (70, .aload_n 0, 1), (71, .aload_n 0, 1), (72, .getfield 67, 3), (75, .putfield 70, 3), (78, .aload_n 0, 1), (79, .iconst (-1), 1), (80, .putfield 85, 3), (83, .aload_n 0, 1), (84, .iconst (-1), 1), (85, .putfield 88, 3), (88, .aload_n 0, 1), (89, .getfield 67, 3), (92, .aload_n 0, 1), (93, .getfield 62, 3), (96, .if_icmp .ge 13, 3), (99, .aload_n 0, 1), (100, .getfield 67, 3), (103, .sipush 700, 3), (106, .if_icmp .lt 11, 3), (109, .aload_n 0, 1), (110, .iconst 0, 1), (111, .putfield 79, 3), (114, .goto 86, 3), (117, .aload_n 0, 1), (118, .getfield 9, 3), (121, .aload_n 0, 1), (122, .getfield 67, 3), (125, .baload, 1), (126, .bipush 97, 2), (128, .if_icmp .lt 24, 3), (131, .aload_n 0, 1), (132, .getfield 9, 3), (135, .aload_n 0, 1), (136, .getfield 67, 3), (139, .baload, 1), (140, .bipush 122, 2), (142, .if_icmp .gt 10, 3), (145, .aload_n 0, 1), (146, .invokevirtual 91, 3), (149, .goto 51, 3), (152, .aload_n 0, 1), (153, .getfield 9, 3), (156, .aload_n 0, 1), (157, .getfield 67, 3), (160, .baload, 1), (161, .bipush 48, 2), (163, .if_icmp .lt 24, 3), (166, .aload_n 0, 1), (167, .getfield 9, 3), (170, .aload_n 0, 1), (171, .getfield 67, 3), (174, .baload, 1), (175, .bipush 57, 2), (177, .if_icmp .gt 10, 3), (180, .aload_n 0, 1), (181, .invokevirtual 94, 3), (184, .goto 16, 3), (187, .aload_n 0, 1), (188, .aload_n 0, 1), (189, .getfield 9, 3), (192, .aload_n 0, 1), (193, .getfield 67, 3), (196, .baload, 1), (197, .invokevirtual 97, 3), (200, .return_, 1)]
theorem dt_X5_next : dOk cX5_next tb_X5_next = true := by decide +kernel
def fX5_next_109 (h : Hp) : Option (Hp) := some (uI h 69 7 (0 : Int32))
def fX5_next_187 (h : Hp) : Option (Hp) := if inb (hI h 69 6) 700 then ((fX5_readSign h (hI h 70 (Int32.toNatClampNeg (hI h 69 6)))).bind (fun h_16 => some h_16)) else none
def fX5_next_152 (h : Hp) : Option (Hp) := if inb (hI h 69 6) 700 then (if (hI h 70 (Int32.toNatClampNeg (hI h 69 6))) < (48 : Int32) then (fX5_next_187 h) else (if inb (hI h 69 6) 700 then (if (57 : Int32) < (hI h 70 (Int32.toNatClampNeg (hI h 69 6))) then (fX5_next_187 h) else ((fX5_readNumber h).bind (fun h_14 => some h_14))) else none)) else none
def fX5_next_70 (h : Hp) : Option (Hp) := if (hI (uI (uI (uI h 69 8 (hI h 69 6)) 69 13 (-1 : Int32)) 69 11 (-1 : Int32)) 69 3) ≤ (hI (uI (uI (uI h 69 8 (hI h 69 6)) 69 13 (-1 : Int32)) 69 11 (-1 : Int32)) 69 6) then (fX5_next_109 (uI (uI (uI h 69 8 (hI h 69 6)) 69 13 (-1 : Int32)) 69 11 (-1 : Int32))) else (if (hI (uI (uI (uI h 69 8 (hI h 69 6)) 69 13 (-1 : Int32)) 69 11 (-1 : Int32)) 69 6) < (700 : Int32) then (if inb (hI (uI (uI (uI h 69 8 (hI h 69 6)) 69 13 (-1 : Int32)) 69 11 (-1 : Int32)) 69 6) 700 then (if (hI (uI (uI (uI h 69 8 (hI h 69 6)) 69 13 (-1 : Int32)) 69 11 (-1 : Int32)) 70 (Int32.toNatClampNeg (hI (uI (uI (uI h 69 8 (hI h 69 6)) 69 13 (-1 : Int32)) 69 11 (-1 : Int32)) 69 6))) < (97 : Int32) then (fX5_next_152 (uI (uI (uI h 69 8 (hI h 69 6)) 69 13 (-1 : Int32)) 69 11 (-1 : Int32))) else (if inb (hI (uI (uI (uI h 69 8 (hI h 69 6)) 69 13 (-1 : Int32)) 69 11 (-1 : Int32)) 69 6) 700 then (if (122 : Int32) < (hI (uI (uI (uI h 69 8 (hI h 69 6)) 69 13 (-1 : Int32)) 69 11 (-1 : Int32)) 70 (Int32.toNatClampNeg (hI (uI (uI (uI h 69 8 (hI h 69 6)) 69 13 (-1 : Int32)) 69 11 (-1 : Int32)) 69 6))) then (fX5_next_152 (uI (uI (uI h 69 8 (hI h 69 6)) 69 13 (-1 : Int32)) 69 11 (-1 : Int32))) else ((fX5_readWord (uI (uI (uI h 69 8 (hI h 69 6)) 69 13 (-1 : Int32)) 69 11 (-1 : Int32))).bind (fun h_10 => some h_10))) else none)) else none) else (fX5_next_109 (uI (uI (uI h 69 8 (hI h 69 6)) 69 13 (-1 : Int32)) 69 11 (-1 : Int32))))
def fX5_next_57 (rec8 : Hp → Option (Hp)) (h : Hp) : Option (Hp) := rec8 (uI h 69 6 ((hI h 69 6) + (1 : Int32)))
def fX5_next_8 : Nat → Hp → Option (Hp)
  | 0, _ => none
  | fu + 1, h => if (hI h 69 3) ≤ (hI h 69 6) then (fX5_next_70 h) else (if (700 : Int32) ≤ (hI h 69 6) then (fX5_next_70 h) else (if inb (hI h 69 6) 700 then (if (hI h 70 (Int32.toNatClampNeg (hI h 69 6))) = (10 : Int32) then (fX5_next_57 (fX5_next_8 fu) h) else (if inb (hI h 69 6) 700 then (if (hI h 70 (Int32.toNatClampNeg (hI h 69 6))) = (32 : Int32) then (fX5_next_57 (fX5_next_8 fu) h) else (fX5_next_70 h)) else none)) else none))
def fX5_next (h : Hp) : Option (Hp) := fX5_next_8 FU (uI h 69 9 (hI h 69 8))
set_option maxRecDepth 100000 in
set_option maxHeartbeats 4000000 in
theorem c_X5_next {l : Launch} {sb : State} {D : va_G} {ids : Nat → ClassId} {n : Nat} (hN : 152 ≤ n) (h : Hp) (r : Hp) (hr : fX5_next h = some r) : jM l yX5_next cX5_next 1 none 1 sb D ids shp St n [.ref 69] h (jQv sb D ids shp St n r) := by
  refine jM_of hr rfl (Nat.le_of_ble_eq_true rfl) ?_
  intro p e s m args below meth c hC hret
  have b109 : ∀ (h : Hp) , jJ p l e (rmD 1) s m args below meth c 1 sb D ids shp St (fun r => MQ below (jQv sb D ids shp St n r) args s 0 0 (jA sb)) n 0 0 h 109 [(0, .ref 69)] [] (fX5_next_109 h ) := by
    intro h 
    unfold fX5_next_109
    refine j_aload_n hC 0 rfl rfl (dOk_at dt_X5_next 53 rfl) ?_
    refine j_iconst hC (v := (0 : Int32)) rfl (dOk_at dt_X5_next 54 rfl) ?_
    refine j_putI hC St_SP flX5_79 (show shp 69 = (5, 16) from rfl) (Nat.lt_of_lt_of_le (Nat.le_of_ble_eq_true rfl : 69 < 152) hN) (by decide) (by decide) rfl rfl (dOk_at dt_X5_next 55 rfl) ?_
    refine j_goto hC (tgt := 200) (by decide) (dOk_at dt_X5_next 56 rfl) ?_
    exact j_vret hC hret (dOk_at dt_X5_next 98 rfl)
  have b187 : ∀ (h : Hp) , jJ p l e (rmD 1) s m args below meth c 1 sb D ids shp St (fun r => MQ below (jQv sb D ids shp St n r) args s 0 0 (jA sb)) n 0 0 h 187 [(0, .ref 69)] [] (fX5_next_187 h ) := by
    intro h 
    unfold fX5_next_187
    refine j_aload_n hC 0 rfl rfl (dOk_at dt_X5_next 91 rfl) ?_
    refine j_aload_n hC 0 rfl rfl (dOk_at dt_X5_next 92 rfl) ?_
    refine j_getR hC flX5_9 (show shp 69 = (5, 16) from rfl) (Nat.lt_of_lt_of_le (Nat.le_of_ble_eq_true rfl : 69 < 152) hN) (by decide) (by decide) (fun _ _ _ => rfl) (fun hs => hs 69 0 70 rfl) (dOk_at dt_X5_next 93 rfl) ?_
    refine j_aload_n hC 0 rfl rfl (dOk_at dt_X5_next 94 rfl) ?_
    refine j_getI hC flX5_67 (show shp 69 = (5, 16) from rfl) (Nat.lt_of_lt_of_le (Nat.le_of_ble_eq_true rfl : 69 < 152) hN) (by decide) (by decide) (fun _ _ _ => rfl) (dOk_at dt_X5_next 95 rfl) ?_
    refine j_bald hC (show shp 70 = (20, 700) from rfl) (Nat.lt_of_lt_of_le (Nat.le_of_ble_eq_true rfl : 70 < 152) hN) (dOk_at dt_X5_next 96 rfl) ?_
    refine j_callVv hC clX5_97 (fun rz hrz => c_X5_readSign hN _ _ rz hrz) (show shp 69 = (5, 16) from rfl) (Nat.lt_of_lt_of_le (Nat.le_of_ble_eq_true rfl : 69 < 152) hN) (by decide) rfl rfl ⟨Nat.le_of_ble_eq_true rfl, Nat.le_of_ble_eq_true rfl⟩ ⟨Nat.le_refl 0, Nat.le_refl 0⟩ (As := [.int (hI h 70 (Int32.toNatClampNeg (hI h 69 6)))]) (st := []) rfl (Nat.le_of_ble_eq_true rfl) (dOk_at dt_X5_next 97 rfl) (fun h_16 _ => ?_)
    exact j_vret hC hret (dOk_at dt_X5_next 98 rfl)
  have b152 : ∀ (h : Hp) , jJ p l e (rmD 1) s m args below meth c 1 sb D ids shp St (fun r => MQ below (jQv sb D ids shp St n r) args s 0 0 (jA sb)) n 0 0 h 152 [(0, .ref 69)] [] (fX5_next_152 h ) := by
    intro h 
    unfold fX5_next_152
    refine j_aload_n hC 0 rfl rfl (dOk_at dt_X5_next 74 rfl) ?_
    refine j_getR hC flX5_9 (show shp 69 = (5, 16) from rfl) (Nat.lt_of_lt_of_le (Nat.le_of_ble_eq_true rfl : 69 < 152) hN) (by decide) (by decide) (fun _ _ _ => rfl) (fun hs => hs 69 0 70 rfl) (dOk_at dt_X5_next 75 rfl) ?_
    refine j_aload_n hC 0 rfl rfl (dOk_at dt_X5_next 76 rfl) ?_
    refine j_getI hC flX5_67 (show shp 69 = (5, 16) from rfl) (Nat.lt_of_lt_of_le (Nat.le_of_ble_eq_true rfl : 69 < 152) hN) (by decide) (by decide) (fun _ _ _ => rfl) (dOk_at dt_X5_next 77 rfl) ?_
    refine j_bald hC (show shp 70 = (20, 700) from rfl) (Nat.lt_of_lt_of_le (Nat.le_of_ble_eq_true rfl : 70 < 152) hN) (dOk_at dt_X5_next 78 rfl) ?_
    refine j_bipush hC (v := (48 : Int32)) rfl (dOk_at dt_X5_next 79 rfl) ?_
    refine j_icmp_lt hC (tgt := 187) (by decide) (dOk_at dt_X5_next 80 rfl) (fun q_11 => ?_) (fun q_11 => ?_)
    · exact b187 h 
    · refine j_aload_n hC 0 rfl rfl (dOk_at dt_X5_next 81 rfl) ?_
      refine j_getR hC flX5_9 (show shp 69 = (5, 16) from rfl) (Nat.lt_of_lt_of_le (Nat.le_of_ble_eq_true rfl : 69 < 152) hN) (by decide) (by decide) (fun _ _ _ => rfl) (fun hs => hs 69 0 70 rfl) (dOk_at dt_X5_next 82 rfl) ?_
      refine j_aload_n hC 0 rfl rfl (dOk_at dt_X5_next 83 rfl) ?_
      refine j_getI hC flX5_67 (show shp 69 = (5, 16) from rfl) (Nat.lt_of_lt_of_le (Nat.le_of_ble_eq_true rfl : 69 < 152) hN) (by decide) (by decide) (fun _ _ _ => rfl) (dOk_at dt_X5_next 84 rfl) ?_
      refine j_bald hC (show shp 70 = (20, 700) from rfl) (Nat.lt_of_lt_of_le (Nat.le_of_ble_eq_true rfl : 70 < 152) hN) (dOk_at dt_X5_next 85 rfl) ?_
      refine j_bipush hC (v := (57 : Int32)) rfl (dOk_at dt_X5_next 86 rfl) ?_
      refine j_icmp_gt hC (tgt := 187) (by decide) (dOk_at dt_X5_next 87 rfl) (fun q_12 => ?_) (fun q_12 => ?_)
      · exact b187 h 
      · refine j_aload_n hC 0 rfl rfl (dOk_at dt_X5_next 88 rfl) ?_
        refine j_callVv hC clX5_94 (fun rz hrz => c_X5_readNumber hN _ rz hrz) (show shp 69 = (5, 16) from rfl) (Nat.lt_of_lt_of_le (Nat.le_of_ble_eq_true rfl : 69 < 152) hN) (by decide) rfl rfl ⟨Nat.le_of_ble_eq_true rfl, Nat.le_of_ble_eq_true rfl⟩ ⟨Nat.le_refl 0, Nat.le_refl 0⟩ (As := []) (st := []) rfl (Nat.le_of_ble_eq_true rfl) (dOk_at dt_X5_next 89 rfl) (fun h_14 _ => ?_)
        refine j_goto hC (tgt := 200) (by decide) (dOk_at dt_X5_next 90 rfl) ?_
        exact j_vret hC hret (dOk_at dt_X5_next 98 rfl)
  have b70 : ∀ (h : Hp) , jJ p l e (rmD 1) s m args below meth c 1 sb D ids shp St (fun r => MQ below (jQv sb D ids shp St n r) args s 0 0 (jA sb)) n 0 0 h 70 [(0, .ref 69)] [] (fX5_next_70 h ) := by
    intro h 
    unfold fX5_next_70
    refine j_aload_n hC 0 rfl rfl (dOk_at dt_X5_next 34 rfl) ?_
    refine j_aload_n hC 0 rfl rfl (dOk_at dt_X5_next 35 rfl) ?_
    refine j_getI hC flX5_67 (show shp 69 = (5, 16) from rfl) (Nat.lt_of_lt_of_le (Nat.le_of_ble_eq_true rfl : 69 < 152) hN) (by decide) (by decide) (fun _ _ _ => rfl) (dOk_at dt_X5_next 36 rfl) ?_
    refine j_putI hC St_SP flX5_70 (show shp 69 = (5, 16) from rfl) (Nat.lt_of_lt_of_le (Nat.le_of_ble_eq_true rfl : 69 < 152) hN) (by decide) (by decide) rfl rfl (dOk_at dt_X5_next 37 rfl) ?_
    refine j_aload_n hC 0 rfl rfl (dOk_at dt_X5_next 38 rfl) ?_
    refine j_iconst hC (v := (-1 : Int32)) rfl (dOk_at dt_X5_next 39 rfl) ?_
    refine j_putI hC St_SP flX5_85 (show shp 69 = (5, 16) from rfl) (Nat.lt_of_lt_of_le (Nat.le_of_ble_eq_true rfl : 69 < 152) hN) (by decide) (by decide) rfl rfl (dOk_at dt_X5_next 40 rfl) ?_
    refine j_aload_n hC 0 rfl rfl (dOk_at dt_X5_next 41 rfl) ?_
    refine j_iconst hC (v := (-1 : Int32)) rfl (dOk_at dt_X5_next 42 rfl) ?_
    refine j_putI hC St_SP flX5_88 (show shp 69 = (5, 16) from rfl) (Nat.lt_of_lt_of_le (Nat.le_of_ble_eq_true rfl : 69 < 152) hN) (by decide) (by decide) rfl rfl (dOk_at dt_X5_next 43 rfl) ?_
    refine j_aload_n hC 0 rfl rfl (dOk_at dt_X5_next 44 rfl) ?_
    refine j_getI hC flX5_67 (show shp 69 = (5, 16) from rfl) (Nat.lt_of_lt_of_le (Nat.le_of_ble_eq_true rfl : 69 < 152) hN) (by decide) (by decide) (fun _ _ _ => rfl) (dOk_at dt_X5_next 45 rfl) ?_
    refine j_aload_n hC 0 rfl rfl (dOk_at dt_X5_next 46 rfl) ?_
    refine j_getI hC flX5_62 (show shp 69 = (5, 16) from rfl) (Nat.lt_of_lt_of_le (Nat.le_of_ble_eq_true rfl : 69 < 152) hN) (by decide) (by decide) (fun _ _ _ => rfl) (dOk_at dt_X5_next 47 rfl) ?_
    refine j_icmp_ge hC (tgt := 109) (by decide) (dOk_at dt_X5_next 48 rfl) (fun q_5 => ?_) (fun q_5 => ?_)
    · exact b109 (uI (uI (uI h 69 8 (hI h 69 6)) 69 13 (-1 : Int32)) 69 11 (-1 : Int32)) 
    · refine j_aload_n hC 0 rfl rfl (dOk_at dt_X5_next 49 rfl) ?_
      refine j_getI hC flX5_67 (show shp 69 = (5, 16) from rfl) (Nat.lt_of_lt_of_le (Nat.le_of_ble_eq_true rfl : 69 < 152) hN) (by decide) (by decide) (fun _ _ _ => rfl) (dOk_at dt_X5_next 50 rfl) ?_
      refine j_sipush hC (v := (700 : Int32)) rfl (dOk_at dt_X5_next 51 rfl) ?_
      refine j_icmp_lt hC (tgt := 117) (by decide) (dOk_at dt_X5_next 52 rfl) (fun q_6 => ?_) (fun q_6 => ?_)
      · refine j_aload_n hC 0 rfl rfl (dOk_at dt_X5_next 57 rfl) ?_
        refine j_getR hC flX5_9 (show shp 69 = (5, 16) from rfl) (Nat.lt_of_lt_of_le (Nat.le_of_ble_eq_true rfl : 69 < 152) hN) (by decide) (by decide) (fun _ _ _ => rfl) (fun hs => hs 69 0 70 rfl) (dOk_at dt_X5_next 58 rfl) ?_
        refine j_aload_n hC 0 rfl rfl (dOk_at dt_X5_next 59 rfl) ?_
        refine j_getI hC flX5_67 (show shp 69 = (5, 16) from rfl) (Nat.lt_of_lt_of_le (Nat.le_of_ble_eq_true rfl : 69 < 152) hN) (by decide) (by decide) (fun _ _ _ => rfl) (dOk_at dt_X5_next 60 rfl) ?_
        refine j_bald hC (show shp 70 = (20, 700) from rfl) (Nat.lt_of_lt_of_le (Nat.le_of_ble_eq_true rfl : 70 < 152) hN) (dOk_at dt_X5_next 61 rfl) ?_
        refine j_bipush hC (v := (97 : Int32)) rfl (dOk_at dt_X5_next 62 rfl) ?_
        refine j_icmp_lt hC (tgt := 152) (by decide) (dOk_at dt_X5_next 63 rfl) (fun q_7 => ?_) (fun q_7 => ?_)
        · exact b152 (uI (uI (uI h 69 8 (hI h 69 6)) 69 13 (-1 : Int32)) 69 11 (-1 : Int32)) 
        · refine j_aload_n hC 0 rfl rfl (dOk_at dt_X5_next 64 rfl) ?_
          refine j_getR hC flX5_9 (show shp 69 = (5, 16) from rfl) (Nat.lt_of_lt_of_le (Nat.le_of_ble_eq_true rfl : 69 < 152) hN) (by decide) (by decide) (fun _ _ _ => rfl) (fun hs => hs 69 0 70 rfl) (dOk_at dt_X5_next 65 rfl) ?_
          refine j_aload_n hC 0 rfl rfl (dOk_at dt_X5_next 66 rfl) ?_
          refine j_getI hC flX5_67 (show shp 69 = (5, 16) from rfl) (Nat.lt_of_lt_of_le (Nat.le_of_ble_eq_true rfl : 69 < 152) hN) (by decide) (by decide) (fun _ _ _ => rfl) (dOk_at dt_X5_next 67 rfl) ?_
          refine j_bald hC (show shp 70 = (20, 700) from rfl) (Nat.lt_of_lt_of_le (Nat.le_of_ble_eq_true rfl : 70 < 152) hN) (dOk_at dt_X5_next 68 rfl) ?_
          refine j_bipush hC (v := (122 : Int32)) rfl (dOk_at dt_X5_next 69 rfl) ?_
          refine j_icmp_gt hC (tgt := 152) (by decide) (dOk_at dt_X5_next 70 rfl) (fun q_8 => ?_) (fun q_8 => ?_)
          · exact b152 (uI (uI (uI h 69 8 (hI h 69 6)) 69 13 (-1 : Int32)) 69 11 (-1 : Int32)) 
          · refine j_aload_n hC 0 rfl rfl (dOk_at dt_X5_next 71 rfl) ?_
            refine j_callVv hC clX5_91 (fun rz hrz => c_X5_readWord hN _ rz hrz) (show shp 69 = (5, 16) from rfl) (Nat.lt_of_lt_of_le (Nat.le_of_ble_eq_true rfl : 69 < 152) hN) (by decide) rfl rfl ⟨Nat.le_of_ble_eq_true rfl, Nat.le_of_ble_eq_true rfl⟩ ⟨Nat.le_refl 0, Nat.le_refl 0⟩ (As := []) (st := []) rfl (Nat.le_of_ble_eq_true rfl) (dOk_at dt_X5_next 72 rfl) (fun h_10 _ => ?_)
            refine j_goto hC (tgt := 200) (by decide) (dOk_at dt_X5_next 73 rfl) ?_
            exact j_vret hC hret (dOk_at dt_X5_next 98 rfl)
      · exact b109 (uI (uI (uI h 69 8 (hI h 69 6)) 69 13 (-1 : Int32)) 69 11 (-1 : Int32)) 
  have b57 : ∀ (rec8 : Hp → Option (Hp)) (hrec8 : ∀ (h : Hp) , jJ p l e (rmD 1) s m args below meth c 1 sb D ids shp St (fun r => MQ below (jQv sb D ids shp St n r) args s 0 0 (jA sb)) n 0 0 h 8 [(0, .ref 69)] [] (rec8 h )) (h : Hp) , jJ p l e (rmD 1) s m args below meth c 1 sb D ids shp St (fun r => MQ below (jQv sb D ids shp St n r) args s 0 0 (jA sb)) n 0 0 h 57 [(0, .ref 69)] [] (fX5_next_57 rec8 h ) := by
    intro rec8 hrec8 h 
    unfold fX5_next_57
    refine j_aload_n hC 0 rfl rfl (dOk_at dt_X5_next 27 rfl) ?_
    refine j_dupr hC (dOk_at dt_X5_next 28 rfl) ?_
    refine j_getI hC flX5_67 (show shp 69 = (5, 16) from rfl) (Nat.lt_of_lt_of_le (Nat.le_of_ble_eq_true rfl : 69 < 152) hN) (by decide) (by decide) (fun _ _ _ => rfl) (dOk_at dt_X5_next 29 rfl) ?_
    refine j_iconst hC (v := (1 : Int32)) rfl (dOk_at dt_X5_next 30 rfl) ?_
    refine j_iadd hC (dOk_at dt_X5_next 31 rfl) ?_
    refine j_putI hC St_SP flX5_67 (show shp 69 = (5, 16) from rfl) (Nat.lt_of_lt_of_le (Nat.le_of_ble_eq_true rfl : 69 < 152) hN) (by decide) (by decide) rfl rfl (dOk_at dt_X5_next 32 rfl) ?_
    refine j_goto hC (tgt := 8) (by decide) (dOk_at dt_X5_next 33 rfl) ?_
    exact hrec8 (uI h 69 6 ((hI h 69 6) + (1 : Int32))) 
  have b8 : ∀ (fu : Nat) (h : Hp) , jJ p l e (rmD 1) s m args below meth c 1 sb D ids shp St (fun r => MQ below (jQv sb D ids shp St n r) args s 0 0 (jA sb)) n 0 0 h 8 [(0, .ref 69)] [] (fX5_next_8 fu h ) := by
    intro fu 
    induction fu with
    | zero => intro h ; exact j_none
    | succ fu ih =>
    intro h 
    rw [fX5_next_8]
    refine j_aload_n hC 0 rfl rfl (dOk_at dt_X5_next 4 rfl) ?_
    refine j_getI hC flX5_67 (show shp 69 = (5, 16) from rfl) (Nat.lt_of_lt_of_le (Nat.le_of_ble_eq_true rfl : 69 < 152) hN) (by decide) (by decide) (fun _ _ _ => rfl) (dOk_at dt_X5_next 5 rfl) ?_
    refine j_aload_n hC 0 rfl rfl (dOk_at dt_X5_next 6 rfl) ?_
    refine j_getI hC flX5_62 (show shp 69 = (5, 16) from rfl) (Nat.lt_of_lt_of_le (Nat.le_of_ble_eq_true rfl : 69 < 152) hN) (by decide) (by decide) (fun _ _ _ => rfl) (dOk_at dt_X5_next 7 rfl) ?_
    refine j_icmp_ge hC (tgt := 70) (by decide) (dOk_at dt_X5_next 8 rfl) (fun q_1 => ?_) (fun q_1 => ?_)
    · exact b70 h 
    · refine j_aload_n hC 0 rfl rfl (dOk_at dt_X5_next 9 rfl) ?_
      refine j_getI hC flX5_67 (show shp 69 = (5, 16) from rfl) (Nat.lt_of_lt_of_le (Nat.le_of_ble_eq_true rfl : 69 < 152) hN) (by decide) (by decide) (fun _ _ _ => rfl) (dOk_at dt_X5_next 10 rfl) ?_
      refine j_sipush hC (v := (700 : Int32)) rfl (dOk_at dt_X5_next 11 rfl) ?_
      refine j_icmp_ge hC (tgt := 70) (by decide) (dOk_at dt_X5_next 12 rfl) (fun q_2 => ?_) (fun q_2 => ?_)
      · exact b70 h 
      · refine j_aload_n hC 0 rfl rfl (dOk_at dt_X5_next 13 rfl) ?_
        refine j_getR hC flX5_9 (show shp 69 = (5, 16) from rfl) (Nat.lt_of_lt_of_le (Nat.le_of_ble_eq_true rfl : 69 < 152) hN) (by decide) (by decide) (fun _ _ _ => rfl) (fun hs => hs 69 0 70 rfl) (dOk_at dt_X5_next 14 rfl) ?_
        refine j_aload_n hC 0 rfl rfl (dOk_at dt_X5_next 15 rfl) ?_
        refine j_getI hC flX5_67 (show shp 69 = (5, 16) from rfl) (Nat.lt_of_lt_of_le (Nat.le_of_ble_eq_true rfl : 69 < 152) hN) (by decide) (by decide) (fun _ _ _ => rfl) (dOk_at dt_X5_next 16 rfl) ?_
        refine j_bald hC (show shp 70 = (20, 700) from rfl) (Nat.lt_of_lt_of_le (Nat.le_of_ble_eq_true rfl : 70 < 152) hN) (dOk_at dt_X5_next 17 rfl) ?_
        refine j_bipush hC (v := (10 : Int32)) rfl (dOk_at dt_X5_next 18 rfl) ?_
        refine j_icmp_eq hC (tgt := 57) (by decide) (dOk_at dt_X5_next 19 rfl) (fun q_3 => ?_) (fun q_3 => ?_)
        · exact b57 (fX5_next_8 fu) ih h 
        · refine j_aload_n hC 0 rfl rfl (dOk_at dt_X5_next 20 rfl) ?_
          refine j_getR hC flX5_9 (show shp 69 = (5, 16) from rfl) (Nat.lt_of_lt_of_le (Nat.le_of_ble_eq_true rfl : 69 < 152) hN) (by decide) (by decide) (fun _ _ _ => rfl) (fun hs => hs 69 0 70 rfl) (dOk_at dt_X5_next 21 rfl) ?_
          refine j_aload_n hC 0 rfl rfl (dOk_at dt_X5_next 22 rfl) ?_
          refine j_getI hC flX5_67 (show shp 69 = (5, 16) from rfl) (Nat.lt_of_lt_of_le (Nat.le_of_ble_eq_true rfl : 69 < 152) hN) (by decide) (by decide) (fun _ _ _ => rfl) (dOk_at dt_X5_next 23 rfl) ?_
          refine j_bald hC (show shp 70 = (20, 700) from rfl) (Nat.lt_of_lt_of_le (Nat.le_of_ble_eq_true rfl : 70 < 152) hN) (dOk_at dt_X5_next 24 rfl) ?_
          refine j_bipush hC (v := (32 : Int32)) rfl (dOk_at dt_X5_next 25 rfl) ?_
          refine j_icmp_ne hC (tgt := 70) (by decide) (dOk_at dt_X5_next 26 rfl) (fun q_4 => ?_) (fun q_4 => ?_)
          · exact b70 h 
          · exact b57 (fX5_next_8 fu) ih h 
  unfold fX5_next
  refine j_aload_n hC 0 rfl rfl (dOk_at dt_X5_next 0 rfl) ?_
  refine j_aload_n hC 0 rfl rfl (dOk_at dt_X5_next 1 rfl) ?_
  refine j_getI hC flX5_70 (show shp 69 = (5, 16) from rfl) (Nat.lt_of_lt_of_le (Nat.le_of_ble_eq_true rfl : 69 < 152) hN) (by decide) (by decide) (fun _ _ _ => rfl) (dOk_at dt_X5_next 2 rfl) ?_
  refine j_putI hC St_SP flX5_82 (show shp 69 = (5, 16) from rfl) (Nat.lt_of_lt_of_le (Nat.le_of_ble_eq_true rfl : 69 < 152) hN) (by decide) (by decide) rfl rfl (dOk_at dt_X5_next 3 rfl) ?_
  exact b8 FU (uI h 69 9 (hI h 69 8)) 
def tb_X5_begin : List (Nat × Instr × Nat) := [(0, .aload_n 0, 1), (1, .iload_n 1, 1), (2, .sipush 700, 3), (5, .invokestatic 56, 3), (8, .putfield 62, 3), (11, .aload_n 0, 1), (12, .iconst 0, 1), (13, .putfield 15, 3), (16, .aload_n 0, 1), (17, .aload_n 2, 1), (18, .putfield 19, 3), (21, .aload_n 0, 1), (22, .getfield 19, 3), (25, .invokevirtual 64, 3), (28, .aload_n 0, 1), (29, .iconst 0, 1), (30, .putfield 67, 3), (33, .aload_n 0, 1), (34, .iconst 0, 1), (35, .putfield 70, 3), (38, .aload_n 0, 1), (39, .iconst 0, 1), (40, .putfield 73, 3), (43, .aload_n 0, 1), (44, .iconst (-1), 1), (45, .putfield 41, 3), (48, .aload_n 0, 1), (49, .invokevirtual 76, 3), (52, .return_, 1)]
theorem dt_X5_begin : dOk cX5_begin tb_X5_begin = true := by decide +kernel
def fX5_begin (r2 : Nat) (h : Hp) (x1 : Int32) : Option (Hp) := (dref shp (uR (uI (uI h 69 3 (if (700 : Int32) < x1 then (700 : Int32) else x1)) 69 1 (0 : Int32)) 69 4 (some r2)) 69 4 (7, 20)).bind (fun z_1 => (fX7_clear z_1 (uR (uI (uI h 69 3 (if (700 : Int32) < x1 then (700 : Int32) else x1)) 69 1 (0 : Int32)) 69 4 (some r2))).bind (fun h_4 => (fX5_next (uI (uI (uI (uI h_4 69 6 (0 : Int32)) 69 8 (0 : Int32)) 69 14 (0 : Int32)) 69 15 (-1 : Int32))).bind (fun h_6 => some h_6)))
set_option maxRecDepth 100000 in
set_option maxHeartbeats 4000000 in
theorem c_X5_begin {l : Launch} {sb : State} {D : va_G} {ids : Nat → ClassId} {n : Nat} (hN : 152 ≤ n) {r2 : Nat} (h2 : shp r2 = (7, 20)) (h : Hp) (x1 : Int32) (r : Hp) (hr : fX5_begin r2 h x1 = some r) : jM l yX5_begin cX5_begin 3 none 2 sb D ids shp St n [.ref 69, .int x1, .ref r2] h (jQv sb D ids shp St n r) := by
  refine jM_of hr rfl (Nat.le_of_ble_eq_true rfl) ?_
  intro p e s m args below meth c hC hret
  unfold fX5_begin
  refine j_aload_n hC 0 rfl rfl (dOk_at dt_X5_begin 0 rfl) ?_
  refine j_iload_n hC 1 rfl rfl (dOk_at dt_X5_begin 1 rfl) ?_
  refine j_sipush hC (v := (700 : Int32)) rfl (dOk_at dt_X5_begin 2 rfl) ?_
  refine j_mmin hC mtX5_56 ⟨Nat.le_of_ble_eq_true rfl, Nat.le_of_ble_eq_true rfl⟩ ⟨Nat.le_refl 0, Nat.le_refl 0⟩ (Nat.le_of_ble_eq_true rfl) (dOk_at dt_X5_begin 3 rfl) ?_
  refine j_putI hC St_SP flX5_62 (show shp 69 = (5, 16) from rfl) (Nat.lt_of_lt_of_le (Nat.le_of_ble_eq_true rfl : 69 < 152) hN) (by decide) (by decide) rfl rfl (dOk_at dt_X5_begin 4 rfl) ?_
  refine j_aload_n hC 0 rfl rfl (dOk_at dt_X5_begin 5 rfl) ?_
  refine j_iconst hC (v := (0 : Int32)) rfl (dOk_at dt_X5_begin 6 rfl) ?_
  refine j_putI hC St_SP flX5_15 (show shp 69 = (5, 16) from rfl) (Nat.lt_of_lt_of_le (Nat.le_of_ble_eq_true rfl : 69 < 152) hN) (by decide) (by decide) rfl rfl (dOk_at dt_X5_begin 7 rfl) ?_
  refine j_aload_n hC 0 rfl rfl (dOk_at dt_X5_begin 8 rfl) ?_
  refine j_aload_n hC 2 rfl rfl (dOk_at dt_X5_begin 9 rfl) ?_
  refine j_putR hC flX5_19 (show shp 69 = (5, 16) from rfl) (Nat.lt_of_lt_of_le (Nat.le_of_ble_eq_true rfl : 69 < 152) hN) (by decide) (by decide) rfl rfl (fun hs => St_uR hs rfl) (dOk_at dt_X5_begin 10 rfl) ?_
  refine j_aload_n hC 0 rfl rfl (dOk_at dt_X5_begin 11 rfl) ?_
  refine j_getD (q := (7, 20)) hC flX5_19 (show shp 69 = (5, 16) from rfl) (Nat.lt_of_lt_of_le (Nat.le_of_ble_eq_true rfl : 69 < 152) hN) (by decide) (by decide) (fun _ _ _ => rfl) (dOk_at dt_X5_begin 12 rfl) (fun z_1 _ g_2 => ?_)
  refine j_callVv hC clX5_64 (fun rz hrz => c_X7_clear hN (g_2) _ rz hrz) g_2 (jlt hN g_2 (by decide)) (by decide) rfl rfl ⟨Nat.le_of_ble_eq_true rfl, Nat.le_of_ble_eq_true rfl⟩ ⟨Nat.le_refl 0, Nat.le_refl 0⟩ (As := []) (st := []) rfl (Nat.le_of_ble_eq_true rfl) (dOk_at dt_X5_begin 13 rfl) (fun h_4 _ => ?_)
  refine j_aload_n hC 0 rfl rfl (dOk_at dt_X5_begin 14 rfl) ?_
  refine j_iconst hC (v := (0 : Int32)) rfl (dOk_at dt_X5_begin 15 rfl) ?_
  refine j_putI hC St_SP flX5_67 (show shp 69 = (5, 16) from rfl) (Nat.lt_of_lt_of_le (Nat.le_of_ble_eq_true rfl : 69 < 152) hN) (by decide) (by decide) rfl rfl (dOk_at dt_X5_begin 16 rfl) ?_
  refine j_aload_n hC 0 rfl rfl (dOk_at dt_X5_begin 17 rfl) ?_
  refine j_iconst hC (v := (0 : Int32)) rfl (dOk_at dt_X5_begin 18 rfl) ?_
  refine j_putI hC St_SP flX5_70 (show shp 69 = (5, 16) from rfl) (Nat.lt_of_lt_of_le (Nat.le_of_ble_eq_true rfl : 69 < 152) hN) (by decide) (by decide) rfl rfl (dOk_at dt_X5_begin 19 rfl) ?_
  refine j_aload_n hC 0 rfl rfl (dOk_at dt_X5_begin 20 rfl) ?_
  refine j_iconst hC (v := (0 : Int32)) rfl (dOk_at dt_X5_begin 21 rfl) ?_
  refine j_putI hC St_SP flX5_73 (show shp 69 = (5, 16) from rfl) (Nat.lt_of_lt_of_le (Nat.le_of_ble_eq_true rfl : 69 < 152) hN) (by decide) (by decide) rfl rfl (dOk_at dt_X5_begin 22 rfl) ?_
  refine j_aload_n hC 0 rfl rfl (dOk_at dt_X5_begin 23 rfl) ?_
  refine j_iconst hC (v := (-1 : Int32)) rfl (dOk_at dt_X5_begin 24 rfl) ?_
  refine j_putI hC St_SP flX5_41 (show shp 69 = (5, 16) from rfl) (Nat.lt_of_lt_of_le (Nat.le_of_ble_eq_true rfl : 69 < 152) hN) (by decide) (by decide) rfl rfl (dOk_at dt_X5_begin 25 rfl) ?_
  refine j_aload_n hC 0 rfl rfl (dOk_at dt_X5_begin 26 rfl) ?_
  refine j_callVv hC clX5_76 (fun rz hrz => c_X5_next hN _ rz hrz) (show shp 69 = (5, 16) from rfl) (Nat.lt_of_lt_of_le (Nat.le_of_ble_eq_true rfl : 69 < 152) hN) (by decide) rfl rfl ⟨Nat.le_of_ble_eq_true rfl, Nat.le_of_ble_eq_true rfl⟩ ⟨Nat.le_refl 0, Nat.le_refl 0⟩ (As := []) (st := []) rfl (Nat.le_of_ble_eq_true rfl) (dOk_at dt_X5_begin 27 rfl) (fun h_6 _ => ?_)
  exact j_vret hC hret (dOk_at dt_X5_begin 28 rfl)
def tb_X5_hasMore : List (Nat × Instr × Nat) := [(0, .aload_n 0, 1), (1, .getfield 73, 3), (4, .ifCond .ne 14, 3), (7, .aload_n 0, 1), (8, .getfield 79, 3), (11, .ifCond .eq 7, 3), (14, .iconst 1, 1), (15, .goto 4, 3), (18, .iconst 0, 1), (19, .ireturn, 1)]
theorem dt_X5_hasMore : dOk cX5_hasMore tb_X5_hasMore = true := by decide +kernel
def fX5_hasMore (h : Hp) : Option (Int32 × Hp) := if (hI h 69 14) = 0 then (if (hI h 69 7) = 0 then (some ((0 : Int32), h)) else (some ((1 : Int32), h))) else (some ((0 : Int32), h))
set_option maxRecDepth 100000 in
set_option maxHeartbeats 4000000 in
theorem c_X5_hasMore {l : Launch} {sb : State} {D : va_G} {ids : Nat → ClassId} {n : Nat} (hN : 152 ≤ n) (h : Hp) (r : Int32 × Hp) (hr : fX5_hasMore h = some r) : jM l yX5_hasMore cX5_hasMore 1 (some .boolean) 0 sb D ids shp St n [.ref 69] h (jQi sb D ids shp St n r) := by
  refine jM_of hr rfl (Nat.le_of_ble_eq_true rfl) ?_
  intro p e s m args below meth c hC hret
  unfold fX5_hasMore
  refine j_aload_n hC 0 rfl rfl (dOk_at dt_X5_hasMore 0 rfl) ?_
  refine j_getI hC flX5_73 (show shp 69 = (5, 16) from rfl) (Nat.lt_of_lt_of_le (Nat.le_of_ble_eq_true rfl : 69 < 152) hN) (by decide) (by decide) (fun _ _ _ => rfl) (dOk_at dt_X5_hasMore 1 rfl) ?_
  refine j_if_ne hC (tgt := 18) (by decide) (dOk_at dt_X5_hasMore 2 rfl) (fun q_1 => ?_) (fun q_1 => ?_)
  · refine j_iconst hC (v := (0 : Int32)) rfl (dOk_at dt_X5_hasMore 8 rfl) ?_
    exact j_zretK hC hret rfl (dOk_at dt_X5_hasMore 9 rfl)
  · refine j_aload_n hC 0 rfl rfl (dOk_at dt_X5_hasMore 3 rfl) ?_
    refine j_getI hC flX5_79 (show shp 69 = (5, 16) from rfl) (Nat.lt_of_lt_of_le (Nat.le_of_ble_eq_true rfl : 69 < 152) hN) (by decide) (by decide) (fun _ _ _ => rfl) (dOk_at dt_X5_hasMore 4 rfl) ?_
    refine j_if_eq hC (tgt := 18) (by decide) (dOk_at dt_X5_hasMore 5 rfl) (fun q_2 => ?_) (fun q_2 => ?_)
    · refine j_iconst hC (v := (0 : Int32)) rfl (dOk_at dt_X5_hasMore 8 rfl) ?_
      exact j_zretK hC hret rfl (dOk_at dt_X5_hasMore 9 rfl)
    · refine j_iconst hC (v := (1 : Int32)) rfl (dOk_at dt_X5_hasMore 6 rfl) ?_
      refine j_goto hC (tgt := 19) (by decide) (dOk_at dt_X5_hasMore 7 rfl) ?_
      exact j_zretK hC hret rfl (dOk_at dt_X5_hasMore 9 rfl)
def tb_X5_fail : List (Nat × Instr × Nat) := [(0, .aload_n 0, 1), (1, .getfield 73, 3), (4, .ifCond .ne 13, 3), (7, .aload_n 0, 1), (8, .iload_n 1, 1), (9, .putfield 73, 3), (12, .aload_n 0, 1), (13, .iload_n 2, 1), (14, .putfield 41, 3), (17, .return_, 1)]
theorem dt_X5_fail : dOk cX5_fail tb_X5_fail = true := by decide +kernel
def fX5_fail (h : Hp) (x1 : Int32) (x2 : Int32) : Option (Hp) := if (hI h 69 14) = 0 then (some (uI (uI h 69 14 x1) 69 15 x2)) else (some h)
set_option maxRecDepth 100000 in
set_option maxHeartbeats 4000000 in
theorem c_X5_fail {l : Launch} {sb : State} {D : va_G} {ids : Nat → ClassId} {n : Nat} (hN : 152 ≤ n) (h : Hp) (x1 : Int32) (x2 : Int32) (r : Hp) (hr : fX5_fail h x1 x2 = some r) : jM l yX5_fail cX5_fail 3 none 0 sb D ids shp St n [.ref 69, .int x1, .int x2] h (jQv sb D ids shp St n r) := by
  refine jM_of hr rfl (Nat.le_of_ble_eq_true rfl) ?_
  intro p e s m args below meth c hC hret
  unfold fX5_fail
  refine j_aload_n hC 0 rfl rfl (dOk_at dt_X5_fail 0 rfl) ?_
  refine j_getI hC flX5_73 (show shp 69 = (5, 16) from rfl) (Nat.lt_of_lt_of_le (Nat.le_of_ble_eq_true rfl : 69 < 152) hN) (by decide) (by decide) (fun _ _ _ => rfl) (dOk_at dt_X5_fail 1 rfl) ?_
  refine j_if_ne hC (tgt := 17) (by decide) (dOk_at dt_X5_fail 2 rfl) (fun q_1 => ?_) (fun q_1 => ?_)
  · exact j_vret hC hret (dOk_at dt_X5_fail 9 rfl)
  · refine j_aload_n hC 0 rfl rfl (dOk_at dt_X5_fail 3 rfl) ?_
    refine j_iload_n hC 1 rfl rfl (dOk_at dt_X5_fail 4 rfl) ?_
    refine j_putI hC St_SP flX5_73 (show shp 69 = (5, 16) from rfl) (Nat.lt_of_lt_of_le (Nat.le_of_ble_eq_true rfl : 69 < 152) hN) (by decide) (by decide) rfl rfl (dOk_at dt_X5_fail 5 rfl) ?_
    refine j_aload_n hC 0 rfl rfl (dOk_at dt_X5_fail 6 rfl) ?_
    refine j_iload_n hC 2 rfl rfl (dOk_at dt_X5_fail 7 rfl) ?_
    refine j_putI hC St_SP flX5_41 (show shp 69 = (5, 16) from rfl) (Nat.lt_of_lt_of_le (Nat.le_of_ble_eq_true rfl : 69 < 152) hN) (by decide) (by decide) rfl rfl (dOk_at dt_X5_fail 8 rfl) ?_
    exact j_vret hC hret (dOk_at dt_X5_fail 9 rfl)
