def tb_X6_init : List (Nat × Instr × Nat) := [(0, .aload_n 0, 1), (1, .invokespecial 3, 3), (4, .aload_n 0, 1), (5, .bipush 8, 2), (7, .newarray .int, 2), (9, .putfield 9, 3), (12, .aload_n 0, 1), (13, .iload_n 1, 1), (14, .putfield 15, 3), (17, .aload_n 0, 1), (18, .iconst 0, 1), (19, .putfield 19, 3), (22, .return_, 1)]
theorem dt_X6_init : dOk cX6_init tb_X6_init = true := by decide +kernel
def fX6_init_3 (h : Hp) : Option Hp := some (uI (uI (uR h 3 0 (some 4)) 3 1 (8 : Int32)) 3 2 (0 : Int32))
set_option maxRecDepth 100000 in
set_option maxHeartbeats 8000000 in
theorem c_X6_init_3 {l : Launch} {sb : State} {D : va_G} {ids : Nat → ClassId} (h r : Hp) (hr : fX6_init_3 h = some r) : jMc l yX6_init cX6_init 2 1 sb D ids shp 4 1 8 [.ref 3, .int (8 : Int32)] h (jQc sb D ids shp 5 r) := by
  refine jMc_of (Qc := fun r => jQc sb D ids shp 5 r) hr rfl rfl (Nat.le_of_ble_eq_true rfl) ?_
  intro p e s m args below meth c hC hret hin hs0
  unfold fX6_init_3
  refine j_aload_n hC 0 rfl rfl (dOk_at dt_X6_init 0 rfl) ?_
  refine j_objInit hC oiX6_3 ⟨Nat.le_of_ble_eq_true rfl, Nat.le_of_ble_eq_true rfl⟩ (Nat.le_of_ble_eq_true rfl) (dOk_at dt_X6_init 1 rfl) ?_
  refine j_aload_n hC 0 rfl rfl (dOk_at dt_X6_init 2 rfl) ?_
  refine j_bipush hC (v := (8 : Int32)) rfl (dOk_at dt_X6_init 3 rfl) ?_
  refine j_newaI (atype := .int) (n := 4) (t := 1) (ty := .int) (N := 8) hC aw_int rfl rfl (fun C q => by cases q) (show shp 4 = (20 + 1, 8) from rfl) rfl (by decide) (by decide +kernel) (by decide +kernel) (Nat.le_of_ble_eq_true rfl) (by omega) ⟨Nat.le_of_ble_eq_true rfl, Nat.le_of_ble_eq_true rfl⟩ (dOk_at dt_X6_init 4 rfl) ?_
  refine j_putRc (n := 5) hC hin flX6_9 (fun q hq _ => by cases hq; rfl) (show shp 3 = (6, 3) from rfl) (Nat.le_of_ble_eq_true rfl) (by decide) (by decide) (Or.inr ⟨_, rfl⟩) (dOk_at dt_X6_init 5 rfl) ?_
  refine j_aload_n hC 0 rfl rfl (dOk_at dt_X6_init 6 rfl) ?_
  refine j_iload_n hC 1 rfl rfl (dOk_at dt_X6_init 7 rfl) ?_
  refine j_putIc (n := 5) hC hin flX6_15 (fun q hq _ => by cases hq; rfl) (show shp 3 = (6, 3) from rfl) (Nat.le_of_ble_eq_true rfl) (by decide) (by decide) rfl (dOk_at dt_X6_init 8 rfl) ?_
  refine j_aload_n hC 0 rfl rfl (dOk_at dt_X6_init 9 rfl) ?_
  refine j_iconst hC (v := (0 : Int32)) rfl (dOk_at dt_X6_init 10 rfl) ?_
  refine j_putIc (n := 5) hC hin flX6_19 (fun q hq _ => by cases hq; rfl) (show shp 3 = (6, 3) from rfl) (Nat.le_of_ble_eq_true rfl) (by decide) (by decide) rfl (dOk_at dt_X6_init 11 rfl) ?_
  exact j_vretc hC hret (dOk_at dt_X6_init 12 rfl)
def tb_X0_init : List (Nat × Instr × Nat) := [(0, .aload_n 0, 1), (1, .invokespecial 3, 3), (4, .aload_n 0, 1), (5, .new 9, 3), (8, .dup, 1), (9, .bipush 8, 2), (11, .invokespecial 11, 3), (14, .putfield 14, 3), (17, .aload_n 0, 1), (18, .bipush 8, 2), (20, .newarray .int, 2), (22, .putfield 20, 3), (25, .aload_n 0, 1), (26, .bipush 8, 2), (28, .newarray .int, 2), (30, .putfield 24, 3), (33, .aload_n 0, 1), (34, .bipush 8, 2), (36, .newarray .int, 2), (38, .putfield 27, 3), (41, .aload_n 0, 1), (42, .bipush 8, 2), (44, .newarray .int, 2), (46, .putfield 30, 3), (49, .aload_n 0, 1), (50, .iconst 0, 1), (51, .putfield 33, 3), (54, .aload_n 0, 1), (55, .bipush 16, 2), (57, .newarray .int, 2), (59, .putfield 37, 3), (62, .aload_n 0, 1), (63, .bipush 16, 2), (65, .newarray .int, 2), (67, .putfield 40, 3), (70, .aload_n 0, 1), (71, .bipush 8, 2), (73, .newarray .int, 2), (75, .putfield 43, 3), (78, .aload_n 0, 1), (79, .bipush 8, 2), (81, .newarray .int, 2), (83, .putfield 46, 3), (86, .aload_n 0, 1), (87, .bipush (-2), 2), (89, .putfield 49, 3), (92, .aload_n 0, 1), (93, .bipush (-2), 2), (95, .putfield 52, 3), (98, .return_, 1)]
theorem dt_X0_init : dOk cX0_init tb_X0_init = true := by decide +kernel
def fX0_init_2 (h : Hp) : Option Hp := (fX6_init_3 h).bind (fun h_1 => some (uI (uI (uR (uR (uR (uR (uI (uR (uR (uR (uR (uR h_1 2 0 (some 3)) 2 1 (some 5)) 2 2 (some 6)) 2 3 (some 7)) 2 4 (some 8)) 2 5 (0 : Int32)) 2 6 (some 9)) 2 7 (some 10)) 2 8 (some 11)) 2 9 (some 12)) 2 10 (-2 : Int32)) 2 11 (-2 : Int32)))
set_option maxRecDepth 100000 in
set_option maxHeartbeats 8000000 in
theorem c_X0_init_2 {l : Launch} {sb : State} {D : va_G} {ids : Nat → ClassId} (h r : Hp) (hr : fX0_init_2 h = some r) : jMc l yX0_init cX0_init 1 2 sb D ids shp 3 10 91 [.ref 2] h (jQc sb D ids shp 13 r) := by
  refine jMc_of (Qc := fun r => jQc sb D ids shp 13 r) hr rfl rfl (Nat.le_of_ble_eq_true rfl) ?_
  intro p e s m args below meth c hC hret hin hs0
  unfold fX0_init_2
  refine j_aload_n hC 0 rfl rfl (dOk_at dt_X0_init 0 rfl) ?_
  refine j_objInit hC oiX0_3 ⟨Nat.le_of_ble_eq_true rfl, Nat.le_of_ble_eq_true rfl⟩ (Nat.le_of_ble_eq_true rfl) (dOk_at dt_X0_init 1 rfl) ?_
  refine j_aload_n hC 0 rfl rfl (dOk_at dt_X0_init 2 rfl) ?_
  refine j_new (n := 3) hC nwX0_9 rfl (show shp 3 = (6, 3) from rfl) (by decide) (by decide) (by omega) ⟨Nat.le_of_ble_eq_true rfl, Nat.le_of_ble_eq_true rfl⟩ (dOk_at dt_X0_init 3 rfl) ?_
  refine j_dupr hC (dOk_at dt_X0_init 4 rfl) ?_
  refine j_bipush hC (v := (8 : Int32)) rfl (dOk_at dt_X0_init 5 rfl) ?_
  refine j_callC (n := 4) hC ciX0_11 (fun r0 hr0 => c_X6_init_3 _ r0 hr0) rfl ⟨Nat.le_of_ble_eq_true rfl, Nat.le_of_ble_eq_true rfl⟩ ⟨Nat.le_of_ble_eq_true rfl, Nat.le_of_ble_eq_true rfl⟩ (by omega) (As := [.int (8 : Int32)]) (st := [.ref 3, .ref 2]) rfl (Nat.le_of_ble_eq_true rfl) (dOk_at dt_X0_init 6 rfl) (fun h_1 _ => ?_)
  refine j_putRc (n := 5) hC hin flX0_14 (fun q hq _ => by cases hq; rfl) (show shp 2 = (0, 12) from rfl) (Nat.le_of_ble_eq_true rfl) (by decide) (by decide) (Or.inl ⟨_, rfl⟩) (dOk_at dt_X0_init 7 rfl) ?_
  refine j_aload_n hC 0 rfl rfl (dOk_at dt_X0_init 8 rfl) ?_
  refine j_bipush hC (v := (8 : Int32)) rfl (dOk_at dt_X0_init 9 rfl) ?_
  refine j_newaI (atype := .int) (n := 5) (t := 1) (ty := .int) (N := 8) hC aw_int rfl rfl (fun C q => by cases q) (show shp 5 = (20 + 1, 8) from rfl) rfl (by decide) (by decide +kernel) (by decide +kernel) (Nat.le_of_ble_eq_true rfl) (by omega) ⟨Nat.le_of_ble_eq_true rfl, Nat.le_of_ble_eq_true rfl⟩ (dOk_at dt_X0_init 10 rfl) ?_
  refine j_putRc (n := 6) hC hin flX0_20 (fun q hq _ => by cases hq; rfl) (show shp 2 = (0, 12) from rfl) (Nat.le_of_ble_eq_true rfl) (by decide) (by decide) (Or.inr ⟨_, rfl⟩) (dOk_at dt_X0_init 11 rfl) ?_
  refine j_aload_n hC 0 rfl rfl (dOk_at dt_X0_init 12 rfl) ?_
  refine j_bipush hC (v := (8 : Int32)) rfl (dOk_at dt_X0_init 13 rfl) ?_
  refine j_newaI (atype := .int) (n := 6) (t := 1) (ty := .int) (N := 8) hC aw_int rfl rfl (fun C q => by cases q) (show shp 6 = (20 + 1, 8) from rfl) rfl (by decide) (by decide +kernel) (by decide +kernel) (Nat.le_of_ble_eq_true rfl) (by omega) ⟨Nat.le_of_ble_eq_true rfl, Nat.le_of_ble_eq_true rfl⟩ (dOk_at dt_X0_init 14 rfl) ?_
  refine j_putRc (n := 7) hC hin flX0_24 (fun q hq _ => by cases hq; rfl) (show shp 2 = (0, 12) from rfl) (Nat.le_of_ble_eq_true rfl) (by decide) (by decide) (Or.inr ⟨_, rfl⟩) (dOk_at dt_X0_init 15 rfl) ?_
  refine j_aload_n hC 0 rfl rfl (dOk_at dt_X0_init 16 rfl) ?_
  refine j_bipush hC (v := (8 : Int32)) rfl (dOk_at dt_X0_init 17 rfl) ?_
  refine j_newaI (atype := .int) (n := 7) (t := 1) (ty := .int) (N := 8) hC aw_int rfl rfl (fun C q => by cases q) (show shp 7 = (20 + 1, 8) from rfl) rfl (by decide) (by decide +kernel) (by decide +kernel) (Nat.le_of_ble_eq_true rfl) (by omega) ⟨Nat.le_of_ble_eq_true rfl, Nat.le_of_ble_eq_true rfl⟩ (dOk_at dt_X0_init 18 rfl) ?_
  refine j_putRc (n := 8) hC hin flX0_27 (fun q hq _ => by cases hq; rfl) (show shp 2 = (0, 12) from rfl) (Nat.le_of_ble_eq_true rfl) (by decide) (by decide) (Or.inr ⟨_, rfl⟩) (dOk_at dt_X0_init 19 rfl) ?_
  refine j_aload_n hC 0 rfl rfl (dOk_at dt_X0_init 20 rfl) ?_
  refine j_bipush hC (v := (8 : Int32)) rfl (dOk_at dt_X0_init 21 rfl) ?_
  refine j_newaI (atype := .int) (n := 8) (t := 1) (ty := .int) (N := 8) hC aw_int rfl rfl (fun C q => by cases q) (show shp 8 = (20 + 1, 8) from rfl) rfl (by decide) (by decide +kernel) (by decide +kernel) (Nat.le_of_ble_eq_true rfl) (by omega) ⟨Nat.le_of_ble_eq_true rfl, Nat.le_of_ble_eq_true rfl⟩ (dOk_at dt_X0_init 22 rfl) ?_
  refine j_putRc (n := 9) hC hin flX0_30 (fun q hq _ => by cases hq; rfl) (show shp 2 = (0, 12) from rfl) (Nat.le_of_ble_eq_true rfl) (by decide) (by decide) (Or.inr ⟨_, rfl⟩) (dOk_at dt_X0_init 23 rfl) ?_
  refine j_aload_n hC 0 rfl rfl (dOk_at dt_X0_init 24 rfl) ?_
  refine j_iconst hC (v := (0 : Int32)) rfl (dOk_at dt_X0_init 25 rfl) ?_
  refine j_putIc (n := 9) hC hin flX0_33 (fun q hq _ => by cases hq; rfl) (show shp 2 = (0, 12) from rfl) (Nat.le_of_ble_eq_true rfl) (by decide) (by decide) rfl (dOk_at dt_X0_init 26 rfl) ?_
  refine j_aload_n hC 0 rfl rfl (dOk_at dt_X0_init 27 rfl) ?_
  refine j_bipush hC (v := (16 : Int32)) rfl (dOk_at dt_X0_init 28 rfl) ?_
  refine j_newaI (atype := .int) (n := 9) (t := 1) (ty := .int) (N := 16) hC aw_int rfl rfl (fun C q => by cases q) (show shp 9 = (20 + 1, 16) from rfl) rfl (by decide) (by decide +kernel) (by decide +kernel) (Nat.le_of_ble_eq_true rfl) (by omega) ⟨Nat.le_of_ble_eq_true rfl, Nat.le_of_ble_eq_true rfl⟩ (dOk_at dt_X0_init 29 rfl) ?_
  refine j_putRc (n := 10) hC hin flX0_37 (fun q hq _ => by cases hq; rfl) (show shp 2 = (0, 12) from rfl) (Nat.le_of_ble_eq_true rfl) (by decide) (by decide) (Or.inr ⟨_, rfl⟩) (dOk_at dt_X0_init 30 rfl) ?_
  refine j_aload_n hC 0 rfl rfl (dOk_at dt_X0_init 31 rfl) ?_
  refine j_bipush hC (v := (16 : Int32)) rfl (dOk_at dt_X0_init 32 rfl) ?_
  refine j_newaI (atype := .int) (n := 10) (t := 1) (ty := .int) (N := 16) hC aw_int rfl rfl (fun C q => by cases q) (show shp 10 = (20 + 1, 16) from rfl) rfl (by decide) (by decide +kernel) (by decide +kernel) (Nat.le_of_ble_eq_true rfl) (by omega) ⟨Nat.le_of_ble_eq_true rfl, Nat.le_of_ble_eq_true rfl⟩ (dOk_at dt_X0_init 33 rfl) ?_
  refine j_putRc (n := 11) hC hin flX0_40 (fun q hq _ => by cases hq; rfl) (show shp 2 = (0, 12) from rfl) (Nat.le_of_ble_eq_true rfl) (by decide) (by decide) (Or.inr ⟨_, rfl⟩) (dOk_at dt_X0_init 34 rfl) ?_
  refine j_aload_n hC 0 rfl rfl (dOk_at dt_X0_init 35 rfl) ?_
  refine j_bipush hC (v := (8 : Int32)) rfl (dOk_at dt_X0_init 36 rfl) ?_
  refine j_newaI (atype := .int) (n := 11) (t := 1) (ty := .int) (N := 8) hC aw_int rfl rfl (fun C q => by cases q) (show shp 11 = (20 + 1, 8) from rfl) rfl (by decide) (by decide +kernel) (by decide +kernel) (Nat.le_of_ble_eq_true rfl) (by omega) ⟨Nat.le_of_ble_eq_true rfl, Nat.le_of_ble_eq_true rfl⟩ (dOk_at dt_X0_init 37 rfl) ?_
  refine j_putRc (n := 12) hC hin flX0_43 (fun q hq _ => by cases hq; rfl) (show shp 2 = (0, 12) from rfl) (Nat.le_of_ble_eq_true rfl) (by decide) (by decide) (Or.inr ⟨_, rfl⟩) (dOk_at dt_X0_init 38 rfl) ?_
  refine j_aload_n hC 0 rfl rfl (dOk_at dt_X0_init 39 rfl) ?_
  refine j_bipush hC (v := (8 : Int32)) rfl (dOk_at dt_X0_init 40 rfl) ?_
  refine j_newaI (atype := .int) (n := 12) (t := 1) (ty := .int) (N := 8) hC aw_int rfl rfl (fun C q => by cases q) (show shp 12 = (20 + 1, 8) from rfl) rfl (by decide) (by decide +kernel) (by decide +kernel) (Nat.le_of_ble_eq_true rfl) (by omega) ⟨Nat.le_of_ble_eq_true rfl, Nat.le_of_ble_eq_true rfl⟩ (dOk_at dt_X0_init 41 rfl) ?_
  refine j_putRc (n := 13) hC hin flX0_46 (fun q hq _ => by cases hq; rfl) (show shp 2 = (0, 12) from rfl) (Nat.le_of_ble_eq_true rfl) (by decide) (by decide) (Or.inr ⟨_, rfl⟩) (dOk_at dt_X0_init 42 rfl) ?_
  refine j_aload_n hC 0 rfl rfl (dOk_at dt_X0_init 43 rfl) ?_
  refine j_bipush hC (v := (-2 : Int32)) rfl (dOk_at dt_X0_init 44 rfl) ?_
  refine j_putIc (n := 13) hC hin flX0_49 (fun q hq _ => by cases hq; rfl) (show shp 2 = (0, 12) from rfl) (Nat.le_of_ble_eq_true rfl) (by decide) (by decide) rfl (dOk_at dt_X0_init 45 rfl) ?_
  refine j_aload_n hC 0 rfl rfl (dOk_at dt_X0_init 46 rfl) ?_
  refine j_bipush hC (v := (-2 : Int32)) rfl (dOk_at dt_X0_init 47 rfl) ?_
  refine j_putIc (n := 13) hC hin flX0_52 (fun q hq _ => by cases hq; rfl) (show shp 2 = (0, 12) from rfl) (Nat.le_of_ble_eq_true rfl) (by decide) (by decide) rfl (dOk_at dt_X0_init 48 rfl) ?_
  exact j_vretc hC hret (dOk_at dt_X0_init 49 rfl)
def fX6_init_13 (h : Hp) : Option Hp := some (uI (uI (uR h 13 0 (some 14)) 13 1 (5 : Int32)) 13 2 (0 : Int32))
set_option maxRecDepth 100000 in
set_option maxHeartbeats 8000000 in
theorem c_X6_init_13 {l : Launch} {sb : State} {D : va_G} {ids : Nat → ClassId} (h r : Hp) (hr : fX6_init_13 h = some r) : jMc l yX6_init cX6_init 2 1 sb D ids shp 14 1 8 [.ref 13, .int (5 : Int32)] h (jQc sb D ids shp 15 r) := by
  refine jMc_of (Qc := fun r => jQc sb D ids shp 15 r) hr rfl rfl (Nat.le_of_ble_eq_true rfl) ?_
  intro p e s m args below meth c hC hret hin hs0
  unfold fX6_init_13
  refine j_aload_n hC 0 rfl rfl (dOk_at dt_X6_init 0 rfl) ?_
  refine j_objInit hC oiX6_3 ⟨Nat.le_of_ble_eq_true rfl, Nat.le_of_ble_eq_true rfl⟩ (Nat.le_of_ble_eq_true rfl) (dOk_at dt_X6_init 1 rfl) ?_
  refine j_aload_n hC 0 rfl rfl (dOk_at dt_X6_init 2 rfl) ?_
  refine j_bipush hC (v := (8 : Int32)) rfl (dOk_at dt_X6_init 3 rfl) ?_
  refine j_newaI (atype := .int) (n := 14) (t := 1) (ty := .int) (N := 8) hC aw_int rfl rfl (fun C q => by cases q) (show shp 14 = (20 + 1, 8) from rfl) rfl (by decide) (by decide +kernel) (by decide +kernel) (Nat.le_of_ble_eq_true rfl) (by omega) ⟨Nat.le_of_ble_eq_true rfl, Nat.le_of_ble_eq_true rfl⟩ (dOk_at dt_X6_init 4 rfl) ?_
  refine j_putRc (n := 15) hC hin flX6_9 (fun q hq _ => by cases hq; rfl) (show shp 13 = (6, 3) from rfl) (Nat.le_of_ble_eq_true rfl) (by decide) (by decide) (Or.inr ⟨_, rfl⟩) (dOk_at dt_X6_init 5 rfl) ?_
  refine j_aload_n hC 0 rfl rfl (dOk_at dt_X6_init 6 rfl) ?_
  refine j_iload_n hC 1 rfl rfl (dOk_at dt_X6_init 7 rfl) ?_
  refine j_putIc (n := 15) hC hin flX6_15 (fun q hq _ => by cases hq; rfl) (show shp 13 = (6, 3) from rfl) (Nat.le_of_ble_eq_true rfl) (by decide) (by decide) rfl (dOk_at dt_X6_init 8 rfl) ?_
  refine j_aload_n hC 0 rfl rfl (dOk_at dt_X6_init 9 rfl) ?_
  refine j_iconst hC (v := (0 : Int32)) rfl (dOk_at dt_X6_init 10 rfl) ?_
  refine j_putIc (n := 15) hC hin flX6_19 (fun q hq _ => by cases hq; rfl) (show shp 13 = (6, 3) from rfl) (Nat.le_of_ble_eq_true rfl) (by decide) (by decide) rfl (dOk_at dt_X6_init 11 rfl) ?_
  exact j_vretc hC hret (dOk_at dt_X6_init 12 rfl)
def fX6_init_17 (h : Hp) : Option Hp := some (uI (uI (uR h 17 0 (some 18)) 17 1 (5 : Int32)) 17 2 (0 : Int32))
set_option maxRecDepth 100000 in
set_option maxHeartbeats 8000000 in
theorem c_X6_init_17 {l : Launch} {sb : State} {D : va_G} {ids : Nat → ClassId} (h r : Hp) (hr : fX6_init_17 h = some r) : jMc l yX6_init cX6_init 2 1 sb D ids shp 18 1 8 [.ref 17, .int (5 : Int32)] h (jQc sb D ids shp 19 r) := by
  refine jMc_of (Qc := fun r => jQc sb D ids shp 19 r) hr rfl rfl (Nat.le_of_ble_eq_true rfl) ?_
  intro p e s m args below meth c hC hret hin hs0
  unfold fX6_init_17
  refine j_aload_n hC 0 rfl rfl (dOk_at dt_X6_init 0 rfl) ?_
  refine j_objInit hC oiX6_3 ⟨Nat.le_of_ble_eq_true rfl, Nat.le_of_ble_eq_true rfl⟩ (Nat.le_of_ble_eq_true rfl) (dOk_at dt_X6_init 1 rfl) ?_
  refine j_aload_n hC 0 rfl rfl (dOk_at dt_X6_init 2 rfl) ?_
  refine j_bipush hC (v := (8 : Int32)) rfl (dOk_at dt_X6_init 3 rfl) ?_
  refine j_newaI (atype := .int) (n := 18) (t := 1) (ty := .int) (N := 8) hC aw_int rfl rfl (fun C q => by cases q) (show shp 18 = (20 + 1, 8) from rfl) rfl (by decide) (by decide +kernel) (by decide +kernel) (Nat.le_of_ble_eq_true rfl) (by omega) ⟨Nat.le_of_ble_eq_true rfl, Nat.le_of_ble_eq_true rfl⟩ (dOk_at dt_X6_init 4 rfl) ?_
  refine j_putRc (n := 19) hC hin flX6_9 (fun q hq _ => by cases hq; rfl) (show shp 17 = (6, 3) from rfl) (Nat.le_of_ble_eq_true rfl) (by decide) (by decide) (Or.inr ⟨_, rfl⟩) (dOk_at dt_X6_init 5 rfl) ?_
  refine j_aload_n hC 0 rfl rfl (dOk_at dt_X6_init 6 rfl) ?_
  refine j_iload_n hC 1 rfl rfl (dOk_at dt_X6_init 7 rfl) ?_
  refine j_putIc (n := 19) hC hin flX6_15 (fun q hq _ => by cases hq; rfl) (show shp 17 = (6, 3) from rfl) (Nat.le_of_ble_eq_true rfl) (by decide) (by decide) rfl (dOk_at dt_X6_init 8 rfl) ?_
  refine j_aload_n hC 0 rfl rfl (dOk_at dt_X6_init 9 rfl) ?_
  refine j_iconst hC (v := (0 : Int32)) rfl (dOk_at dt_X6_init 10 rfl) ?_
  refine j_putIc (n := 19) hC hin flX6_19 (fun q hq _ => by cases hq; rfl) (show shp 17 = (6, 3) from rfl) (Nat.le_of_ble_eq_true rfl) (by decide) (by decide) rfl (dOk_at dt_X6_init 11 rfl) ?_
  exact j_vretc hC hret (dOk_at dt_X6_init 12 rfl)
def tb_X1_init : List (Nat × Instr × Nat) := [(0, .aload_n 0, 1), (1, .invokespecial 3, 3), (4, .aload_n 0, 1), (5, .iconst 0, 1), (6, .putfield 9, 3), (9, .aload_n 0, 1), (10, .iconst 0, 1), (11, .putfield 15, 3), (14, .aload_n 0, 1), (15, .bipush 64, 2), (17, .newarray .int, 2), (19, .putfield 19, 3), (22, .aload_n 0, 1), (23, .bipush 64, 2), (25, .newarray .long, 2), (27, .putfield 23, 3), (30, .return_, 1)]
theorem dt_X1_init : dOk cX1_init tb_X1_init = true := by decide +kernel
def fX1_init_26 (h : Hp) : Option Hp := some (uR (uR (uI (uI h 26 0 (0 : Int32)) 26 1 (0 : Int32)) 26 2 (some 27)) 26 3 (some 28))
set_option maxRecDepth 100000 in
set_option maxHeartbeats 8000000 in
theorem c_X1_init_26 {l : Launch} {sb : State} {D : va_G} {ids : Nat → ClassId} (h r : Hp) (hr : fX1_init_26 h = some r) : jMc l yX1_init cX1_init 1 1 sb D ids shp 27 2 128 [.ref 26] h (jQc sb D ids shp 29 r) := by
  refine jMc_of (Qc := fun r => jQc sb D ids shp 29 r) hr rfl rfl (Nat.le_of_ble_eq_true rfl) ?_
  intro p e s m args below meth c hC hret hin hs0
  unfold fX1_init_26
  refine j_aload_n hC 0 rfl rfl (dOk_at dt_X1_init 0 rfl) ?_
  refine j_objInit hC oiX1_3 ⟨Nat.le_of_ble_eq_true rfl, Nat.le_of_ble_eq_true rfl⟩ (Nat.le_of_ble_eq_true rfl) (dOk_at dt_X1_init 1 rfl) ?_
  refine j_aload_n hC 0 rfl rfl (dOk_at dt_X1_init 2 rfl) ?_
  refine j_iconst hC (v := (0 : Int32)) rfl (dOk_at dt_X1_init 3 rfl) ?_
  refine j_putZc (n := 27) hC hin flX1_9 (fun q hq _ => by cases hq; rfl) (show shp 26 = (1, 4) from rfl) (Nat.le_of_ble_eq_true rfl) (by decide) (by decide) rfl rfl (dOk_at dt_X1_init 4 rfl) ?_
  refine j_aload_n hC 0 rfl rfl (dOk_at dt_X1_init 5 rfl) ?_
  refine j_iconst hC (v := (0 : Int32)) rfl (dOk_at dt_X1_init 6 rfl) ?_
  refine j_putIc (n := 27) hC hin flX1_15 (fun q hq _ => by cases hq; rfl) (show shp 26 = (1, 4) from rfl) (Nat.le_of_ble_eq_true rfl) (by decide) (by decide) rfl (dOk_at dt_X1_init 7 rfl) ?_
  refine j_aload_n hC 0 rfl rfl (dOk_at dt_X1_init 8 rfl) ?_
  refine j_bipush hC (v := (64 : Int32)) rfl (dOk_at dt_X1_init 9 rfl) ?_
  refine j_newaI (atype := .int) (n := 27) (t := 1) (ty := .int) (N := 64) hC aw_int rfl rfl (fun C q => by cases q) (show shp 27 = (20 + 1, 64) from rfl) rfl (by decide) (by decide +kernel) (by decide +kernel) (Nat.le_of_ble_eq_true rfl) (by omega) ⟨Nat.le_of_ble_eq_true rfl, Nat.le_of_ble_eq_true rfl⟩ (dOk_at dt_X1_init 10 rfl) ?_
  refine j_putRc (n := 28) hC hin flX1_19 (fun q hq _ => by cases hq; rfl) (show shp 26 = (1, 4) from rfl) (Nat.le_of_ble_eq_true rfl) (by decide) (by decide) (Or.inr ⟨_, rfl⟩) (dOk_at dt_X1_init 11 rfl) ?_
  refine j_aload_n hC 0 rfl rfl (dOk_at dt_X1_init 12 rfl) ?_
  refine j_bipush hC (v := (64 : Int32)) rfl (dOk_at dt_X1_init 13 rfl) ?_
  refine j_newaJ (n := 28) (N := 64) hC aw_long (show shp 28 = (22, 64) from rfl) (by decide +kernel) (by decide +kernel) (Nat.le_of_ble_eq_true rfl) (by omega) ⟨Nat.le_of_ble_eq_true rfl, Nat.le_of_ble_eq_true rfl⟩ (dOk_at dt_X1_init 14 rfl) ?_
  refine j_putRc (n := 29) hC hin flX1_23 (fun q hq _ => by cases hq; rfl) (show shp 26 = (1, 4) from rfl) (Nat.le_of_ble_eq_true rfl) (by decide) (by decide) (Or.inr ⟨_, rfl⟩) (dOk_at dt_X1_init 15 rfl) ?_
  exact j_vretc hC hret (dOk_at dt_X1_init 16 rfl)
def fX1_init_29 (h : Hp) : Option Hp := some (uR (uR (uI (uI h 29 0 (0 : Int32)) 29 1 (0 : Int32)) 29 2 (some 30)) 29 3 (some 31))
set_option maxRecDepth 100000 in
set_option maxHeartbeats 8000000 in
theorem c_X1_init_29 {l : Launch} {sb : State} {D : va_G} {ids : Nat → ClassId} (h r : Hp) (hr : fX1_init_29 h = some r) : jMc l yX1_init cX1_init 1 1 sb D ids shp 30 2 128 [.ref 29] h (jQc sb D ids shp 32 r) := by
  refine jMc_of (Qc := fun r => jQc sb D ids shp 32 r) hr rfl rfl (Nat.le_of_ble_eq_true rfl) ?_
  intro p e s m args below meth c hC hret hin hs0
  unfold fX1_init_29
  refine j_aload_n hC 0 rfl rfl (dOk_at dt_X1_init 0 rfl) ?_
  refine j_objInit hC oiX1_3 ⟨Nat.le_of_ble_eq_true rfl, Nat.le_of_ble_eq_true rfl⟩ (Nat.le_of_ble_eq_true rfl) (dOk_at dt_X1_init 1 rfl) ?_
  refine j_aload_n hC 0 rfl rfl (dOk_at dt_X1_init 2 rfl) ?_
  refine j_iconst hC (v := (0 : Int32)) rfl (dOk_at dt_X1_init 3 rfl) ?_
  refine j_putZc (n := 30) hC hin flX1_9 (fun q hq _ => by cases hq; rfl) (show shp 29 = (1, 4) from rfl) (Nat.le_of_ble_eq_true rfl) (by decide) (by decide) rfl rfl (dOk_at dt_X1_init 4 rfl) ?_
  refine j_aload_n hC 0 rfl rfl (dOk_at dt_X1_init 5 rfl) ?_
  refine j_iconst hC (v := (0 : Int32)) rfl (dOk_at dt_X1_init 6 rfl) ?_
  refine j_putIc (n := 30) hC hin flX1_15 (fun q hq _ => by cases hq; rfl) (show shp 29 = (1, 4) from rfl) (Nat.le_of_ble_eq_true rfl) (by decide) (by decide) rfl (dOk_at dt_X1_init 7 rfl) ?_
  refine j_aload_n hC 0 rfl rfl (dOk_at dt_X1_init 8 rfl) ?_
  refine j_bipush hC (v := (64 : Int32)) rfl (dOk_at dt_X1_init 9 rfl) ?_
  refine j_newaI (atype := .int) (n := 30) (t := 1) (ty := .int) (N := 64) hC aw_int rfl rfl (fun C q => by cases q) (show shp 30 = (20 + 1, 64) from rfl) rfl (by decide) (by decide +kernel) (by decide +kernel) (Nat.le_of_ble_eq_true rfl) (by omega) ⟨Nat.le_of_ble_eq_true rfl, Nat.le_of_ble_eq_true rfl⟩ (dOk_at dt_X1_init 10 rfl) ?_
  refine j_putRc (n := 31) hC hin flX1_19 (fun q hq _ => by cases hq; rfl) (show shp 29 = (1, 4) from rfl) (Nat.le_of_ble_eq_true rfl) (by decide) (by decide) (Or.inr ⟨_, rfl⟩) (dOk_at dt_X1_init 11 rfl) ?_
  refine j_aload_n hC 0 rfl rfl (dOk_at dt_X1_init 12 rfl) ?_
  refine j_bipush hC (v := (64 : Int32)) rfl (dOk_at dt_X1_init 13 rfl) ?_
  refine j_newaJ (n := 31) (N := 64) hC aw_long (show shp 31 = (22, 64) from rfl) (by decide +kernel) (by decide +kernel) (Nat.le_of_ble_eq_true rfl) (by omega) ⟨Nat.le_of_ble_eq_true rfl, Nat.le_of_ble_eq_true rfl⟩ (dOk_at dt_X1_init 14 rfl) ?_
  refine j_putRc (n := 32) hC hin flX1_23 (fun q hq _ => by cases hq; rfl) (show shp 29 = (1, 4) from rfl) (Nat.le_of_ble_eq_true rfl) (by decide) (by decide) (Or.inr ⟨_, rfl⟩) (dOk_at dt_X1_init 15 rfl) ?_
  exact j_vretc hC hret (dOk_at dt_X1_init 16 rfl)
def fX1_init_32 (h : Hp) : Option Hp := some (uR (uR (uI (uI h 32 0 (0 : Int32)) 32 1 (0 : Int32)) 32 2 (some 33)) 32 3 (some 34))
set_option maxRecDepth 100000 in
set_option maxHeartbeats 8000000 in
theorem c_X1_init_32 {l : Launch} {sb : State} {D : va_G} {ids : Nat → ClassId} (h r : Hp) (hr : fX1_init_32 h = some r) : jMc l yX1_init cX1_init 1 1 sb D ids shp 33 2 128 [.ref 32] h (jQc sb D ids shp 35 r) := by
  refine jMc_of (Qc := fun r => jQc sb D ids shp 35 r) hr rfl rfl (Nat.le_of_ble_eq_true rfl) ?_
  intro p e s m args below meth c hC hret hin hs0
  unfold fX1_init_32
  refine j_aload_n hC 0 rfl rfl (dOk_at dt_X1_init 0 rfl) ?_
  refine j_objInit hC oiX1_3 ⟨Nat.le_of_ble_eq_true rfl, Nat.le_of_ble_eq_true rfl⟩ (Nat.le_of_ble_eq_true rfl) (dOk_at dt_X1_init 1 rfl) ?_
  refine j_aload_n hC 0 rfl rfl (dOk_at dt_X1_init 2 rfl) ?_
  refine j_iconst hC (v := (0 : Int32)) rfl (dOk_at dt_X1_init 3 rfl) ?_
  refine j_putZc (n := 33) hC hin flX1_9 (fun q hq _ => by cases hq; rfl) (show shp 32 = (1, 4) from rfl) (Nat.le_of_ble_eq_true rfl) (by decide) (by decide) rfl rfl (dOk_at dt_X1_init 4 rfl) ?_
  refine j_aload_n hC 0 rfl rfl (dOk_at dt_X1_init 5 rfl) ?_
  refine j_iconst hC (v := (0 : Int32)) rfl (dOk_at dt_X1_init 6 rfl) ?_
  refine j_putIc (n := 33) hC hin flX1_15 (fun q hq _ => by cases hq; rfl) (show shp 32 = (1, 4) from rfl) (Nat.le_of_ble_eq_true rfl) (by decide) (by decide) rfl (dOk_at dt_X1_init 7 rfl) ?_
  refine j_aload_n hC 0 rfl rfl (dOk_at dt_X1_init 8 rfl) ?_
  refine j_bipush hC (v := (64 : Int32)) rfl (dOk_at dt_X1_init 9 rfl) ?_
  refine j_newaI (atype := .int) (n := 33) (t := 1) (ty := .int) (N := 64) hC aw_int rfl rfl (fun C q => by cases q) (show shp 33 = (20 + 1, 64) from rfl) rfl (by decide) (by decide +kernel) (by decide +kernel) (Nat.le_of_ble_eq_true rfl) (by omega) ⟨Nat.le_of_ble_eq_true rfl, Nat.le_of_ble_eq_true rfl⟩ (dOk_at dt_X1_init 10 rfl) ?_
  refine j_putRc (n := 34) hC hin flX1_19 (fun q hq _ => by cases hq; rfl) (show shp 32 = (1, 4) from rfl) (Nat.le_of_ble_eq_true rfl) (by decide) (by decide) (Or.inr ⟨_, rfl⟩) (dOk_at dt_X1_init 11 rfl) ?_
  refine j_aload_n hC 0 rfl rfl (dOk_at dt_X1_init 12 rfl) ?_
  refine j_bipush hC (v := (64 : Int32)) rfl (dOk_at dt_X1_init 13 rfl) ?_
  refine j_newaJ (n := 34) (N := 64) hC aw_long (show shp 34 = (22, 64) from rfl) (by decide +kernel) (by decide +kernel) (Nat.le_of_ble_eq_true rfl) (by omega) ⟨Nat.le_of_ble_eq_true rfl, Nat.le_of_ble_eq_true rfl⟩ (dOk_at dt_X1_init 14 rfl) ?_
  refine j_putRc (n := 35) hC hin flX1_23 (fun q hq _ => by cases hq; rfl) (show shp 32 = (1, 4) from rfl) (Nat.le_of_ble_eq_true rfl) (by decide) (by decide) (Or.inr ⟨_, rfl⟩) (dOk_at dt_X1_init 15 rfl) ?_
  exact j_vretc hC hret (dOk_at dt_X1_init 16 rfl)
def tb_X7_init : List (Nat × Instr × Nat) := [(0, .aload_n 0, 1), (1, .invokespecial 3, 3), (4, .aload_n 0, 1), (5, .new 9, 3), (8, .dup, 1), (9, .invokespecial 11, 3), (12, .putfield 12, 3), (15, .aload_n 0, 1), (16, .new 18, 3), (19, .dup, 1), (20, .iconst 5, 1), (21, .invokespecial 20, 3), (24, .putfield 23, 3), (27, .aload_n 0, 1), (28, .iconst 5, 1), (29, .newarray .int, 2), (31, .putfield 27, 3), (34, .aload_n 0, 1), (35, .iconst 5, 1), (36, .newarray .int, 2), (38, .putfield 31, 3), (41, .aload_n 0, 1), (42, .new 18, 3), (45, .dup, 1), (46, .iconst 5, 1), (47, .invokespecial 20, 3), (50, .putfield 34, 3), (53, .aload_n 0, 1), (54, .iconst 5, 1), (55, .newarray .int, 2), (57, .putfield 37, 3), (60, .aload_n 0, 1), (61, .iconst 0, 1), (62, .putfield 40, 3), (65, .aload_n 0, 1), (66, .bipush 12, 2), (68, .newarray .int, 2), (70, .putfield 44, 3), (73, .aload_n 0, 1), (74, .bipush 12, 2), (76, .newarray .int, 2), (78, .putfield 47, 3), (81, .aload_n 0, 1), (82, .bipush 12, 2), (84, .newarray .int, 2), (86, .putfield 50, 3), (89, .aload_n 0, 1), (90, .iconst 0, 1), (91, .putfield 53, 3), (94, .aload_n 0, 1), (95, .bipush 6, 2), (97, .newarray .int, 2), (99, .putfield 56, 3), (102, .aload_n 0, 1), (103, .bipush 6, 2), (105, .newarray .int, 2), (107, .putfield 59, 3), (110, .aload_n 0, 1), (111, .iconst 0, 1), (112, .putfield 62, 3), (115, .aload_n 0, 1), (116, .iconst 0, 1), (117, .putfield 65, 3), (120, .aload_n 0, 1), (121, .iconst 0, 1), (122, .putfield 69, 3), (125, .aload_n 0, 1), (126, .iconst 0, 1), (127, .putfield 72, 3), (130, .aload_n 0, 1), (131, .iconst 3, 1), (132, .anewarray 75, 3), (135, .putfield 77, 3), (138, .iconst 0, 1), (139, .istore_n 1, 1), (140, .iload_n 1, 1), (141, .iconst 3, 1), (142, .if_icmp .ge 22, 3), (145, .aload_n 0, 1), (146, .getfield 77, 3), (149, .iload_n 1, 1), (150, .new 75, 3), (153, .dup, 1), (154, .invokespecial 81, 3), (157, .aastore, 1), (158, .iinc 1 1, 3), (161, .goto (-21), 3), (164, .aload_n 0, 1), (165, .iconst 0, 1), (166, .putfield 82, 3), (169, .aload_n 0, 1), (170, .iconst 0, 1), (171, .putfield 85, 3), (174, .return_, 1)]
theorem dt_X7_init : dOk cX7_init tb_X7_init = true := by decide +kernel
def fX7_init_1 (h : Hp) : Option Hp := (fX0_init_2 h).bind (fun h_1 => (fX6_init_13 (uR h_1 1 0 (some 2))).bind (fun h_2 => (fX6_init_17 (uR (uR (uR h_2 1 1 (some 13)) 1 2 (some 15)) 1 3 (some 16))).bind (fun h_3 => if hR (uR (uI (uI (uI (uI (uR (uR (uI (uR (uR (uR (uI (uR (uR h_3 1 4 (some 17)) 1 5 (some 19)) 1 6 (0 : Int32)) 1 7 (some 20)) 1 8 (some 21)) 1 9 (some 22)) 1 10 (0 : Int32)) 1 11 (some 23)) 1 12 (some 24)) 1 13 (0 : Int32)) 1 14 (0 : Int32)) 1 15 (0 : Int32)) 1 16 (0 : Int32)) 1 17 (some 25)) 1 17 = some 25 then ((fX1_init_26 (uR (uI (uI (uI (uI (uR (uR (uI (uR (uR (uR (uI (uR (uR h_3 1 4 (some 17)) 1 5 (some 19)) 1 6 (0 : Int32)) 1 7 (some 20)) 1 8 (some 21)) 1 9 (some 22)) 1 10 (0 : Int32)) 1 11 (some 23)) 1 12 (some 24)) 1 13 (0 : Int32)) 1 14 (0 : Int32)) 1 15 (0 : Int32)) 1 16 (0 : Int32)) 1 17 (some 25))).bind (fun h_4 => if hR (uR h_4 25 (Int32.toNatClampNeg (0 : Int32)) (some 26)) 1 17 = some 25 then ((fX1_init_29 (uR h_4 25 (Int32.toNatClampNeg (0 : Int32)) (some 26))).bind (fun h_5 => if hR (uR h_5 25 (Int32.toNatClampNeg (1 : Int32)) (some 29)) 1 17 = some 25 then ((fX1_init_32 (uR h_5 25 (Int32.toNatClampNeg (1 : Int32)) (some 29))).bind (fun h_6 => some (uI (uI (uR h_6 25 (Int32.toNatClampNeg (2 : Int32)) (some 32)) 1 18 (0 : Int32)) 1 19 (0 : Int32)))) else none)) else none)) else none)))
set_option maxRecDepth 100000 in
set_option maxHeartbeats 8000000 in
theorem c_X7_init_1 {l : Launch} {sb : State} {D : va_G} {ids : Nat → ClassId} (hAO : va_AO "StrawMen$Law" sb) (h r : Hp) (hr : fX7_init_1 h = some r) : jMc l yX7_init cX7_init 2 3 sb D ids shp 2 33 587 [.ref 1] h (jQc sb D ids shp 35 r) := by
  refine jMc_of (Qc := fun r => jQc sb D ids shp 35 r) hr rfl rfl (Nat.le_of_ble_eq_true rfl) ?_
  intro p e s m args below meth c hC hret hin hs0
  unfold fX7_init_1
  refine j_aload_n hC 0 rfl rfl (dOk_at dt_X7_init 0 rfl) ?_
  refine j_objInit hC oiX7_3 ⟨Nat.le_of_ble_eq_true rfl, Nat.le_of_ble_eq_true rfl⟩ (Nat.le_of_ble_eq_true rfl) (dOk_at dt_X7_init 1 rfl) ?_
  refine j_aload_n hC 0 rfl rfl (dOk_at dt_X7_init 2 rfl) ?_
  refine j_new (n := 2) hC nwX7_9 rfl (show shp 2 = (0, 12) from rfl) (by decide) (by decide) (by omega) ⟨Nat.le_of_ble_eq_true rfl, Nat.le_of_ble_eq_true rfl⟩ (dOk_at dt_X7_init 3 rfl) ?_
  refine j_dupr hC (dOk_at dt_X7_init 4 rfl) ?_
  refine j_callC (n := 3) hC ciX7_11 (fun r0 hr0 => c_X0_init_2 _ r0 hr0) rfl ⟨Nat.le_of_ble_eq_true rfl, Nat.le_of_ble_eq_true rfl⟩ ⟨Nat.le_of_ble_eq_true rfl, Nat.le_of_ble_eq_true rfl⟩ (by omega) (As := []) (st := [.ref 2, .ref 1]) rfl (Nat.le_of_ble_eq_true rfl) (dOk_at dt_X7_init 5 rfl) (fun h_1 _ => ?_)
  refine j_putRc (n := 13) hC hin flX7_12 (fun q hq _ => by cases hq; rfl) (show shp 1 = (7, 20) from rfl) (Nat.le_of_ble_eq_true rfl) (by decide) (by decide) (Or.inl ⟨_, rfl⟩) (dOk_at dt_X7_init 6 rfl) ?_
  refine j_aload_n hC 0 rfl rfl (dOk_at dt_X7_init 7 rfl) ?_
  refine j_new (n := 13) hC nwX7_18 rfl (show shp 13 = (6, 3) from rfl) (by decide) (by decide) (by omega) ⟨Nat.le_of_ble_eq_true rfl, Nat.le_of_ble_eq_true rfl⟩ (dOk_at dt_X7_init 8 rfl) ?_
  refine j_dupr hC (dOk_at dt_X7_init 9 rfl) ?_
  refine j_iconst hC (v := (5 : Int32)) rfl (dOk_at dt_X7_init 10 rfl) ?_
  refine j_callC (n := 14) hC ciX7_20 (fun r0 hr0 => c_X6_init_13 _ r0 hr0) rfl ⟨Nat.le_of_ble_eq_true rfl, Nat.le_of_ble_eq_true rfl⟩ ⟨Nat.le_of_ble_eq_true rfl, Nat.le_of_ble_eq_true rfl⟩ (by omega) (As := [.int (5 : Int32)]) (st := [.ref 13, .ref 1]) rfl (Nat.le_of_ble_eq_true rfl) (dOk_at dt_X7_init 11 rfl) (fun h_2 _ => ?_)
  refine j_putRc (n := 15) hC hin flX7_23 (fun q hq _ => by cases hq; rfl) (show shp 1 = (7, 20) from rfl) (Nat.le_of_ble_eq_true rfl) (by decide) (by decide) (Or.inl ⟨_, rfl⟩) (dOk_at dt_X7_init 12 rfl) ?_
  refine j_aload_n hC 0 rfl rfl (dOk_at dt_X7_init 13 rfl) ?_
  refine j_iconst hC (v := (5 : Int32)) rfl (dOk_at dt_X7_init 14 rfl) ?_
  refine j_newaI (atype := .int) (n := 15) (t := 1) (ty := .int) (N := 5) hC aw_int rfl rfl (fun C q => by cases q) (show shp 15 = (20 + 1, 5) from rfl) rfl (by decide) (by decide +kernel) (by decide +kernel) (Nat.le_of_ble_eq_true rfl) (by omega) ⟨Nat.le_of_ble_eq_true rfl, Nat.le_of_ble_eq_true rfl⟩ (dOk_at dt_X7_init 15 rfl) ?_
  refine j_putRc (n := 16) hC hin flX7_27 (fun q hq _ => by cases hq; rfl) (show shp 1 = (7, 20) from rfl) (Nat.le_of_ble_eq_true rfl) (by decide) (by decide) (Or.inr ⟨_, rfl⟩) (dOk_at dt_X7_init 16 rfl) ?_
  refine j_aload_n hC 0 rfl rfl (dOk_at dt_X7_init 17 rfl) ?_
  refine j_iconst hC (v := (5 : Int32)) rfl (dOk_at dt_X7_init 18 rfl) ?_
  refine j_newaI (atype := .int) (n := 16) (t := 1) (ty := .int) (N := 5) hC aw_int rfl rfl (fun C q => by cases q) (show shp 16 = (20 + 1, 5) from rfl) rfl (by decide) (by decide +kernel) (by decide +kernel) (Nat.le_of_ble_eq_true rfl) (by omega) ⟨Nat.le_of_ble_eq_true rfl, Nat.le_of_ble_eq_true rfl⟩ (dOk_at dt_X7_init 19 rfl) ?_
  refine j_putRc (n := 17) hC hin flX7_31 (fun q hq _ => by cases hq; rfl) (show shp 1 = (7, 20) from rfl) (Nat.le_of_ble_eq_true rfl) (by decide) (by decide) (Or.inr ⟨_, rfl⟩) (dOk_at dt_X7_init 20 rfl) ?_
  refine j_aload_n hC 0 rfl rfl (dOk_at dt_X7_init 21 rfl) ?_
  refine j_new (n := 17) hC nwX7_18 rfl (show shp 17 = (6, 3) from rfl) (by decide) (by decide) (by omega) ⟨Nat.le_of_ble_eq_true rfl, Nat.le_of_ble_eq_true rfl⟩ (dOk_at dt_X7_init 22 rfl) ?_
  refine j_dupr hC (dOk_at dt_X7_init 23 rfl) ?_
  refine j_iconst hC (v := (5 : Int32)) rfl (dOk_at dt_X7_init 24 rfl) ?_
  refine j_callC (n := 18) hC ciX7_20 (fun r0 hr0 => c_X6_init_17 _ r0 hr0) rfl ⟨Nat.le_of_ble_eq_true rfl, Nat.le_of_ble_eq_true rfl⟩ ⟨Nat.le_of_ble_eq_true rfl, Nat.le_of_ble_eq_true rfl⟩ (by omega) (As := [.int (5 : Int32)]) (st := [.ref 17, .ref 1]) rfl (Nat.le_of_ble_eq_true rfl) (dOk_at dt_X7_init 25 rfl) (fun h_3 _ => ?_)
  refine j_putRc (n := 19) hC hin flX7_34 (fun q hq _ => by cases hq; rfl) (show shp 1 = (7, 20) from rfl) (Nat.le_of_ble_eq_true rfl) (by decide) (by decide) (Or.inl ⟨_, rfl⟩) (dOk_at dt_X7_init 26 rfl) ?_
  refine j_aload_n hC 0 rfl rfl (dOk_at dt_X7_init 27 rfl) ?_
  refine j_iconst hC (v := (5 : Int32)) rfl (dOk_at dt_X7_init 28 rfl) ?_
  refine j_newaI (atype := .int) (n := 19) (t := 1) (ty := .int) (N := 5) hC aw_int rfl rfl (fun C q => by cases q) (show shp 19 = (20 + 1, 5) from rfl) rfl (by decide) (by decide +kernel) (by decide +kernel) (Nat.le_of_ble_eq_true rfl) (by omega) ⟨Nat.le_of_ble_eq_true rfl, Nat.le_of_ble_eq_true rfl⟩ (dOk_at dt_X7_init 29 rfl) ?_
  refine j_putRc (n := 20) hC hin flX7_37 (fun q hq _ => by cases hq; rfl) (show shp 1 = (7, 20) from rfl) (Nat.le_of_ble_eq_true rfl) (by decide) (by decide) (Or.inr ⟨_, rfl⟩) (dOk_at dt_X7_init 30 rfl) ?_
  refine j_aload_n hC 0 rfl rfl (dOk_at dt_X7_init 31 rfl) ?_
  refine j_iconst hC (v := (0 : Int32)) rfl (dOk_at dt_X7_init 32 rfl) ?_
  refine j_putIc (n := 20) hC hin flX7_40 (fun q hq _ => by cases hq; rfl) (show shp 1 = (7, 20) from rfl) (Nat.le_of_ble_eq_true rfl) (by decide) (by decide) rfl (dOk_at dt_X7_init 33 rfl) ?_
  refine j_aload_n hC 0 rfl rfl (dOk_at dt_X7_init 34 rfl) ?_
  refine j_bipush hC (v := (12 : Int32)) rfl (dOk_at dt_X7_init 35 rfl) ?_
  refine j_newaI (atype := .int) (n := 20) (t := 1) (ty := .int) (N := 12) hC aw_int rfl rfl (fun C q => by cases q) (show shp 20 = (20 + 1, 12) from rfl) rfl (by decide) (by decide +kernel) (by decide +kernel) (Nat.le_of_ble_eq_true rfl) (by omega) ⟨Nat.le_of_ble_eq_true rfl, Nat.le_of_ble_eq_true rfl⟩ (dOk_at dt_X7_init 36 rfl) ?_
  refine j_putRc (n := 21) hC hin flX7_44 (fun q hq _ => by cases hq; rfl) (show shp 1 = (7, 20) from rfl) (Nat.le_of_ble_eq_true rfl) (by decide) (by decide) (Or.inr ⟨_, rfl⟩) (dOk_at dt_X7_init 37 rfl) ?_
  refine j_aload_n hC 0 rfl rfl (dOk_at dt_X7_init 38 rfl) ?_
  refine j_bipush hC (v := (12 : Int32)) rfl (dOk_at dt_X7_init 39 rfl) ?_
  refine j_newaI (atype := .int) (n := 21) (t := 1) (ty := .int) (N := 12) hC aw_int rfl rfl (fun C q => by cases q) (show shp 21 = (20 + 1, 12) from rfl) rfl (by decide) (by decide +kernel) (by decide +kernel) (Nat.le_of_ble_eq_true rfl) (by omega) ⟨Nat.le_of_ble_eq_true rfl, Nat.le_of_ble_eq_true rfl⟩ (dOk_at dt_X7_init 40 rfl) ?_
  refine j_putRc (n := 22) hC hin flX7_47 (fun q hq _ => by cases hq; rfl) (show shp 1 = (7, 20) from rfl) (Nat.le_of_ble_eq_true rfl) (by decide) (by decide) (Or.inr ⟨_, rfl⟩) (dOk_at dt_X7_init 41 rfl) ?_
  refine j_aload_n hC 0 rfl rfl (dOk_at dt_X7_init 42 rfl) ?_
  refine j_bipush hC (v := (12 : Int32)) rfl (dOk_at dt_X7_init 43 rfl) ?_
  refine j_newaI (atype := .int) (n := 22) (t := 1) (ty := .int) (N := 12) hC aw_int rfl rfl (fun C q => by cases q) (show shp 22 = (20 + 1, 12) from rfl) rfl (by decide) (by decide +kernel) (by decide +kernel) (Nat.le_of_ble_eq_true rfl) (by omega) ⟨Nat.le_of_ble_eq_true rfl, Nat.le_of_ble_eq_true rfl⟩ (dOk_at dt_X7_init 44 rfl) ?_
  refine j_putRc (n := 23) hC hin flX7_50 (fun q hq _ => by cases hq; rfl) (show shp 1 = (7, 20) from rfl) (Nat.le_of_ble_eq_true rfl) (by decide) (by decide) (Or.inr ⟨_, rfl⟩) (dOk_at dt_X7_init 45 rfl) ?_
  refine j_aload_n hC 0 rfl rfl (dOk_at dt_X7_init 46 rfl) ?_
  refine j_iconst hC (v := (0 : Int32)) rfl (dOk_at dt_X7_init 47 rfl) ?_
  refine j_putIc (n := 23) hC hin flX7_53 (fun q hq _ => by cases hq; rfl) (show shp 1 = (7, 20) from rfl) (Nat.le_of_ble_eq_true rfl) (by decide) (by decide) rfl (dOk_at dt_X7_init 48 rfl) ?_
  refine j_aload_n hC 0 rfl rfl (dOk_at dt_X7_init 49 rfl) ?_
  refine j_bipush hC (v := (6 : Int32)) rfl (dOk_at dt_X7_init 50 rfl) ?_
  refine j_newaI (atype := .int) (n := 23) (t := 1) (ty := .int) (N := 6) hC aw_int rfl rfl (fun C q => by cases q) (show shp 23 = (20 + 1, 6) from rfl) rfl (by decide) (by decide +kernel) (by decide +kernel) (Nat.le_of_ble_eq_true rfl) (by omega) ⟨Nat.le_of_ble_eq_true rfl, Nat.le_of_ble_eq_true rfl⟩ (dOk_at dt_X7_init 51 rfl) ?_
  refine j_putRc (n := 24) hC hin flX7_56 (fun q hq _ => by cases hq; rfl) (show shp 1 = (7, 20) from rfl) (Nat.le_of_ble_eq_true rfl) (by decide) (by decide) (Or.inr ⟨_, rfl⟩) (dOk_at dt_X7_init 52 rfl) ?_
  refine j_aload_n hC 0 rfl rfl (dOk_at dt_X7_init 53 rfl) ?_
  refine j_bipush hC (v := (6 : Int32)) rfl (dOk_at dt_X7_init 54 rfl) ?_
  refine j_newaI (atype := .int) (n := 24) (t := 1) (ty := .int) (N := 6) hC aw_int rfl rfl (fun C q => by cases q) (show shp 24 = (20 + 1, 6) from rfl) rfl (by decide) (by decide +kernel) (by decide +kernel) (Nat.le_of_ble_eq_true rfl) (by omega) ⟨Nat.le_of_ble_eq_true rfl, Nat.le_of_ble_eq_true rfl⟩ (dOk_at dt_X7_init 55 rfl) ?_
  refine j_putRc (n := 25) hC hin flX7_59 (fun q hq _ => by cases hq; rfl) (show shp 1 = (7, 20) from rfl) (Nat.le_of_ble_eq_true rfl) (by decide) (by decide) (Or.inr ⟨_, rfl⟩) (dOk_at dt_X7_init 56 rfl) ?_
  refine j_aload_n hC 0 rfl rfl (dOk_at dt_X7_init 57 rfl) ?_
  refine j_iconst hC (v := (0 : Int32)) rfl (dOk_at dt_X7_init 58 rfl) ?_
  refine j_putIc (n := 25) hC hin flX7_62 (fun q hq _ => by cases hq; rfl) (show shp 1 = (7, 20) from rfl) (Nat.le_of_ble_eq_true rfl) (by decide) (by decide) rfl (dOk_at dt_X7_init 59 rfl) ?_
  refine j_aload_n hC 0 rfl rfl (dOk_at dt_X7_init 60 rfl) ?_
  refine j_iconst hC (v := (0 : Int32)) rfl (dOk_at dt_X7_init 61 rfl) ?_
  refine j_putZc (n := 25) hC hin flX7_65 (fun q hq _ => by cases hq; rfl) (show shp 1 = (7, 20) from rfl) (Nat.le_of_ble_eq_true rfl) (by decide) (by decide) rfl rfl (dOk_at dt_X7_init 62 rfl) ?_
  refine j_aload_n hC 0 rfl rfl (dOk_at dt_X7_init 63 rfl) ?_
  refine j_iconst hC (v := (0 : Int32)) rfl (dOk_at dt_X7_init 64 rfl) ?_
  refine j_putIc (n := 25) hC hin flX7_69 (fun q hq _ => by cases hq; rfl) (show shp 1 = (7, 20) from rfl) (Nat.le_of_ble_eq_true rfl) (by decide) (by decide) rfl (dOk_at dt_X7_init 65 rfl) ?_
  refine j_aload_n hC 0 rfl rfl (dOk_at dt_X7_init 66 rfl) ?_
  refine j_iconst hC (v := (0 : Int32)) rfl (dOk_at dt_X7_init 67 rfl) ?_
  refine j_putZc (n := 25) hC hin flX7_72 (fun q hq _ => by cases hq; rfl) (show shp 1 = (7, 20) from rfl) (Nat.le_of_ble_eq_true rfl) (by decide) (by decide) rfl rfl (dOk_at dt_X7_init 68 rfl) ?_
  refine j_aload_n hC 0 rfl rfl (dOk_at dt_X7_init 69 rfl) ?_
  refine j_iconst hC (v := (3 : Int32)) rfl (dOk_at dt_X7_init 70 rfl) ?_
  refine j_newaR (n := 25) (N := 3) hC nlX7_75 hAO (show shp 25 = (24, 3) from rfl) (by decide) (by decide +kernel) (Nat.le_of_ble_eq_true rfl) (by omega) ⟨Nat.le_of_ble_eq_true rfl, Nat.le_of_ble_eq_true rfl⟩ (dOk_at dt_X7_init 71 rfl) ?_
  refine j_putRc (n := 26) hC hin flX7_77 (fun q hq _ => by cases hq; rfl) (show shp 1 = (7, 20) from rfl) (Nat.le_of_ble_eq_true rfl) (by decide) (by decide) (Or.inr ⟨_, rfl⟩) (dOk_at dt_X7_init 72 rfl) ?_
  refine j_iconst hC (v := (0 : Int32)) rfl (dOk_at dt_X7_init 73 rfl) ?_
  refine j_istore_n hC rfl (lv' := [(1, .int (0 : Int32)), (0, .ref 1)]) (by decide) rfl (dOk_at dt_X7_init 74 rfl) ?_
  refine j_iload_n hC 0 rfl rfl (dOk_at dt_X7_init 75 rfl) ?_
  refine j_iconst hC (v := (3 : Int32)) rfl (dOk_at dt_X7_init 76 rfl) ?_
  refine j_icmp_geF hC (by decide) (tgt := 164) (by decide) (dOk_at dt_X7_init 77 rfl) ?_
  refine j_aload_n hC 1 rfl rfl (dOk_at dt_X7_init 78 rfl) ?_
  refine j_getE (n := 26) (x := 25) hC flX7_77 (show shp 1 = (7, 20) from rfl) (Nat.le_of_ble_eq_true rfl) (by decide) (by decide) (fun _ _ _ => rfl) (dOk_at dt_X7_init 79 rfl) ?_
  refine j_iload_n hC 0 rfl rfl (dOk_at dt_X7_init 80 rfl) ?_
  refine j_new (n := 26) hC nwX7_75 rfl (show shp 26 = (1, 4) from rfl) (by decide) (by decide) (by omega) ⟨Nat.le_of_ble_eq_true rfl, Nat.le_of_ble_eq_true rfl⟩ (dOk_at dt_X7_init 81 rfl) ?_
  refine j_dupr hC (dOk_at dt_X7_init 82 rfl) ?_
  refine j_callC (n := 27) hC ciX7_81 (fun r0 hr0 => c_X1_init_26 _ r0 hr0) rfl ⟨Nat.le_of_ble_eq_true rfl, Nat.le_of_ble_eq_true rfl⟩ ⟨Nat.le_of_ble_eq_true rfl, Nat.le_of_ble_eq_true rfl⟩ (by omega) (As := []) (st := [.ref 26, .int (0 : Int32), .ref 25]) rfl (Nat.le_of_ble_eq_true rfl) (dOk_at dt_X7_init 83 rfl) (fun h_4 _ => ?_)
  refine j_aastc (n := 29) hC (show shp 25 = (24, 3) from rfl) (Nat.le_of_ble_eq_true rfl) (show shp 26 = (1, 4) from rfl) (Nat.le_of_ble_eq_true rfl) (by decide +kernel) (dOk_at dt_X7_init 84 rfl) ?_
  refine j_iinc hC (v := (1 : Int32)) (lv' := [(1, .int (1 : Int32)), (0, .ref 1)]) 0 rfl (by decide) (by decide) rfl (dOk_at dt_X7_init 85 rfl) ?_
  refine j_goto hC (tgt := 140) (by decide) (dOk_at dt_X7_init 86 rfl) ?_
  refine j_iload_n hC 0 rfl rfl (dOk_at dt_X7_init 75 rfl) ?_
  refine j_iconst hC (v := (3 : Int32)) rfl (dOk_at dt_X7_init 76 rfl) ?_
  refine j_icmp_geF hC (by decide) (tgt := 164) (by decide) (dOk_at dt_X7_init 77 rfl) ?_
  refine j_aload_n hC 1 rfl rfl (dOk_at dt_X7_init 78 rfl) ?_
  refine j_getE (n := 29) (x := 25) hC flX7_77 (show shp 1 = (7, 20) from rfl) (Nat.le_of_ble_eq_true rfl) (by decide) (by decide) (fun _ _ _ => rfl) (dOk_at dt_X7_init 79 rfl) ?_
  refine j_iload_n hC 0 rfl rfl (dOk_at dt_X7_init 80 rfl) ?_
  refine j_new (n := 29) hC nwX7_75 rfl (show shp 29 = (1, 4) from rfl) (by decide) (by decide) (by omega) ⟨Nat.le_of_ble_eq_true rfl, Nat.le_of_ble_eq_true rfl⟩ (dOk_at dt_X7_init 81 rfl) ?_
  refine j_dupr hC (dOk_at dt_X7_init 82 rfl) ?_
  refine j_callC (n := 30) hC ciX7_81 (fun r0 hr0 => c_X1_init_29 _ r0 hr0) rfl ⟨Nat.le_of_ble_eq_true rfl, Nat.le_of_ble_eq_true rfl⟩ ⟨Nat.le_of_ble_eq_true rfl, Nat.le_of_ble_eq_true rfl⟩ (by omega) (As := []) (st := [.ref 29, .int (1 : Int32), .ref 25]) rfl (Nat.le_of_ble_eq_true rfl) (dOk_at dt_X7_init 83 rfl) (fun h_5 _ => ?_)
  refine j_aastc (n := 32) hC (show shp 25 = (24, 3) from rfl) (Nat.le_of_ble_eq_true rfl) (show shp 29 = (1, 4) from rfl) (Nat.le_of_ble_eq_true rfl) (by decide +kernel) (dOk_at dt_X7_init 84 rfl) ?_
  refine j_iinc hC (v := (2 : Int32)) (lv' := [(1, .int (2 : Int32)), (0, .ref 1)]) 0 rfl (by decide) (by decide) rfl (dOk_at dt_X7_init 85 rfl) ?_
  refine j_goto hC (tgt := 140) (by decide) (dOk_at dt_X7_init 86 rfl) ?_
  refine j_iload_n hC 0 rfl rfl (dOk_at dt_X7_init 75 rfl) ?_
  refine j_iconst hC (v := (3 : Int32)) rfl (dOk_at dt_X7_init 76 rfl) ?_
  refine j_icmp_geF hC (by decide) (tgt := 164) (by decide) (dOk_at dt_X7_init 77 rfl) ?_
  refine j_aload_n hC 1 rfl rfl (dOk_at dt_X7_init 78 rfl) ?_
  refine j_getE (n := 32) (x := 25) hC flX7_77 (show shp 1 = (7, 20) from rfl) (Nat.le_of_ble_eq_true rfl) (by decide) (by decide) (fun _ _ _ => rfl) (dOk_at dt_X7_init 79 rfl) ?_
  refine j_iload_n hC 0 rfl rfl (dOk_at dt_X7_init 80 rfl) ?_
  refine j_new (n := 32) hC nwX7_75 rfl (show shp 32 = (1, 4) from rfl) (by decide) (by decide) (by omega) ⟨Nat.le_of_ble_eq_true rfl, Nat.le_of_ble_eq_true rfl⟩ (dOk_at dt_X7_init 81 rfl) ?_
  refine j_dupr hC (dOk_at dt_X7_init 82 rfl) ?_
  refine j_callC (n := 33) hC ciX7_81 (fun r0 hr0 => c_X1_init_32 _ r0 hr0) rfl ⟨Nat.le_of_ble_eq_true rfl, Nat.le_of_ble_eq_true rfl⟩ ⟨Nat.le_of_ble_eq_true rfl, Nat.le_of_ble_eq_true rfl⟩ (by omega) (As := []) (st := [.ref 32, .int (2 : Int32), .ref 25]) rfl (Nat.le_of_ble_eq_true rfl) (dOk_at dt_X7_init 83 rfl) (fun h_6 _ => ?_)
  refine j_aastc (n := 35) hC (show shp 25 = (24, 3) from rfl) (Nat.le_of_ble_eq_true rfl) (show shp 32 = (1, 4) from rfl) (Nat.le_of_ble_eq_true rfl) (by decide +kernel) (dOk_at dt_X7_init 84 rfl) ?_
  refine j_iinc hC (v := (3 : Int32)) (lv' := [(1, .int (3 : Int32)), (0, .ref 1)]) 0 rfl (by decide) (by decide) rfl (dOk_at dt_X7_init 85 rfl) ?_
  refine j_goto hC (tgt := 140) (by decide) (dOk_at dt_X7_init 86 rfl) ?_
  refine j_iload_n hC 0 rfl rfl (dOk_at dt_X7_init 75 rfl) ?_
  refine j_iconst hC (v := (3 : Int32)) rfl (dOk_at dt_X7_init 76 rfl) ?_
  refine j_icmp_geT hC (by decide) (tgt := 164) (by decide) (dOk_at dt_X7_init 77 rfl) ?_
  refine j_aload_n hC 1 rfl rfl (dOk_at dt_X7_init 87 rfl) ?_
  refine j_iconst hC (v := (0 : Int32)) rfl (dOk_at dt_X7_init 88 rfl) ?_
  refine j_putIc (n := 35) hC hin flX7_82 (fun q hq _ => by cases hq; rfl) (show shp 1 = (7, 20) from rfl) (Nat.le_of_ble_eq_true rfl) (by decide) (by decide) rfl (dOk_at dt_X7_init 89 rfl) ?_
  refine j_aload_n hC 1 rfl rfl (dOk_at dt_X7_init 90 rfl) ?_
  refine j_iconst hC (v := (0 : Int32)) rfl (dOk_at dt_X7_init 91 rfl) ?_
  refine j_putIc (n := 35) hC hin flX7_85 (fun q hq _ => by cases hq; rfl) (show shp 1 = (7, 20) from rfl) (Nat.le_of_ble_eq_true rfl) (by decide) (by decide) rfl (dOk_at dt_X7_init 92 rfl) ?_
  exact j_vretc hC hret (dOk_at dt_X7_init 93 rfl)
def fX6_init_37 (h : Hp) : Option Hp := some (uI (uI (uR h 37 0 (some 38)) 37 1 (8 : Int32)) 37 2 (0 : Int32))
set_option maxRecDepth 100000 in
set_option maxHeartbeats 8000000 in
theorem c_X6_init_37 {l : Launch} {sb : State} {D : va_G} {ids : Nat → ClassId} (h r : Hp) (hr : fX6_init_37 h = some r) : jMc l yX6_init cX6_init 2 1 sb D ids shp 38 1 8 [.ref 37, .int (8 : Int32)] h (jQc sb D ids shp 39 r) := by
  refine jMc_of (Qc := fun r => jQc sb D ids shp 39 r) hr rfl rfl (Nat.le_of_ble_eq_true rfl) ?_
  intro p e s m args below meth c hC hret hin hs0
  unfold fX6_init_37
  refine j_aload_n hC 0 rfl rfl (dOk_at dt_X6_init 0 rfl) ?_
  refine j_objInit hC oiX6_3 ⟨Nat.le_of_ble_eq_true rfl, Nat.le_of_ble_eq_true rfl⟩ (Nat.le_of_ble_eq_true rfl) (dOk_at dt_X6_init 1 rfl) ?_
  refine j_aload_n hC 0 rfl rfl (dOk_at dt_X6_init 2 rfl) ?_
  refine j_bipush hC (v := (8 : Int32)) rfl (dOk_at dt_X6_init 3 rfl) ?_
  refine j_newaI (atype := .int) (n := 38) (t := 1) (ty := .int) (N := 8) hC aw_int rfl rfl (fun C q => by cases q) (show shp 38 = (20 + 1, 8) from rfl) rfl (by decide) (by decide +kernel) (by decide +kernel) (Nat.le_of_ble_eq_true rfl) (by omega) ⟨Nat.le_of_ble_eq_true rfl, Nat.le_of_ble_eq_true rfl⟩ (dOk_at dt_X6_init 4 rfl) ?_
  refine j_putRc (n := 39) hC hin flX6_9 (fun q hq _ => by cases hq; rfl) (show shp 37 = (6, 3) from rfl) (Nat.le_of_ble_eq_true rfl) (by decide) (by decide) (Or.inr ⟨_, rfl⟩) (dOk_at dt_X6_init 5 rfl) ?_
  refine j_aload_n hC 0 rfl rfl (dOk_at dt_X6_init 6 rfl) ?_
  refine j_iload_n hC 1 rfl rfl (dOk_at dt_X6_init 7 rfl) ?_
  refine j_putIc (n := 39) hC hin flX6_15 (fun q hq _ => by cases hq; rfl) (show shp 37 = (6, 3) from rfl) (Nat.le_of_ble_eq_true rfl) (by decide) (by decide) rfl (dOk_at dt_X6_init 8 rfl) ?_
  refine j_aload_n hC 0 rfl rfl (dOk_at dt_X6_init 9 rfl) ?_
  refine j_iconst hC (v := (0 : Int32)) rfl (dOk_at dt_X6_init 10 rfl) ?_
  refine j_putIc (n := 39) hC hin flX6_19 (fun q hq _ => by cases hq; rfl) (show shp 37 = (6, 3) from rfl) (Nat.le_of_ble_eq_true rfl) (by decide) (by decide) rfl (dOk_at dt_X6_init 11 rfl) ?_
  exact j_vretc hC hret (dOk_at dt_X6_init 12 rfl)
def fX0_init_36 (h : Hp) : Option Hp := (fX6_init_37 h).bind (fun h_1 => some (uI (uI (uR (uR (uR (uR (uI (uR (uR (uR (uR (uR h_1 36 0 (some 37)) 36 1 (some 39)) 36 2 (some 40)) 36 3 (some 41)) 36 4 (some 42)) 36 5 (0 : Int32)) 36 6 (some 43)) 36 7 (some 44)) 36 8 (some 45)) 36 9 (some 46)) 36 10 (-2 : Int32)) 36 11 (-2 : Int32)))
set_option maxRecDepth 100000 in
set_option maxHeartbeats 8000000 in
theorem c_X0_init_36 {l : Launch} {sb : State} {D : va_G} {ids : Nat → ClassId} (h r : Hp) (hr : fX0_init_36 h = some r) : jMc l yX0_init cX0_init 1 2 sb D ids shp 37 10 91 [.ref 36] h (jQc sb D ids shp 47 r) := by
  refine jMc_of (Qc := fun r => jQc sb D ids shp 47 r) hr rfl rfl (Nat.le_of_ble_eq_true rfl) ?_
  intro p e s m args below meth c hC hret hin hs0
  unfold fX0_init_36
  refine j_aload_n hC 0 rfl rfl (dOk_at dt_X0_init 0 rfl) ?_
  refine j_objInit hC oiX0_3 ⟨Nat.le_of_ble_eq_true rfl, Nat.le_of_ble_eq_true rfl⟩ (Nat.le_of_ble_eq_true rfl) (dOk_at dt_X0_init 1 rfl) ?_
  refine j_aload_n hC 0 rfl rfl (dOk_at dt_X0_init 2 rfl) ?_
  refine j_new (n := 37) hC nwX0_9 rfl (show shp 37 = (6, 3) from rfl) (by decide) (by decide) (by omega) ⟨Nat.le_of_ble_eq_true rfl, Nat.le_of_ble_eq_true rfl⟩ (dOk_at dt_X0_init 3 rfl) ?_
  refine j_dupr hC (dOk_at dt_X0_init 4 rfl) ?_
  refine j_bipush hC (v := (8 : Int32)) rfl (dOk_at dt_X0_init 5 rfl) ?_
  refine j_callC (n := 38) hC ciX0_11 (fun r0 hr0 => c_X6_init_37 _ r0 hr0) rfl ⟨Nat.le_of_ble_eq_true rfl, Nat.le_of_ble_eq_true rfl⟩ ⟨Nat.le_of_ble_eq_true rfl, Nat.le_of_ble_eq_true rfl⟩ (by omega) (As := [.int (8 : Int32)]) (st := [.ref 37, .ref 36]) rfl (Nat.le_of_ble_eq_true rfl) (dOk_at dt_X0_init 6 rfl) (fun h_1 _ => ?_)
  refine j_putRc (n := 39) hC hin flX0_14 (fun q hq _ => by cases hq; rfl) (show shp 36 = (0, 12) from rfl) (Nat.le_of_ble_eq_true rfl) (by decide) (by decide) (Or.inl ⟨_, rfl⟩) (dOk_at dt_X0_init 7 rfl) ?_
  refine j_aload_n hC 0 rfl rfl (dOk_at dt_X0_init 8 rfl) ?_
  refine j_bipush hC (v := (8 : Int32)) rfl (dOk_at dt_X0_init 9 rfl) ?_
  refine j_newaI (atype := .int) (n := 39) (t := 1) (ty := .int) (N := 8) hC aw_int rfl rfl (fun C q => by cases q) (show shp 39 = (20 + 1, 8) from rfl) rfl (by decide) (by decide +kernel) (by decide +kernel) (Nat.le_of_ble_eq_true rfl) (by omega) ⟨Nat.le_of_ble_eq_true rfl, Nat.le_of_ble_eq_true rfl⟩ (dOk_at dt_X0_init 10 rfl) ?_
  refine j_putRc (n := 40) hC hin flX0_20 (fun q hq _ => by cases hq; rfl) (show shp 36 = (0, 12) from rfl) (Nat.le_of_ble_eq_true rfl) (by decide) (by decide) (Or.inr ⟨_, rfl⟩) (dOk_at dt_X0_init 11 rfl) ?_
  refine j_aload_n hC 0 rfl rfl (dOk_at dt_X0_init 12 rfl) ?_
  refine j_bipush hC (v := (8 : Int32)) rfl (dOk_at dt_X0_init 13 rfl) ?_
  refine j_newaI (atype := .int) (n := 40) (t := 1) (ty := .int) (N := 8) hC aw_int rfl rfl (fun C q => by cases q) (show shp 40 = (20 + 1, 8) from rfl) rfl (by decide) (by decide +kernel) (by decide +kernel) (Nat.le_of_ble_eq_true rfl) (by omega) ⟨Nat.le_of_ble_eq_true rfl, Nat.le_of_ble_eq_true rfl⟩ (dOk_at dt_X0_init 14 rfl) ?_
  refine j_putRc (n := 41) hC hin flX0_24 (fun q hq _ => by cases hq; rfl) (show shp 36 = (0, 12) from rfl) (Nat.le_of_ble_eq_true rfl) (by decide) (by decide) (Or.inr ⟨_, rfl⟩) (dOk_at dt_X0_init 15 rfl) ?_
  refine j_aload_n hC 0 rfl rfl (dOk_at dt_X0_init 16 rfl) ?_
  refine j_bipush hC (v := (8 : Int32)) rfl (dOk_at dt_X0_init 17 rfl) ?_
  refine j_newaI (atype := .int) (n := 41) (t := 1) (ty := .int) (N := 8) hC aw_int rfl rfl (fun C q => by cases q) (show shp 41 = (20 + 1, 8) from rfl) rfl (by decide) (by decide +kernel) (by decide +kernel) (Nat.le_of_ble_eq_true rfl) (by omega) ⟨Nat.le_of_ble_eq_true rfl, Nat.le_of_ble_eq_true rfl⟩ (dOk_at dt_X0_init 18 rfl) ?_
  refine j_putRc (n := 42) hC hin flX0_27 (fun q hq _ => by cases hq; rfl) (show shp 36 = (0, 12) from rfl) (Nat.le_of_ble_eq_true rfl) (by decide) (by decide) (Or.inr ⟨_, rfl⟩) (dOk_at dt_X0_init 19 rfl) ?_
  refine j_aload_n hC 0 rfl rfl (dOk_at dt_X0_init 20 rfl) ?_
  refine j_bipush hC (v := (8 : Int32)) rfl (dOk_at dt_X0_init 21 rfl) ?_
  refine j_newaI (atype := .int) (n := 42) (t := 1) (ty := .int) (N := 8) hC aw_int rfl rfl (fun C q => by cases q) (show shp 42 = (20 + 1, 8) from rfl) rfl (by decide) (by decide +kernel) (by decide +kernel) (Nat.le_of_ble_eq_true rfl) (by omega) ⟨Nat.le_of_ble_eq_true rfl, Nat.le_of_ble_eq_true rfl⟩ (dOk_at dt_X0_init 22 rfl) ?_
  refine j_putRc (n := 43) hC hin flX0_30 (fun q hq _ => by cases hq; rfl) (show shp 36 = (0, 12) from rfl) (Nat.le_of_ble_eq_true rfl) (by decide) (by decide) (Or.inr ⟨_, rfl⟩) (dOk_at dt_X0_init 23 rfl) ?_
  refine j_aload_n hC 0 rfl rfl (dOk_at dt_X0_init 24 rfl) ?_
  refine j_iconst hC (v := (0 : Int32)) rfl (dOk_at dt_X0_init 25 rfl) ?_
  refine j_putIc (n := 43) hC hin flX0_33 (fun q hq _ => by cases hq; rfl) (show shp 36 = (0, 12) from rfl) (Nat.le_of_ble_eq_true rfl) (by decide) (by decide) rfl (dOk_at dt_X0_init 26 rfl) ?_
  refine j_aload_n hC 0 rfl rfl (dOk_at dt_X0_init 27 rfl) ?_
  refine j_bipush hC (v := (16 : Int32)) rfl (dOk_at dt_X0_init 28 rfl) ?_
  refine j_newaI (atype := .int) (n := 43) (t := 1) (ty := .int) (N := 16) hC aw_int rfl rfl (fun C q => by cases q) (show shp 43 = (20 + 1, 16) from rfl) rfl (by decide) (by decide +kernel) (by decide +kernel) (Nat.le_of_ble_eq_true rfl) (by omega) ⟨Nat.le_of_ble_eq_true rfl, Nat.le_of_ble_eq_true rfl⟩ (dOk_at dt_X0_init 29 rfl) ?_
  refine j_putRc (n := 44) hC hin flX0_37 (fun q hq _ => by cases hq; rfl) (show shp 36 = (0, 12) from rfl) (Nat.le_of_ble_eq_true rfl) (by decide) (by decide) (Or.inr ⟨_, rfl⟩) (dOk_at dt_X0_init 30 rfl) ?_
  refine j_aload_n hC 0 rfl rfl (dOk_at dt_X0_init 31 rfl) ?_
  refine j_bipush hC (v := (16 : Int32)) rfl (dOk_at dt_X0_init 32 rfl) ?_
  refine j_newaI (atype := .int) (n := 44) (t := 1) (ty := .int) (N := 16) hC aw_int rfl rfl (fun C q => by cases q) (show shp 44 = (20 + 1, 16) from rfl) rfl (by decide) (by decide +kernel) (by decide +kernel) (Nat.le_of_ble_eq_true rfl) (by omega) ⟨Nat.le_of_ble_eq_true rfl, Nat.le_of_ble_eq_true rfl⟩ (dOk_at dt_X0_init 33 rfl) ?_
  refine j_putRc (n := 45) hC hin flX0_40 (fun q hq _ => by cases hq; rfl) (show shp 36 = (0, 12) from rfl) (Nat.le_of_ble_eq_true rfl) (by decide) (by decide) (Or.inr ⟨_, rfl⟩) (dOk_at dt_X0_init 34 rfl) ?_
  refine j_aload_n hC 0 rfl rfl (dOk_at dt_X0_init 35 rfl) ?_
  refine j_bipush hC (v := (8 : Int32)) rfl (dOk_at dt_X0_init 36 rfl) ?_
  refine j_newaI (atype := .int) (n := 45) (t := 1) (ty := .int) (N := 8) hC aw_int rfl rfl (fun C q => by cases q) (show shp 45 = (20 + 1, 8) from rfl) rfl (by decide) (by decide +kernel) (by decide +kernel) (Nat.le_of_ble_eq_true rfl) (by omega) ⟨Nat.le_of_ble_eq_true rfl, Nat.le_of_ble_eq_true rfl⟩ (dOk_at dt_X0_init 37 rfl) ?_
  refine j_putRc (n := 46) hC hin flX0_43 (fun q hq _ => by cases hq; rfl) (show shp 36 = (0, 12) from rfl) (Nat.le_of_ble_eq_true rfl) (by decide) (by decide) (Or.inr ⟨_, rfl⟩) (dOk_at dt_X0_init 38 rfl) ?_
  refine j_aload_n hC 0 rfl rfl (dOk_at dt_X0_init 39 rfl) ?_
  refine j_bipush hC (v := (8 : Int32)) rfl (dOk_at dt_X0_init 40 rfl) ?_
  refine j_newaI (atype := .int) (n := 46) (t := 1) (ty := .int) (N := 8) hC aw_int rfl rfl (fun C q => by cases q) (show shp 46 = (20 + 1, 8) from rfl) rfl (by decide) (by decide +kernel) (by decide +kernel) (Nat.le_of_ble_eq_true rfl) (by omega) ⟨Nat.le_of_ble_eq_true rfl, Nat.le_of_ble_eq_true rfl⟩ (dOk_at dt_X0_init 41 rfl) ?_
  refine j_putRc (n := 47) hC hin flX0_46 (fun q hq _ => by cases hq; rfl) (show shp 36 = (0, 12) from rfl) (Nat.le_of_ble_eq_true rfl) (by decide) (by decide) (Or.inr ⟨_, rfl⟩) (dOk_at dt_X0_init 42 rfl) ?_
  refine j_aload_n hC 0 rfl rfl (dOk_at dt_X0_init 43 rfl) ?_
  refine j_bipush hC (v := (-2 : Int32)) rfl (dOk_at dt_X0_init 44 rfl) ?_
  refine j_putIc (n := 47) hC hin flX0_49 (fun q hq _ => by cases hq; rfl) (show shp 36 = (0, 12) from rfl) (Nat.le_of_ble_eq_true rfl) (by decide) (by decide) rfl (dOk_at dt_X0_init 45 rfl) ?_
  refine j_aload_n hC 0 rfl rfl (dOk_at dt_X0_init 46 rfl) ?_
  refine j_bipush hC (v := (-2 : Int32)) rfl (dOk_at dt_X0_init 47 rfl) ?_
  refine j_putIc (n := 47) hC hin flX0_52 (fun q hq _ => by cases hq; rfl) (show shp 36 = (0, 12) from rfl) (Nat.le_of_ble_eq_true rfl) (by decide) (by decide) rfl (dOk_at dt_X0_init 48 rfl) ?_
  exact j_vretc hC hret (dOk_at dt_X0_init 49 rfl)
def fX6_init_47 (h : Hp) : Option Hp := some (uI (uI (uR h 47 0 (some 48)) 47 1 (5 : Int32)) 47 2 (0 : Int32))
set_option maxRecDepth 100000 in
set_option maxHeartbeats 8000000 in
theorem c_X6_init_47 {l : Launch} {sb : State} {D : va_G} {ids : Nat → ClassId} (h r : Hp) (hr : fX6_init_47 h = some r) : jMc l yX6_init cX6_init 2 1 sb D ids shp 48 1 8 [.ref 47, .int (5 : Int32)] h (jQc sb D ids shp 49 r) := by
  refine jMc_of (Qc := fun r => jQc sb D ids shp 49 r) hr rfl rfl (Nat.le_of_ble_eq_true rfl) ?_
  intro p e s m args below meth c hC hret hin hs0
  unfold fX6_init_47
  refine j_aload_n hC 0 rfl rfl (dOk_at dt_X6_init 0 rfl) ?_
  refine j_objInit hC oiX6_3 ⟨Nat.le_of_ble_eq_true rfl, Nat.le_of_ble_eq_true rfl⟩ (Nat.le_of_ble_eq_true rfl) (dOk_at dt_X6_init 1 rfl) ?_
  refine j_aload_n hC 0 rfl rfl (dOk_at dt_X6_init 2 rfl) ?_
  refine j_bipush hC (v := (8 : Int32)) rfl (dOk_at dt_X6_init 3 rfl) ?_
  refine j_newaI (atype := .int) (n := 48) (t := 1) (ty := .int) (N := 8) hC aw_int rfl rfl (fun C q => by cases q) (show shp 48 = (20 + 1, 8) from rfl) rfl (by decide) (by decide +kernel) (by decide +kernel) (Nat.le_of_ble_eq_true rfl) (by omega) ⟨Nat.le_of_ble_eq_true rfl, Nat.le_of_ble_eq_true rfl⟩ (dOk_at dt_X6_init 4 rfl) ?_
  refine j_putRc (n := 49) hC hin flX6_9 (fun q hq _ => by cases hq; rfl) (show shp 47 = (6, 3) from rfl) (Nat.le_of_ble_eq_true rfl) (by decide) (by decide) (Or.inr ⟨_, rfl⟩) (dOk_at dt_X6_init 5 rfl) ?_
  refine j_aload_n hC 0 rfl rfl (dOk_at dt_X6_init 6 rfl) ?_
  refine j_iload_n hC 1 rfl rfl (dOk_at dt_X6_init 7 rfl) ?_
  refine j_putIc (n := 49) hC hin flX6_15 (fun q hq _ => by cases hq; rfl) (show shp 47 = (6, 3) from rfl) (Nat.le_of_ble_eq_true rfl) (by decide) (by decide) rfl (dOk_at dt_X6_init 8 rfl) ?_
  refine j_aload_n hC 0 rfl rfl (dOk_at dt_X6_init 9 rfl) ?_
  refine j_iconst hC (v := (0 : Int32)) rfl (dOk_at dt_X6_init 10 rfl) ?_
  refine j_putIc (n := 49) hC hin flX6_19 (fun q hq _ => by cases hq; rfl) (show shp 47 = (6, 3) from rfl) (Nat.le_of_ble_eq_true rfl) (by decide) (by decide) rfl (dOk_at dt_X6_init 11 rfl) ?_
  exact j_vretc hC hret (dOk_at dt_X6_init 12 rfl)
def fX6_init_51 (h : Hp) : Option Hp := some (uI (uI (uR h 51 0 (some 52)) 51 1 (5 : Int32)) 51 2 (0 : Int32))
set_option maxRecDepth 100000 in
set_option maxHeartbeats 8000000 in
theorem c_X6_init_51 {l : Launch} {sb : State} {D : va_G} {ids : Nat → ClassId} (h r : Hp) (hr : fX6_init_51 h = some r) : jMc l yX6_init cX6_init 2 1 sb D ids shp 52 1 8 [.ref 51, .int (5 : Int32)] h (jQc sb D ids shp 53 r) := by
  refine jMc_of (Qc := fun r => jQc sb D ids shp 53 r) hr rfl rfl (Nat.le_of_ble_eq_true rfl) ?_
  intro p e s m args below meth c hC hret hin hs0
  unfold fX6_init_51
  refine j_aload_n hC 0 rfl rfl (dOk_at dt_X6_init 0 rfl) ?_
  refine j_objInit hC oiX6_3 ⟨Nat.le_of_ble_eq_true rfl, Nat.le_of_ble_eq_true rfl⟩ (Nat.le_of_ble_eq_true rfl) (dOk_at dt_X6_init 1 rfl) ?_
  refine j_aload_n hC 0 rfl rfl (dOk_at dt_X6_init 2 rfl) ?_
  refine j_bipush hC (v := (8 : Int32)) rfl (dOk_at dt_X6_init 3 rfl) ?_
  refine j_newaI (atype := .int) (n := 52) (t := 1) (ty := .int) (N := 8) hC aw_int rfl rfl (fun C q => by cases q) (show shp 52 = (20 + 1, 8) from rfl) rfl (by decide) (by decide +kernel) (by decide +kernel) (Nat.le_of_ble_eq_true rfl) (by omega) ⟨Nat.le_of_ble_eq_true rfl, Nat.le_of_ble_eq_true rfl⟩ (dOk_at dt_X6_init 4 rfl) ?_
  refine j_putRc (n := 53) hC hin flX6_9 (fun q hq _ => by cases hq; rfl) (show shp 51 = (6, 3) from rfl) (Nat.le_of_ble_eq_true rfl) (by decide) (by decide) (Or.inr ⟨_, rfl⟩) (dOk_at dt_X6_init 5 rfl) ?_
  refine j_aload_n hC 0 rfl rfl (dOk_at dt_X6_init 6 rfl) ?_
  refine j_iload_n hC 1 rfl rfl (dOk_at dt_X6_init 7 rfl) ?_
  refine j_putIc (n := 53) hC hin flX6_15 (fun q hq _ => by cases hq; rfl) (show shp 51 = (6, 3) from rfl) (Nat.le_of_ble_eq_true rfl) (by decide) (by decide) rfl (dOk_at dt_X6_init 8 rfl) ?_
  refine j_aload_n hC 0 rfl rfl (dOk_at dt_X6_init 9 rfl) ?_
  refine j_iconst hC (v := (0 : Int32)) rfl (dOk_at dt_X6_init 10 rfl) ?_
  refine j_putIc (n := 53) hC hin flX6_19 (fun q hq _ => by cases hq; rfl) (show shp 51 = (6, 3) from rfl) (Nat.le_of_ble_eq_true rfl) (by decide) (by decide) rfl (dOk_at dt_X6_init 11 rfl) ?_
  exact j_vretc hC hret (dOk_at dt_X6_init 12 rfl)
def fX1_init_60 (h : Hp) : Option Hp := some (uR (uR (uI (uI h 60 0 (0 : Int32)) 60 1 (0 : Int32)) 60 2 (some 61)) 60 3 (some 62))
set_option maxRecDepth 100000 in
set_option maxHeartbeats 8000000 in
theorem c_X1_init_60 {l : Launch} {sb : State} {D : va_G} {ids : Nat → ClassId} (h r : Hp) (hr : fX1_init_60 h = some r) : jMc l yX1_init cX1_init 1 1 sb D ids shp 61 2 128 [.ref 60] h (jQc sb D ids shp 63 r) := by
  refine jMc_of (Qc := fun r => jQc sb D ids shp 63 r) hr rfl rfl (Nat.le_of_ble_eq_true rfl) ?_
  intro p e s m args below meth c hC hret hin hs0
  unfold fX1_init_60
  refine j_aload_n hC 0 rfl rfl (dOk_at dt_X1_init 0 rfl) ?_
  refine j_objInit hC oiX1_3 ⟨Nat.le_of_ble_eq_true rfl, Nat.le_of_ble_eq_true rfl⟩ (Nat.le_of_ble_eq_true rfl) (dOk_at dt_X1_init 1 rfl) ?_
  refine j_aload_n hC 0 rfl rfl (dOk_at dt_X1_init 2 rfl) ?_
  refine j_iconst hC (v := (0 : Int32)) rfl (dOk_at dt_X1_init 3 rfl) ?_
  refine j_putZc (n := 61) hC hin flX1_9 (fun q hq _ => by cases hq; rfl) (show shp 60 = (1, 4) from rfl) (Nat.le_of_ble_eq_true rfl) (by decide) (by decide) rfl rfl (dOk_at dt_X1_init 4 rfl) ?_
  refine j_aload_n hC 0 rfl rfl (dOk_at dt_X1_init 5 rfl) ?_
  refine j_iconst hC (v := (0 : Int32)) rfl (dOk_at dt_X1_init 6 rfl) ?_
  refine j_putIc (n := 61) hC hin flX1_15 (fun q hq _ => by cases hq; rfl) (show shp 60 = (1, 4) from rfl) (Nat.le_of_ble_eq_true rfl) (by decide) (by decide) rfl (dOk_at dt_X1_init 7 rfl) ?_
  refine j_aload_n hC 0 rfl rfl (dOk_at dt_X1_init 8 rfl) ?_
  refine j_bipush hC (v := (64 : Int32)) rfl (dOk_at dt_X1_init 9 rfl) ?_
  refine j_newaI (atype := .int) (n := 61) (t := 1) (ty := .int) (N := 64) hC aw_int rfl rfl (fun C q => by cases q) (show shp 61 = (20 + 1, 64) from rfl) rfl (by decide) (by decide +kernel) (by decide +kernel) (Nat.le_of_ble_eq_true rfl) (by omega) ⟨Nat.le_of_ble_eq_true rfl, Nat.le_of_ble_eq_true rfl⟩ (dOk_at dt_X1_init 10 rfl) ?_
  refine j_putRc (n := 62) hC hin flX1_19 (fun q hq _ => by cases hq; rfl) (show shp 60 = (1, 4) from rfl) (Nat.le_of_ble_eq_true rfl) (by decide) (by decide) (Or.inr ⟨_, rfl⟩) (dOk_at dt_X1_init 11 rfl) ?_
  refine j_aload_n hC 0 rfl rfl (dOk_at dt_X1_init 12 rfl) ?_
  refine j_bipush hC (v := (64 : Int32)) rfl (dOk_at dt_X1_init 13 rfl) ?_
  refine j_newaJ (n := 62) (N := 64) hC aw_long (show shp 62 = (22, 64) from rfl) (by decide +kernel) (by decide +kernel) (Nat.le_of_ble_eq_true rfl) (by omega) ⟨Nat.le_of_ble_eq_true rfl, Nat.le_of_ble_eq_true rfl⟩ (dOk_at dt_X1_init 14 rfl) ?_
  refine j_putRc (n := 63) hC hin flX1_23 (fun q hq _ => by cases hq; rfl) (show shp 60 = (1, 4) from rfl) (Nat.le_of_ble_eq_true rfl) (by decide) (by decide) (Or.inr ⟨_, rfl⟩) (dOk_at dt_X1_init 15 rfl) ?_
  exact j_vretc hC hret (dOk_at dt_X1_init 16 rfl)
def fX1_init_63 (h : Hp) : Option Hp := some (uR (uR (uI (uI h 63 0 (0 : Int32)) 63 1 (0 : Int32)) 63 2 (some 64)) 63 3 (some 65))
set_option maxRecDepth 100000 in
set_option maxHeartbeats 8000000 in
theorem c_X1_init_63 {l : Launch} {sb : State} {D : va_G} {ids : Nat → ClassId} (h r : Hp) (hr : fX1_init_63 h = some r) : jMc l yX1_init cX1_init 1 1 sb D ids shp 64 2 128 [.ref 63] h (jQc sb D ids shp 66 r) := by
  refine jMc_of (Qc := fun r => jQc sb D ids shp 66 r) hr rfl rfl (Nat.le_of_ble_eq_true rfl) ?_
  intro p e s m args below meth c hC hret hin hs0
  unfold fX1_init_63
  refine j_aload_n hC 0 rfl rfl (dOk_at dt_X1_init 0 rfl) ?_
  refine j_objInit hC oiX1_3 ⟨Nat.le_of_ble_eq_true rfl, Nat.le_of_ble_eq_true rfl⟩ (Nat.le_of_ble_eq_true rfl) (dOk_at dt_X1_init 1 rfl) ?_
  refine j_aload_n hC 0 rfl rfl (dOk_at dt_X1_init 2 rfl) ?_
  refine j_iconst hC (v := (0 : Int32)) rfl (dOk_at dt_X1_init 3 rfl) ?_
  refine j_putZc (n := 64) hC hin flX1_9 (fun q hq _ => by cases hq; rfl) (show shp 63 = (1, 4) from rfl) (Nat.le_of_ble_eq_true rfl) (by decide) (by decide) rfl rfl (dOk_at dt_X1_init 4 rfl) ?_
  refine j_aload_n hC 0 rfl rfl (dOk_at dt_X1_init 5 rfl) ?_
  refine j_iconst hC (v := (0 : Int32)) rfl (dOk_at dt_X1_init 6 rfl) ?_
  refine j_putIc (n := 64) hC hin flX1_15 (fun q hq _ => by cases hq; rfl) (show shp 63 = (1, 4) from rfl) (Nat.le_of_ble_eq_true rfl) (by decide) (by decide) rfl (dOk_at dt_X1_init 7 rfl) ?_
  refine j_aload_n hC 0 rfl rfl (dOk_at dt_X1_init 8 rfl) ?_
  refine j_bipush hC (v := (64 : Int32)) rfl (dOk_at dt_X1_init 9 rfl) ?_
  refine j_newaI (atype := .int) (n := 64) (t := 1) (ty := .int) (N := 64) hC aw_int rfl rfl (fun C q => by cases q) (show shp 64 = (20 + 1, 64) from rfl) rfl (by decide) (by decide +kernel) (by decide +kernel) (Nat.le_of_ble_eq_true rfl) (by omega) ⟨Nat.le_of_ble_eq_true rfl, Nat.le_of_ble_eq_true rfl⟩ (dOk_at dt_X1_init 10 rfl) ?_
  refine j_putRc (n := 65) hC hin flX1_19 (fun q hq _ => by cases hq; rfl) (show shp 63 = (1, 4) from rfl) (Nat.le_of_ble_eq_true rfl) (by decide) (by decide) (Or.inr ⟨_, rfl⟩) (dOk_at dt_X1_init 11 rfl) ?_
  refine j_aload_n hC 0 rfl rfl (dOk_at dt_X1_init 12 rfl) ?_
  refine j_bipush hC (v := (64 : Int32)) rfl (dOk_at dt_X1_init 13 rfl) ?_
  refine j_newaJ (n := 65) (N := 64) hC aw_long (show shp 65 = (22, 64) from rfl) (by decide +kernel) (by decide +kernel) (Nat.le_of_ble_eq_true rfl) (by omega) ⟨Nat.le_of_ble_eq_true rfl, Nat.le_of_ble_eq_true rfl⟩ (dOk_at dt_X1_init 14 rfl) ?_
  refine j_putRc (n := 66) hC hin flX1_23 (fun q hq _ => by cases hq; rfl) (show shp 63 = (1, 4) from rfl) (Nat.le_of_ble_eq_true rfl) (by decide) (by decide) (Or.inr ⟨_, rfl⟩) (dOk_at dt_X1_init 15 rfl) ?_
  exact j_vretc hC hret (dOk_at dt_X1_init 16 rfl)
def fX1_init_66 (h : Hp) : Option Hp := some (uR (uR (uI (uI h 66 0 (0 : Int32)) 66 1 (0 : Int32)) 66 2 (some 67)) 66 3 (some 68))
set_option maxRecDepth 100000 in
set_option maxHeartbeats 8000000 in
theorem c_X1_init_66 {l : Launch} {sb : State} {D : va_G} {ids : Nat → ClassId} (h r : Hp) (hr : fX1_init_66 h = some r) : jMc l yX1_init cX1_init 1 1 sb D ids shp 67 2 128 [.ref 66] h (jQc sb D ids shp 69 r) := by
  refine jMc_of (Qc := fun r => jQc sb D ids shp 69 r) hr rfl rfl (Nat.le_of_ble_eq_true rfl) ?_
  intro p e s m args below meth c hC hret hin hs0
  unfold fX1_init_66
  refine j_aload_n hC 0 rfl rfl (dOk_at dt_X1_init 0 rfl) ?_
  refine j_objInit hC oiX1_3 ⟨Nat.le_of_ble_eq_true rfl, Nat.le_of_ble_eq_true rfl⟩ (Nat.le_of_ble_eq_true rfl) (dOk_at dt_X1_init 1 rfl) ?_
  refine j_aload_n hC 0 rfl rfl (dOk_at dt_X1_init 2 rfl) ?_
  refine j_iconst hC (v := (0 : Int32)) rfl (dOk_at dt_X1_init 3 rfl) ?_
  refine j_putZc (n := 67) hC hin flX1_9 (fun q hq _ => by cases hq; rfl) (show shp 66 = (1, 4) from rfl) (Nat.le_of_ble_eq_true rfl) (by decide) (by decide) rfl rfl (dOk_at dt_X1_init 4 rfl) ?_
  refine j_aload_n hC 0 rfl rfl (dOk_at dt_X1_init 5 rfl) ?_
  refine j_iconst hC (v := (0 : Int32)) rfl (dOk_at dt_X1_init 6 rfl) ?_
  refine j_putIc (n := 67) hC hin flX1_15 (fun q hq _ => by cases hq; rfl) (show shp 66 = (1, 4) from rfl) (Nat.le_of_ble_eq_true rfl) (by decide) (by decide) rfl (dOk_at dt_X1_init 7 rfl) ?_
  refine j_aload_n hC 0 rfl rfl (dOk_at dt_X1_init 8 rfl) ?_
  refine j_bipush hC (v := (64 : Int32)) rfl (dOk_at dt_X1_init 9 rfl) ?_
  refine j_newaI (atype := .int) (n := 67) (t := 1) (ty := .int) (N := 64) hC aw_int rfl rfl (fun C q => by cases q) (show shp 67 = (20 + 1, 64) from rfl) rfl (by decide) (by decide +kernel) (by decide +kernel) (Nat.le_of_ble_eq_true rfl) (by omega) ⟨Nat.le_of_ble_eq_true rfl, Nat.le_of_ble_eq_true rfl⟩ (dOk_at dt_X1_init 10 rfl) ?_
  refine j_putRc (n := 68) hC hin flX1_19 (fun q hq _ => by cases hq; rfl) (show shp 66 = (1, 4) from rfl) (Nat.le_of_ble_eq_true rfl) (by decide) (by decide) (Or.inr ⟨_, rfl⟩) (dOk_at dt_X1_init 11 rfl) ?_
  refine j_aload_n hC 0 rfl rfl (dOk_at dt_X1_init 12 rfl) ?_
  refine j_bipush hC (v := (64 : Int32)) rfl (dOk_at dt_X1_init 13 rfl) ?_
  refine j_newaJ (n := 68) (N := 64) hC aw_long (show shp 68 = (22, 64) from rfl) (by decide +kernel) (by decide +kernel) (Nat.le_of_ble_eq_true rfl) (by omega) ⟨Nat.le_of_ble_eq_true rfl, Nat.le_of_ble_eq_true rfl⟩ (dOk_at dt_X1_init 14 rfl) ?_
  refine j_putRc (n := 69) hC hin flX1_23 (fun q hq _ => by cases hq; rfl) (show shp 66 = (1, 4) from rfl) (Nat.le_of_ble_eq_true rfl) (by decide) (by decide) (Or.inr ⟨_, rfl⟩) (dOk_at dt_X1_init 15 rfl) ?_
  exact j_vretc hC hret (dOk_at dt_X1_init 16 rfl)
def fX7_init_35 (h : Hp) : Option Hp := (fX0_init_36 h).bind (fun h_1 => (fX6_init_47 (uR h_1 35 0 (some 36))).bind (fun h_2 => (fX6_init_51 (uR (uR (uR h_2 35 1 (some 47)) 35 2 (some 49)) 35 3 (some 50))).bind (fun h_3 => if hR (uR (uI (uI (uI (uI (uR (uR (uI (uR (uR (uR (uI (uR (uR h_3 35 4 (some 51)) 35 5 (some 53)) 35 6 (0 : Int32)) 35 7 (some 54)) 35 8 (some 55)) 35 9 (some 56)) 35 10 (0 : Int32)) 35 11 (some 57)) 35 12 (some 58)) 35 13 (0 : Int32)) 35 14 (0 : Int32)) 35 15 (0 : Int32)) 35 16 (0 : Int32)) 35 17 (some 59)) 35 17 = some 59 then ((fX1_init_60 (uR (uI (uI (uI (uI (uR (uR (uI (uR (uR (uR (uI (uR (uR h_3 35 4 (some 51)) 35 5 (some 53)) 35 6 (0 : Int32)) 35 7 (some 54)) 35 8 (some 55)) 35 9 (some 56)) 35 10 (0 : Int32)) 35 11 (some 57)) 35 12 (some 58)) 35 13 (0 : Int32)) 35 14 (0 : Int32)) 35 15 (0 : Int32)) 35 16 (0 : Int32)) 35 17 (some 59))).bind (fun h_4 => if hR (uR h_4 59 (Int32.toNatClampNeg (0 : Int32)) (some 60)) 35 17 = some 59 then ((fX1_init_63 (uR h_4 59 (Int32.toNatClampNeg (0 : Int32)) (some 60))).bind (fun h_5 => if hR (uR h_5 59 (Int32.toNatClampNeg (1 : Int32)) (some 63)) 35 17 = some 59 then ((fX1_init_66 (uR h_5 59 (Int32.toNatClampNeg (1 : Int32)) (some 63))).bind (fun h_6 => some (uI (uI (uR h_6 59 (Int32.toNatClampNeg (2 : Int32)) (some 66)) 35 18 (0 : Int32)) 35 19 (0 : Int32)))) else none)) else none)) else none)))
set_option maxRecDepth 100000 in
set_option maxHeartbeats 8000000 in
theorem c_X7_init_35 {l : Launch} {sb : State} {D : va_G} {ids : Nat → ClassId} (hAO : va_AO "StrawMen$Law" sb) (h r : Hp) (hr : fX7_init_35 h = some r) : jMc l yX7_init cX7_init 2 3 sb D ids shp 36 33 587 [.ref 35] h (jQc sb D ids shp 69 r) := by
  refine jMc_of (Qc := fun r => jQc sb D ids shp 69 r) hr rfl rfl (Nat.le_of_ble_eq_true rfl) ?_
  intro p e s m args below meth c hC hret hin hs0
  unfold fX7_init_35
  refine j_aload_n hC 0 rfl rfl (dOk_at dt_X7_init 0 rfl) ?_
  refine j_objInit hC oiX7_3 ⟨Nat.le_of_ble_eq_true rfl, Nat.le_of_ble_eq_true rfl⟩ (Nat.le_of_ble_eq_true rfl) (dOk_at dt_X7_init 1 rfl) ?_
  refine j_aload_n hC 0 rfl rfl (dOk_at dt_X7_init 2 rfl) ?_
  refine j_new (n := 36) hC nwX7_9 rfl (show shp 36 = (0, 12) from rfl) (by decide) (by decide) (by omega) ⟨Nat.le_of_ble_eq_true rfl, Nat.le_of_ble_eq_true rfl⟩ (dOk_at dt_X7_init 3 rfl) ?_
  refine j_dupr hC (dOk_at dt_X7_init 4 rfl) ?_
  refine j_callC (n := 37) hC ciX7_11 (fun r0 hr0 => c_X0_init_36 _ r0 hr0) rfl ⟨Nat.le_of_ble_eq_true rfl, Nat.le_of_ble_eq_true rfl⟩ ⟨Nat.le_of_ble_eq_true rfl, Nat.le_of_ble_eq_true rfl⟩ (by omega) (As := []) (st := [.ref 36, .ref 35]) rfl (Nat.le_of_ble_eq_true rfl) (dOk_at dt_X7_init 5 rfl) (fun h_1 _ => ?_)
  refine j_putRc (n := 47) hC hin flX7_12 (fun q hq _ => by cases hq; rfl) (show shp 35 = (7, 20) from rfl) (Nat.le_of_ble_eq_true rfl) (by decide) (by decide) (Or.inl ⟨_, rfl⟩) (dOk_at dt_X7_init 6 rfl) ?_
  refine j_aload_n hC 0 rfl rfl (dOk_at dt_X7_init 7 rfl) ?_
  refine j_new (n := 47) hC nwX7_18 rfl (show shp 47 = (6, 3) from rfl) (by decide) (by decide) (by omega) ⟨Nat.le_of_ble_eq_true rfl, Nat.le_of_ble_eq_true rfl⟩ (dOk_at dt_X7_init 8 rfl) ?_
  refine j_dupr hC (dOk_at dt_X7_init 9 rfl) ?_
  refine j_iconst hC (v := (5 : Int32)) rfl (dOk_at dt_X7_init 10 rfl) ?_
  refine j_callC (n := 48) hC ciX7_20 (fun r0 hr0 => c_X6_init_47 _ r0 hr0) rfl ⟨Nat.le_of_ble_eq_true rfl, Nat.le_of_ble_eq_true rfl⟩ ⟨Nat.le_of_ble_eq_true rfl, Nat.le_of_ble_eq_true rfl⟩ (by omega) (As := [.int (5 : Int32)]) (st := [.ref 47, .ref 35]) rfl (Nat.le_of_ble_eq_true rfl) (dOk_at dt_X7_init 11 rfl) (fun h_2 _ => ?_)
  refine j_putRc (n := 49) hC hin flX7_23 (fun q hq _ => by cases hq; rfl) (show shp 35 = (7, 20) from rfl) (Nat.le_of_ble_eq_true rfl) (by decide) (by decide) (Or.inl ⟨_, rfl⟩) (dOk_at dt_X7_init 12 rfl) ?_
  refine j_aload_n hC 0 rfl rfl (dOk_at dt_X7_init 13 rfl) ?_
  refine j_iconst hC (v := (5 : Int32)) rfl (dOk_at dt_X7_init 14 rfl) ?_
  refine j_newaI (atype := .int) (n := 49) (t := 1) (ty := .int) (N := 5) hC aw_int rfl rfl (fun C q => by cases q) (show shp 49 = (20 + 1, 5) from rfl) rfl (by decide) (by decide +kernel) (by decide +kernel) (Nat.le_of_ble_eq_true rfl) (by omega) ⟨Nat.le_of_ble_eq_true rfl, Nat.le_of_ble_eq_true rfl⟩ (dOk_at dt_X7_init 15 rfl) ?_
  refine j_putRc (n := 50) hC hin flX7_27 (fun q hq _ => by cases hq; rfl) (show shp 35 = (7, 20) from rfl) (Nat.le_of_ble_eq_true rfl) (by decide) (by decide) (Or.inr ⟨_, rfl⟩) (dOk_at dt_X7_init 16 rfl) ?_
  refine j_aload_n hC 0 rfl rfl (dOk_at dt_X7_init 17 rfl) ?_
  refine j_iconst hC (v := (5 : Int32)) rfl (dOk_at dt_X7_init 18 rfl) ?_
  refine j_newaI (atype := .int) (n := 50) (t := 1) (ty := .int) (N := 5) hC aw_int rfl rfl (fun C q => by cases q) (show shp 50 = (20 + 1, 5) from rfl) rfl (by decide) (by decide +kernel) (by decide +kernel) (Nat.le_of_ble_eq_true rfl) (by omega) ⟨Nat.le_of_ble_eq_true rfl, Nat.le_of_ble_eq_true rfl⟩ (dOk_at dt_X7_init 19 rfl) ?_
  refine j_putRc (n := 51) hC hin flX7_31 (fun q hq _ => by cases hq; rfl) (show shp 35 = (7, 20) from rfl) (Nat.le_of_ble_eq_true rfl) (by decide) (by decide) (Or.inr ⟨_, rfl⟩) (dOk_at dt_X7_init 20 rfl) ?_
  refine j_aload_n hC 0 rfl rfl (dOk_at dt_X7_init 21 rfl) ?_
  refine j_new (n := 51) hC nwX7_18 rfl (show shp 51 = (6, 3) from rfl) (by decide) (by decide) (by omega) ⟨Nat.le_of_ble_eq_true rfl, Nat.le_of_ble_eq_true rfl⟩ (dOk_at dt_X7_init 22 rfl) ?_
  refine j_dupr hC (dOk_at dt_X7_init 23 rfl) ?_
  refine j_iconst hC (v := (5 : Int32)) rfl (dOk_at dt_X7_init 24 rfl) ?_
  refine j_callC (n := 52) hC ciX7_20 (fun r0 hr0 => c_X6_init_51 _ r0 hr0) rfl ⟨Nat.le_of_ble_eq_true rfl, Nat.le_of_ble_eq_true rfl⟩ ⟨Nat.le_of_ble_eq_true rfl, Nat.le_of_ble_eq_true rfl⟩ (by omega) (As := [.int (5 : Int32)]) (st := [.ref 51, .ref 35]) rfl (Nat.le_of_ble_eq_true rfl) (dOk_at dt_X7_init 25 rfl) (fun h_3 _ => ?_)
  refine j_putRc (n := 53) hC hin flX7_34 (fun q hq _ => by cases hq; rfl) (show shp 35 = (7, 20) from rfl) (Nat.le_of_ble_eq_true rfl) (by decide) (by decide) (Or.inl ⟨_, rfl⟩) (dOk_at dt_X7_init 26 rfl) ?_
  refine j_aload_n hC 0 rfl rfl (dOk_at dt_X7_init 27 rfl) ?_
  refine j_iconst hC (v := (5 : Int32)) rfl (dOk_at dt_X7_init 28 rfl) ?_
  refine j_newaI (atype := .int) (n := 53) (t := 1) (ty := .int) (N := 5) hC aw_int rfl rfl (fun C q => by cases q) (show shp 53 = (20 + 1, 5) from rfl) rfl (by decide) (by decide +kernel) (by decide +kernel) (Nat.le_of_ble_eq_true rfl) (by omega) ⟨Nat.le_of_ble_eq_true rfl, Nat.le_of_ble_eq_true rfl⟩ (dOk_at dt_X7_init 29 rfl) ?_
  refine j_putRc (n := 54) hC hin flX7_37 (fun q hq _ => by cases hq; rfl) (show shp 35 = (7, 20) from rfl) (Nat.le_of_ble_eq_true rfl) (by decide) (by decide) (Or.inr ⟨_, rfl⟩) (dOk_at dt_X7_init 30 rfl) ?_
  refine j_aload_n hC 0 rfl rfl (dOk_at dt_X7_init 31 rfl) ?_
  refine j_iconst hC (v := (0 : Int32)) rfl (dOk_at dt_X7_init 32 rfl) ?_
  refine j_putIc (n := 54) hC hin flX7_40 (fun q hq _ => by cases hq; rfl) (show shp 35 = (7, 20) from rfl) (Nat.le_of_ble_eq_true rfl) (by decide) (by decide) rfl (dOk_at dt_X7_init 33 rfl) ?_
  refine j_aload_n hC 0 rfl rfl (dOk_at dt_X7_init 34 rfl) ?_
  refine j_bipush hC (v := (12 : Int32)) rfl (dOk_at dt_X7_init 35 rfl) ?_
  refine j_newaI (atype := .int) (n := 54) (t := 1) (ty := .int) (N := 12) hC aw_int rfl rfl (fun C q => by cases q) (show shp 54 = (20 + 1, 12) from rfl) rfl (by decide) (by decide +kernel) (by decide +kernel) (Nat.le_of_ble_eq_true rfl) (by omega) ⟨Nat.le_of_ble_eq_true rfl, Nat.le_of_ble_eq_true rfl⟩ (dOk_at dt_X7_init 36 rfl) ?_
  refine j_putRc (n := 55) hC hin flX7_44 (fun q hq _ => by cases hq; rfl) (show shp 35 = (7, 20) from rfl) (Nat.le_of_ble_eq_true rfl) (by decide) (by decide) (Or.inr ⟨_, rfl⟩) (dOk_at dt_X7_init 37 rfl) ?_
  refine j_aload_n hC 0 rfl rfl (dOk_at dt_X7_init 38 rfl) ?_
  refine j_bipush hC (v := (12 : Int32)) rfl (dOk_at dt_X7_init 39 rfl) ?_
  refine j_newaI (atype := .int) (n := 55) (t := 1) (ty := .int) (N := 12) hC aw_int rfl rfl (fun C q => by cases q) (show shp 55 = (20 + 1, 12) from rfl) rfl (by decide) (by decide +kernel) (by decide +kernel) (Nat.le_of_ble_eq_true rfl) (by omega) ⟨Nat.le_of_ble_eq_true rfl, Nat.le_of_ble_eq_true rfl⟩ (dOk_at dt_X7_init 40 rfl) ?_
  refine j_putRc (n := 56) hC hin flX7_47 (fun q hq _ => by cases hq; rfl) (show shp 35 = (7, 20) from rfl) (Nat.le_of_ble_eq_true rfl) (by decide) (by decide) (Or.inr ⟨_, rfl⟩) (dOk_at dt_X7_init 41 rfl) ?_
  refine j_aload_n hC 0 rfl rfl (dOk_at dt_X7_init 42 rfl) ?_
  refine j_bipush hC (v := (12 : Int32)) rfl (dOk_at dt_X7_init 43 rfl) ?_
  refine j_newaI (atype := .int) (n := 56) (t := 1) (ty := .int) (N := 12) hC aw_int rfl rfl (fun C q => by cases q) (show shp 56 = (20 + 1, 12) from rfl) rfl (by decide) (by decide +kernel) (by decide +kernel) (Nat.le_of_ble_eq_true rfl) (by omega) ⟨Nat.le_of_ble_eq_true rfl, Nat.le_of_ble_eq_true rfl⟩ (dOk_at dt_X7_init 44 rfl) ?_
  refine j_putRc (n := 57) hC hin flX7_50 (fun q hq _ => by cases hq; rfl) (show shp 35 = (7, 20) from rfl) (Nat.le_of_ble_eq_true rfl) (by decide) (by decide) (Or.inr ⟨_, rfl⟩) (dOk_at dt_X7_init 45 rfl) ?_
  refine j_aload_n hC 0 rfl rfl (dOk_at dt_X7_init 46 rfl) ?_
  refine j_iconst hC (v := (0 : Int32)) rfl (dOk_at dt_X7_init 47 rfl) ?_
  refine j_putIc (n := 57) hC hin flX7_53 (fun q hq _ => by cases hq; rfl) (show shp 35 = (7, 20) from rfl) (Nat.le_of_ble_eq_true rfl) (by decide) (by decide) rfl (dOk_at dt_X7_init 48 rfl) ?_
  refine j_aload_n hC 0 rfl rfl (dOk_at dt_X7_init 49 rfl) ?_
  refine j_bipush hC (v := (6 : Int32)) rfl (dOk_at dt_X7_init 50 rfl) ?_
  refine j_newaI (atype := .int) (n := 57) (t := 1) (ty := .int) (N := 6) hC aw_int rfl rfl (fun C q => by cases q) (show shp 57 = (20 + 1, 6) from rfl) rfl (by decide) (by decide +kernel) (by decide +kernel) (Nat.le_of_ble_eq_true rfl) (by omega) ⟨Nat.le_of_ble_eq_true rfl, Nat.le_of_ble_eq_true rfl⟩ (dOk_at dt_X7_init 51 rfl) ?_
  refine j_putRc (n := 58) hC hin flX7_56 (fun q hq _ => by cases hq; rfl) (show shp 35 = (7, 20) from rfl) (Nat.le_of_ble_eq_true rfl) (by decide) (by decide) (Or.inr ⟨_, rfl⟩) (dOk_at dt_X7_init 52 rfl) ?_
  refine j_aload_n hC 0 rfl rfl (dOk_at dt_X7_init 53 rfl) ?_
  refine j_bipush hC (v := (6 : Int32)) rfl (dOk_at dt_X7_init 54 rfl) ?_
  refine j_newaI (atype := .int) (n := 58) (t := 1) (ty := .int) (N := 6) hC aw_int rfl rfl (fun C q => by cases q) (show shp 58 = (20 + 1, 6) from rfl) rfl (by decide) (by decide +kernel) (by decide +kernel) (Nat.le_of_ble_eq_true rfl) (by omega) ⟨Nat.le_of_ble_eq_true rfl, Nat.le_of_ble_eq_true rfl⟩ (dOk_at dt_X7_init 55 rfl) ?_
  refine j_putRc (n := 59) hC hin flX7_59 (fun q hq _ => by cases hq; rfl) (show shp 35 = (7, 20) from rfl) (Nat.le_of_ble_eq_true rfl) (by decide) (by decide) (Or.inr ⟨_, rfl⟩) (dOk_at dt_X7_init 56 rfl) ?_
  refine j_aload_n hC 0 rfl rfl (dOk_at dt_X7_init 57 rfl) ?_
  refine j_iconst hC (v := (0 : Int32)) rfl (dOk_at dt_X7_init 58 rfl) ?_
  refine j_putIc (n := 59) hC hin flX7_62 (fun q hq _ => by cases hq; rfl) (show shp 35 = (7, 20) from rfl) (Nat.le_of_ble_eq_true rfl) (by decide) (by decide) rfl (dOk_at dt_X7_init 59 rfl) ?_
  refine j_aload_n hC 0 rfl rfl (dOk_at dt_X7_init 60 rfl) ?_
  refine j_iconst hC (v := (0 : Int32)) rfl (dOk_at dt_X7_init 61 rfl) ?_
  refine j_putZc (n := 59) hC hin flX7_65 (fun q hq _ => by cases hq; rfl) (show shp 35 = (7, 20) from rfl) (Nat.le_of_ble_eq_true rfl) (by decide) (by decide) rfl rfl (dOk_at dt_X7_init 62 rfl) ?_
  refine j_aload_n hC 0 rfl rfl (dOk_at dt_X7_init 63 rfl) ?_
  refine j_iconst hC (v := (0 : Int32)) rfl (dOk_at dt_X7_init 64 rfl) ?_
  refine j_putIc (n := 59) hC hin flX7_69 (fun q hq _ => by cases hq; rfl) (show shp 35 = (7, 20) from rfl) (Nat.le_of_ble_eq_true rfl) (by decide) (by decide) rfl (dOk_at dt_X7_init 65 rfl) ?_
  refine j_aload_n hC 0 rfl rfl (dOk_at dt_X7_init 66 rfl) ?_
  refine j_iconst hC (v := (0 : Int32)) rfl (dOk_at dt_X7_init 67 rfl) ?_
  refine j_putZc (n := 59) hC hin flX7_72 (fun q hq _ => by cases hq; rfl) (show shp 35 = (7, 20) from rfl) (Nat.le_of_ble_eq_true rfl) (by decide) (by decide) rfl rfl (dOk_at dt_X7_init 68 rfl) ?_
  refine j_aload_n hC 0 rfl rfl (dOk_at dt_X7_init 69 rfl) ?_
  refine j_iconst hC (v := (3 : Int32)) rfl (dOk_at dt_X7_init 70 rfl) ?_
  refine j_newaR (n := 59) (N := 3) hC nlX7_75 hAO (show shp 59 = (24, 3) from rfl) (by decide) (by decide +kernel) (Nat.le_of_ble_eq_true rfl) (by omega) ⟨Nat.le_of_ble_eq_true rfl, Nat.le_of_ble_eq_true rfl⟩ (dOk_at dt_X7_init 71 rfl) ?_
  refine j_putRc (n := 60) hC hin flX7_77 (fun q hq _ => by cases hq; rfl) (show shp 35 = (7, 20) from rfl) (Nat.le_of_ble_eq_true rfl) (by decide) (by decide) (Or.inr ⟨_, rfl⟩) (dOk_at dt_X7_init 72 rfl) ?_
  refine j_iconst hC (v := (0 : Int32)) rfl (dOk_at dt_X7_init 73 rfl) ?_
  refine j_istore_n hC rfl (lv' := [(1, .int (0 : Int32)), (0, .ref 35)]) (by decide) rfl (dOk_at dt_X7_init 74 rfl) ?_
  refine j_iload_n hC 0 rfl rfl (dOk_at dt_X7_init 75 rfl) ?_
  refine j_iconst hC (v := (3 : Int32)) rfl (dOk_at dt_X7_init 76 rfl) ?_
  refine j_icmp_geF hC (by decide) (tgt := 164) (by decide) (dOk_at dt_X7_init 77 rfl) ?_
  refine j_aload_n hC 1 rfl rfl (dOk_at dt_X7_init 78 rfl) ?_
  refine j_getE (n := 60) (x := 59) hC flX7_77 (show shp 35 = (7, 20) from rfl) (Nat.le_of_ble_eq_true rfl) (by decide) (by decide) (fun _ _ _ => rfl) (dOk_at dt_X7_init 79 rfl) ?_
  refine j_iload_n hC 0 rfl rfl (dOk_at dt_X7_init 80 rfl) ?_
  refine j_new (n := 60) hC nwX7_75 rfl (show shp 60 = (1, 4) from rfl) (by decide) (by decide) (by omega) ⟨Nat.le_of_ble_eq_true rfl, Nat.le_of_ble_eq_true rfl⟩ (dOk_at dt_X7_init 81 rfl) ?_
  refine j_dupr hC (dOk_at dt_X7_init 82 rfl) ?_
  refine j_callC (n := 61) hC ciX7_81 (fun r0 hr0 => c_X1_init_60 _ r0 hr0) rfl ⟨Nat.le_of_ble_eq_true rfl, Nat.le_of_ble_eq_true rfl⟩ ⟨Nat.le_of_ble_eq_true rfl, Nat.le_of_ble_eq_true rfl⟩ (by omega) (As := []) (st := [.ref 60, .int (0 : Int32), .ref 59]) rfl (Nat.le_of_ble_eq_true rfl) (dOk_at dt_X7_init 83 rfl) (fun h_4 _ => ?_)
  refine j_aastc (n := 63) hC (show shp 59 = (24, 3) from rfl) (Nat.le_of_ble_eq_true rfl) (show shp 60 = (1, 4) from rfl) (Nat.le_of_ble_eq_true rfl) (by decide +kernel) (dOk_at dt_X7_init 84 rfl) ?_
  refine j_iinc hC (v := (1 : Int32)) (lv' := [(1, .int (1 : Int32)), (0, .ref 35)]) 0 rfl (by decide) (by decide) rfl (dOk_at dt_X7_init 85 rfl) ?_
  refine j_goto hC (tgt := 140) (by decide) (dOk_at dt_X7_init 86 rfl) ?_
  refine j_iload_n hC 0 rfl rfl (dOk_at dt_X7_init 75 rfl) ?_
  refine j_iconst hC (v := (3 : Int32)) rfl (dOk_at dt_X7_init 76 rfl) ?_
  refine j_icmp_geF hC (by decide) (tgt := 164) (by decide) (dOk_at dt_X7_init 77 rfl) ?_
  refine j_aload_n hC 1 rfl rfl (dOk_at dt_X7_init 78 rfl) ?_
  refine j_getE (n := 63) (x := 59) hC flX7_77 (show shp 35 = (7, 20) from rfl) (Nat.le_of_ble_eq_true rfl) (by decide) (by decide) (fun _ _ _ => rfl) (dOk_at dt_X7_init 79 rfl) ?_
  refine j_iload_n hC 0 rfl rfl (dOk_at dt_X7_init 80 rfl) ?_
  refine j_new (n := 63) hC nwX7_75 rfl (show shp 63 = (1, 4) from rfl) (by decide) (by decide) (by omega) ⟨Nat.le_of_ble_eq_true rfl, Nat.le_of_ble_eq_true rfl⟩ (dOk_at dt_X7_init 81 rfl) ?_
  refine j_dupr hC (dOk_at dt_X7_init 82 rfl) ?_
  refine j_callC (n := 64) hC ciX7_81 (fun r0 hr0 => c_X1_init_63 _ r0 hr0) rfl ⟨Nat.le_of_ble_eq_true rfl, Nat.le_of_ble_eq_true rfl⟩ ⟨Nat.le_of_ble_eq_true rfl, Nat.le_of_ble_eq_true rfl⟩ (by omega) (As := []) (st := [.ref 63, .int (1 : Int32), .ref 59]) rfl (Nat.le_of_ble_eq_true rfl) (dOk_at dt_X7_init 83 rfl) (fun h_5 _ => ?_)
  refine j_aastc (n := 66) hC (show shp 59 = (24, 3) from rfl) (Nat.le_of_ble_eq_true rfl) (show shp 63 = (1, 4) from rfl) (Nat.le_of_ble_eq_true rfl) (by decide +kernel) (dOk_at dt_X7_init 84 rfl) ?_
  refine j_iinc hC (v := (2 : Int32)) (lv' := [(1, .int (2 : Int32)), (0, .ref 35)]) 0 rfl (by decide) (by decide) rfl (dOk_at dt_X7_init 85 rfl) ?_
  refine j_goto hC (tgt := 140) (by decide) (dOk_at dt_X7_init 86 rfl) ?_
  refine j_iload_n hC 0 rfl rfl (dOk_at dt_X7_init 75 rfl) ?_
  refine j_iconst hC (v := (3 : Int32)) rfl (dOk_at dt_X7_init 76 rfl) ?_
  refine j_icmp_geF hC (by decide) (tgt := 164) (by decide) (dOk_at dt_X7_init 77 rfl) ?_
  refine j_aload_n hC 1 rfl rfl (dOk_at dt_X7_init 78 rfl) ?_
  refine j_getE (n := 66) (x := 59) hC flX7_77 (show shp 35 = (7, 20) from rfl) (Nat.le_of_ble_eq_true rfl) (by decide) (by decide) (fun _ _ _ => rfl) (dOk_at dt_X7_init 79 rfl) ?_
  refine j_iload_n hC 0 rfl rfl (dOk_at dt_X7_init 80 rfl) ?_
  refine j_new (n := 66) hC nwX7_75 rfl (show shp 66 = (1, 4) from rfl) (by decide) (by decide) (by omega) ⟨Nat.le_of_ble_eq_true rfl, Nat.le_of_ble_eq_true rfl⟩ (dOk_at dt_X7_init 81 rfl) ?_
  refine j_dupr hC (dOk_at dt_X7_init 82 rfl) ?_
  refine j_callC (n := 67) hC ciX7_81 (fun r0 hr0 => c_X1_init_66 _ r0 hr0) rfl ⟨Nat.le_of_ble_eq_true rfl, Nat.le_of_ble_eq_true rfl⟩ ⟨Nat.le_of_ble_eq_true rfl, Nat.le_of_ble_eq_true rfl⟩ (by omega) (As := []) (st := [.ref 66, .int (2 : Int32), .ref 59]) rfl (Nat.le_of_ble_eq_true rfl) (dOk_at dt_X7_init 83 rfl) (fun h_6 _ => ?_)
  refine j_aastc (n := 69) hC (show shp 59 = (24, 3) from rfl) (Nat.le_of_ble_eq_true rfl) (show shp 66 = (1, 4) from rfl) (Nat.le_of_ble_eq_true rfl) (by decide +kernel) (dOk_at dt_X7_init 84 rfl) ?_
  refine j_iinc hC (v := (3 : Int32)) (lv' := [(1, .int (3 : Int32)), (0, .ref 35)]) 0 rfl (by decide) (by decide) rfl (dOk_at dt_X7_init 85 rfl) ?_
  refine j_goto hC (tgt := 140) (by decide) (dOk_at dt_X7_init 86 rfl) ?_
  refine j_iload_n hC 0 rfl rfl (dOk_at dt_X7_init 75 rfl) ?_
  refine j_iconst hC (v := (3 : Int32)) rfl (dOk_at dt_X7_init 76 rfl) ?_
  refine j_icmp_geT hC (by decide) (tgt := 164) (by decide) (dOk_at dt_X7_init 77 rfl) ?_
  refine j_aload_n hC 1 rfl rfl (dOk_at dt_X7_init 87 rfl) ?_
  refine j_iconst hC (v := (0 : Int32)) rfl (dOk_at dt_X7_init 88 rfl) ?_
  refine j_putIc (n := 69) hC hin flX7_82 (fun q hq _ => by cases hq; rfl) (show shp 35 = (7, 20) from rfl) (Nat.le_of_ble_eq_true rfl) (by decide) (by decide) rfl (dOk_at dt_X7_init 89 rfl) ?_
  refine j_aload_n hC 1 rfl rfl (dOk_at dt_X7_init 90 rfl) ?_
  refine j_iconst hC (v := (0 : Int32)) rfl (dOk_at dt_X7_init 91 rfl) ?_
  refine j_putIc (n := 69) hC hin flX7_85 (fun q hq _ => by cases hq; rfl) (show shp 35 = (7, 20) from rfl) (Nat.le_of_ble_eq_true rfl) (by decide) (by decide) rfl (dOk_at dt_X7_init 92 rfl) ?_
  exact j_vretc hC hret (dOk_at dt_X7_init 93 rfl)
def tb_X5_init : List (Nat × Instr × Nat) := [(0, .aload_n 0, 1), (1, .invokespecial 3, 3), (4, .aload_n 0, 1), (5, .sipush 700, 3), (8, .newarray .byte, 2), (10, .putfield 9, 3), (13, .aload_n 0, 1), (14, .iconst 0, 1), (15, .putfield 15, 3), (18, .aload_n 0, 1), (19, .aload_n 1, 1), (20, .putfield 19, 3), (23, .aload_n 0, 1), (24, .aload_n 1, 1), (25, .getfield 23, 3), (28, .iconst 0, 1), (29, .aaload, 1), (30, .putfield 29, 3), (33, .aload_n 0, 1), (34, .bipush 23, 2), (36, .newarray .int, 2), (38, .putfield 33, 3), (41, .iconst 0, 1), (42, .istore_n 2, 1), (43, .iload_n 2, 1), (44, .bipush 23, 2), (46, .if_icmp .ge 22, 3), (49, .aload_n 0, 1), (50, .getfield 33, 3), (53, .iload_n 2, 1), (54, .iload_n 2, 1), (55, .bipush 6, 2), (57, .imul, 1), (58, .invokestatic 37, 3), (61, .iastore, 1), (62, .iinc 2 1, 3), (65, .goto (-22), 3), (68, .aload_n 0, 1), (69, .iconst (-1), 1), (70, .putfield 41, 3), (73, .return_, 1)]
theorem dt_X5_init : dOk cX5_init tb_X5_init = true := by decide +kernel
def fX5_init_69 (h : Hp) : Option Hp := if hR (uR (uI (uR h 69 0 (some 70)) 69 1 (0 : Int32)) 69 4 (some 35)) 35 17 = some 59 then (if hR (uR (uI (uR h 69 0 (some 70)) 69 1 (0 : Int32)) 69 4 (some 35)) 59 (Int32.toNatClampNeg (0 : Int32)) = some 60 then (if hR (uR (uR (uR (uI (uR h 69 0 (some 70)) 69 1 (0 : Int32)) 69 4 (some 35)) 69 5 (some 60)) 69 2 (some 71)) 69 2 = some 71 then (bnd (fX5_packed (uR (uR (uR (uI (uR h 69 0 (some 70)) 69 1 (0 : Int32)) 69 4 (some 35)) 69 5 (some 60)) 69 2 (some 71)) ((0 : Int32) * (6 : Int32))) (fun v_1 h_2 => if hR (uI h_2 71 (Int32.toNatClampNeg (0 : Int32)) v_1) 69 2 = some 71 then (bnd (fX5_packed (uI h_2 71 (Int32.toNatClampNeg (0 : Int32)) v_1) ((1 : Int32) * (6 : Int32))) (fun v_3 h_4 => if hR (uI h_4 71 (Int32.toNatClampNeg (1 : Int32)) v_3) 69 2 = some 71 then (bnd (fX5_packed (uI h_4 71 (Int32.toNatClampNeg (1 : Int32)) v_3) ((2 : Int32) * (6 : Int32))) (fun v_5 h_6 => if hR (uI h_6 71 (Int32.toNatClampNeg (2 : Int32)) v_5) 69 2 = some 71 then (bnd (fX5_packed (uI h_6 71 (Int32.toNatClampNeg (2 : Int32)) v_5) ((3 : Int32) * (6 : Int32))) (fun v_7 h_8 => if hR (uI h_8 71 (Int32.toNatClampNeg (3 : Int32)) v_7) 69 2 = some 71 then (bnd (fX5_packed (uI h_8 71 (Int32.toNatClampNeg (3 : Int32)) v_7) ((4 : Int32) * (6 : Int32))) (fun v_9 h_10 => if hR (uI h_10 71 (Int32.toNatClampNeg (4 : Int32)) v_9) 69 2 = some 71 then (bnd (fX5_packed (uI h_10 71 (Int32.toNatClampNeg (4 : Int32)) v_9) ((5 : Int32) * (6 : Int32))) (fun v_11 h_12 => if hR (uI h_12 71 (Int32.toNatClampNeg (5 : Int32)) v_11) 69 2 = some 71 then (bnd (fX5_packed (uI h_12 71 (Int32.toNatClampNeg (5 : Int32)) v_11) ((6 : Int32) * (6 : Int32))) (fun v_13 h_14 => if hR (uI h_14 71 (Int32.toNatClampNeg (6 : Int32)) v_13) 69 2 = some 71 then (bnd (fX5_packed (uI h_14 71 (Int32.toNatClampNeg (6 : Int32)) v_13) ((7 : Int32) * (6 : Int32))) (fun v_15 h_16 => if hR (uI h_16 71 (Int32.toNatClampNeg (7 : Int32)) v_15) 69 2 = some 71 then (bnd (fX5_packed (uI h_16 71 (Int32.toNatClampNeg (7 : Int32)) v_15) ((8 : Int32) * (6 : Int32))) (fun v_17 h_18 => if hR (uI h_18 71 (Int32.toNatClampNeg (8 : Int32)) v_17) 69 2 = some 71 then (bnd (fX5_packed (uI h_18 71 (Int32.toNatClampNeg (8 : Int32)) v_17) ((9 : Int32) * (6 : Int32))) (fun v_19 h_20 => if hR (uI h_20 71 (Int32.toNatClampNeg (9 : Int32)) v_19) 69 2 = some 71 then (bnd (fX5_packed (uI h_20 71 (Int32.toNatClampNeg (9 : Int32)) v_19) ((10 : Int32) * (6 : Int32))) (fun v_21 h_22 => if hR (uI h_22 71 (Int32.toNatClampNeg (10 : Int32)) v_21) 69 2 = some 71 then (bnd (fX5_packed (uI h_22 71 (Int32.toNatClampNeg (10 : Int32)) v_21) ((11 : Int32) * (6 : Int32))) (fun v_23 h_24 => if hR (uI h_24 71 (Int32.toNatClampNeg (11 : Int32)) v_23) 69 2 = some 71 then (bnd (fX5_packed (uI h_24 71 (Int32.toNatClampNeg (11 : Int32)) v_23) ((12 : Int32) * (6 : Int32))) (fun v_25 h_26 => if hR (uI h_26 71 (Int32.toNatClampNeg (12 : Int32)) v_25) 69 2 = some 71 then (bnd (fX5_packed (uI h_26 71 (Int32.toNatClampNeg (12 : Int32)) v_25) ((13 : Int32) * (6 : Int32))) (fun v_27 h_28 => if hR (uI h_28 71 (Int32.toNatClampNeg (13 : Int32)) v_27) 69 2 = some 71 then (bnd (fX5_packed (uI h_28 71 (Int32.toNatClampNeg (13 : Int32)) v_27) ((14 : Int32) * (6 : Int32))) (fun v_29 h_30 => if hR (uI h_30 71 (Int32.toNatClampNeg (14 : Int32)) v_29) 69 2 = some 71 then (bnd (fX5_packed (uI h_30 71 (Int32.toNatClampNeg (14 : Int32)) v_29) ((15 : Int32) * (6 : Int32))) (fun v_31 h_32 => if hR (uI h_32 71 (Int32.toNatClampNeg (15 : Int32)) v_31) 69 2 = some 71 then (bnd (fX5_packed (uI h_32 71 (Int32.toNatClampNeg (15 : Int32)) v_31) ((16 : Int32) * (6 : Int32))) (fun v_33 h_34 => if hR (uI h_34 71 (Int32.toNatClampNeg (16 : Int32)) v_33) 69 2 = some 71 then (bnd (fX5_packed (uI h_34 71 (Int32.toNatClampNeg (16 : Int32)) v_33) ((17 : Int32) * (6 : Int32))) (fun v_35 h_36 => if hR (uI h_36 71 (Int32.toNatClampNeg (17 : Int32)) v_35) 69 2 = some 71 then (bnd (fX5_packed (uI h_36 71 (Int32.toNatClampNeg (17 : Int32)) v_35) ((18 : Int32) * (6 : Int32))) (fun v_37 h_38 => if hR (uI h_38 71 (Int32.toNatClampNeg (18 : Int32)) v_37) 69 2 = some 71 then (bnd (fX5_packed (uI h_38 71 (Int32.toNatClampNeg (18 : Int32)) v_37) ((19 : Int32) * (6 : Int32))) (fun v_39 h_40 => if hR (uI h_40 71 (Int32.toNatClampNeg (19 : Int32)) v_39) 69 2 = some 71 then (bnd (fX5_packed (uI h_40 71 (Int32.toNatClampNeg (19 : Int32)) v_39) ((20 : Int32) * (6 : Int32))) (fun v_41 h_42 => if hR (uI h_42 71 (Int32.toNatClampNeg (20 : Int32)) v_41) 69 2 = some 71 then (bnd (fX5_packed (uI h_42 71 (Int32.toNatClampNeg (20 : Int32)) v_41) ((21 : Int32) * (6 : Int32))) (fun v_43 h_44 => if hR (uI h_44 71 (Int32.toNatClampNeg (21 : Int32)) v_43) 69 2 = some 71 then (bnd (fX5_packed (uI h_44 71 (Int32.toNatClampNeg (21 : Int32)) v_43) ((22 : Int32) * (6 : Int32))) (fun v_45 h_46 => some (uI (uI h_46 71 (Int32.toNatClampNeg (22 : Int32)) v_45) 69 15 (-1 : Int32)))) else none)) else none)) else none)) else none)) else none)) else none)) else none)) else none)) else none)) else none)) else none)) else none)) else none)) else none)) else none)) else none)) else none)) else none)) else none)) else none)) else none)) else none)) else none) else none) else none
set_option maxRecDepth 100000 in
set_option maxHeartbeats 8000000 in
theorem c_X5_init_69 {l : Launch} {sb : State} {D : va_G} {ids : Nat → ClassId} (hW : jS sb) (h r : Hp) (hr : fX5_init_69 h = some r) : jMc l yX5_init cX5_init 3 6 sb D ids shp 70 2 723 [.ref 69, .ref 35] h (jQc sb D ids shp 72 r) := by
  refine jMc_of (Qc := fun r => jQc sb D ids shp 72 r) hr rfl rfl (Nat.le_of_ble_eq_true rfl) ?_
  intro p e s m args below meth c hC hret hin hs0
  unfold fX5_init_69
  refine j_aload_n hC 0 rfl rfl (dOk_at dt_X5_init 0 rfl) ?_
  refine j_objInit hC oiX5_3 ⟨Nat.le_of_ble_eq_true rfl, Nat.le_of_ble_eq_true rfl⟩ (Nat.le_of_ble_eq_true rfl) (dOk_at dt_X5_init 1 rfl) ?_
  refine j_aload_n hC 0 rfl rfl (dOk_at dt_X5_init 2 rfl) ?_
  refine j_sipush hC (v := (700 : Int32)) rfl (dOk_at dt_X5_init 3 rfl) ?_
  refine j_newaI (atype := .byte) (n := 70) (t := 0) (ty := .byte) (N := 700) hC aw_byte rfl rfl (fun C q => by cases q) (show shp 70 = (20 + 0, 700) from rfl) rfl (by decide) (by decide +kernel) (by decide +kernel) (Nat.le_of_ble_eq_true rfl) (by omega) ⟨Nat.le_of_ble_eq_true rfl, Nat.le_of_ble_eq_true rfl⟩ (dOk_at dt_X5_init 4 rfl) ?_
  refine j_putRc (n := 71) hC hin flX5_9 (fun q hq _ => by cases hq; rfl) (show shp 69 = (5, 16) from rfl) (Nat.le_of_ble_eq_true rfl) (by decide) (by decide) (Or.inr ⟨_, rfl⟩) (dOk_at dt_X5_init 5 rfl) ?_
  refine j_aload_n hC 0 rfl rfl (dOk_at dt_X5_init 6 rfl) ?_
  refine j_iconst hC (v := (0 : Int32)) rfl (dOk_at dt_X5_init 7 rfl) ?_
  refine j_putIc (n := 71) hC hin flX5_15 (fun q hq _ => by cases hq; rfl) (show shp 69 = (5, 16) from rfl) (Nat.le_of_ble_eq_true rfl) (by decide) (by decide) rfl (dOk_at dt_X5_init 8 rfl) ?_
  refine j_aload_n hC 0 rfl rfl (dOk_at dt_X5_init 9 rfl) ?_
  refine j_aload_n hC 1 rfl rfl (dOk_at dt_X5_init 10 rfl) ?_
  refine j_putRc (n := 71) hC hin flX5_19 (fun q hq _ => by cases hq; rfl) (show shp 69 = (5, 16) from rfl) (Nat.le_of_ble_eq_true rfl) (by decide) (by decide) (Or.inl ⟨_, rfl⟩) (dOk_at dt_X5_init 11 rfl) ?_
  refine j_aload_n hC 0 rfl rfl (dOk_at dt_X5_init 12 rfl) ?_
  refine j_aload_n hC 1 rfl rfl (dOk_at dt_X5_init 13 rfl) ?_
  refine j_getE (n := 71) (x := 59) hC flX5_23 (show shp 35 = (7, 20) from rfl) (Nat.le_of_ble_eq_true rfl) (by decide) (by decide) (fun _ _ _ => rfl) (dOk_at dt_X5_init 14 rfl) ?_
  refine j_iconst hC (v := (0 : Int32)) rfl (dOk_at dt_X5_init 15 rfl) ?_
  refine j_aaldE (n := 71) (x := 60) hC (show shp 59 = (24, 3) from rfl) (Nat.le_of_ble_eq_true rfl) (by decide +kernel) (dOk_at dt_X5_init 16 rfl) ?_
  refine j_putRc (n := 71) hC hin flX5_29 (fun q hq _ => by cases hq; rfl) (show shp 69 = (5, 16) from rfl) (Nat.le_of_ble_eq_true rfl) (by decide) (by decide) (Or.inl ⟨_, rfl⟩) (dOk_at dt_X5_init 17 rfl) ?_
  refine j_aload_n hC 0 rfl rfl (dOk_at dt_X5_init 18 rfl) ?_
  refine j_bipush hC (v := (23 : Int32)) rfl (dOk_at dt_X5_init 19 rfl) ?_
  refine j_newaI (atype := .int) (n := 71) (t := 1) (ty := .int) (N := 23) hC aw_int rfl rfl (fun C q => by cases q) (show shp 71 = (20 + 1, 23) from rfl) rfl (by decide) (by decide +kernel) (by decide +kernel) (Nat.le_of_ble_eq_true rfl) (by omega) ⟨Nat.le_of_ble_eq_true rfl, Nat.le_of_ble_eq_true rfl⟩ (dOk_at dt_X5_init 20 rfl) ?_
  refine j_putRc (n := 72) hC hin flX5_33 (fun q hq _ => by cases hq; rfl) (show shp 69 = (5, 16) from rfl) (Nat.le_of_ble_eq_true rfl) (by decide) (by decide) (Or.inr ⟨_, rfl⟩) (dOk_at dt_X5_init 21 rfl) ?_
  refine j_iconst hC (v := (0 : Int32)) rfl (dOk_at dt_X5_init 22 rfl) ?_
  refine j_istore_n hC rfl (lv' := [(2, .int (0 : Int32)), (0, .ref 69), (1, .ref 35)]) (by decide) rfl (dOk_at dt_X5_init 23 rfl) ?_
  refine j_iload_n hC 0 rfl rfl (dOk_at dt_X5_init 24 rfl) ?_
  refine j_bipush hC (v := (23 : Int32)) rfl (dOk_at dt_X5_init 25 rfl) ?_
  refine j_icmp_geF hC (by decide) (tgt := 68) (by decide) (dOk_at dt_X5_init 26 rfl) ?_
  refine j_aload_n hC 1 rfl rfl (dOk_at dt_X5_init 27 rfl) ?_
  refine j_getE (n := 72) (x := 71) hC flX5_33 (show shp 69 = (5, 16) from rfl) (Nat.le_of_ble_eq_true rfl) (by decide) (by decide) (fun _ _ _ => rfl) (dOk_at dt_X5_init 28 rfl) ?_
  refine j_iload_n hC 0 rfl rfl (dOk_at dt_X5_init 29 rfl) ?_
  refine j_iload_n hC 0 rfl rfl (dOk_at dt_X5_init 30 rfl) ?_
  refine j_bipush hC (v := (6 : Int32)) rfl (dOk_at dt_X5_init 31 rfl) ?_
  refine j_imul hC (dOk_at dt_X5_init 32 rfl) ?_
  refine j_callSi (n := 72) hC clX5_37 (fun r0 hr0 => c_X5_packed hW _ _ r0 hr0) rfl ⟨Nat.le_of_ble_eq_true rfl, Nat.le_of_ble_eq_true rfl⟩ ⟨Nat.le_of_ble_eq_true rfl, Nat.le_of_ble_eq_true rfl⟩ (As := [.int ((0 : Int32) * (6 : Int32))]) (st := [.int (0 : Int32), .ref 71]) rfl (Nat.le_of_ble_eq_true rfl) (dOk_at dt_X5_init 33 rfl) (fun v_1 h_2 _ => ?_)
  refine j_iastc (n := 72) hC (show shp 71 = (21, 23) from rfl) (Nat.le_of_ble_eq_true rfl) (by decide +kernel) (dOk_at dt_X5_init 34 rfl) ?_
  refine j_iinc hC (v := (1 : Int32)) (lv' := [(2, .int (1 : Int32)), (0, .ref 69), (1, .ref 35)]) 0 rfl (by decide) (by decide) rfl (dOk_at dt_X5_init 35 rfl) ?_
  refine j_goto hC (tgt := 43) (by decide) (dOk_at dt_X5_init 36 rfl) ?_
  refine j_iload_n hC 0 rfl rfl (dOk_at dt_X5_init 24 rfl) ?_
  refine j_bipush hC (v := (23 : Int32)) rfl (dOk_at dt_X5_init 25 rfl) ?_
  refine j_icmp_geF hC (by decide) (tgt := 68) (by decide) (dOk_at dt_X5_init 26 rfl) ?_
  refine j_aload_n hC 1 rfl rfl (dOk_at dt_X5_init 27 rfl) ?_
  refine j_getE (n := 72) (x := 71) hC flX5_33 (show shp 69 = (5, 16) from rfl) (Nat.le_of_ble_eq_true rfl) (by decide) (by decide) (fun _ _ _ => rfl) (dOk_at dt_X5_init 28 rfl) ?_
  refine j_iload_n hC 0 rfl rfl (dOk_at dt_X5_init 29 rfl) ?_
  refine j_iload_n hC 0 rfl rfl (dOk_at dt_X5_init 30 rfl) ?_
  refine j_bipush hC (v := (6 : Int32)) rfl (dOk_at dt_X5_init 31 rfl) ?_
  refine j_imul hC (dOk_at dt_X5_init 32 rfl) ?_
  refine j_callSi (n := 72) hC clX5_37 (fun r0 hr0 => c_X5_packed hW _ _ r0 hr0) rfl ⟨Nat.le_of_ble_eq_true rfl, Nat.le_of_ble_eq_true rfl⟩ ⟨Nat.le_of_ble_eq_true rfl, Nat.le_of_ble_eq_true rfl⟩ (As := [.int ((1 : Int32) * (6 : Int32))]) (st := [.int (1 : Int32), .ref 71]) rfl (Nat.le_of_ble_eq_true rfl) (dOk_at dt_X5_init 33 rfl) (fun v_3 h_4 _ => ?_)
  refine j_iastc (n := 72) hC (show shp 71 = (21, 23) from rfl) (Nat.le_of_ble_eq_true rfl) (by decide +kernel) (dOk_at dt_X5_init 34 rfl) ?_
  refine j_iinc hC (v := (2 : Int32)) (lv' := [(2, .int (2 : Int32)), (0, .ref 69), (1, .ref 35)]) 0 rfl (by decide) (by decide) rfl (dOk_at dt_X5_init 35 rfl) ?_
  refine j_goto hC (tgt := 43) (by decide) (dOk_at dt_X5_init 36 rfl) ?_
  refine j_iload_n hC 0 rfl rfl (dOk_at dt_X5_init 24 rfl) ?_
  refine j_bipush hC (v := (23 : Int32)) rfl (dOk_at dt_X5_init 25 rfl) ?_
  refine j_icmp_geF hC (by decide) (tgt := 68) (by decide) (dOk_at dt_X5_init 26 rfl) ?_
  refine j_aload_n hC 1 rfl rfl (dOk_at dt_X5_init 27 rfl) ?_
  refine j_getE (n := 72) (x := 71) hC flX5_33 (show shp 69 = (5, 16) from rfl) (Nat.le_of_ble_eq_true rfl) (by decide) (by decide) (fun _ _ _ => rfl) (dOk_at dt_X5_init 28 rfl) ?_
  refine j_iload_n hC 0 rfl rfl (dOk_at dt_X5_init 29 rfl) ?_
  refine j_iload_n hC 0 rfl rfl (dOk_at dt_X5_init 30 rfl) ?_
  refine j_bipush hC (v := (6 : Int32)) rfl (dOk_at dt_X5_init 31 rfl) ?_
  refine j_imul hC (dOk_at dt_X5_init 32 rfl) ?_
  refine j_callSi (n := 72) hC clX5_37 (fun r0 hr0 => c_X5_packed hW _ _ r0 hr0) rfl ⟨Nat.le_of_ble_eq_true rfl, Nat.le_of_ble_eq_true rfl⟩ ⟨Nat.le_of_ble_eq_true rfl, Nat.le_of_ble_eq_true rfl⟩ (As := [.int ((2 : Int32) * (6 : Int32))]) (st := [.int (2 : Int32), .ref 71]) rfl (Nat.le_of_ble_eq_true rfl) (dOk_at dt_X5_init 33 rfl) (fun v_5 h_6 _ => ?_)
  refine j_iastc (n := 72) hC (show shp 71 = (21, 23) from rfl) (Nat.le_of_ble_eq_true rfl) (by decide +kernel) (dOk_at dt_X5_init 34 rfl) ?_
  refine j_iinc hC (v := (3 : Int32)) (lv' := [(2, .int (3 : Int32)), (0, .ref 69), (1, .ref 35)]) 0 rfl (by decide) (by decide) rfl (dOk_at dt_X5_init 35 rfl) ?_
  refine j_goto hC (tgt := 43) (by decide) (dOk_at dt_X5_init 36 rfl) ?_
  refine j_iload_n hC 0 rfl rfl (dOk_at dt_X5_init 24 rfl) ?_
  refine j_bipush hC (v := (23 : Int32)) rfl (dOk_at dt_X5_init 25 rfl) ?_
  refine j_icmp_geF hC (by decide) (tgt := 68) (by decide) (dOk_at dt_X5_init 26 rfl) ?_
  refine j_aload_n hC 1 rfl rfl (dOk_at dt_X5_init 27 rfl) ?_
  refine j_getE (n := 72) (x := 71) hC flX5_33 (show shp 69 = (5, 16) from rfl) (Nat.le_of_ble_eq_true rfl) (by decide) (by decide) (fun _ _ _ => rfl) (dOk_at dt_X5_init 28 rfl) ?_
  refine j_iload_n hC 0 rfl rfl (dOk_at dt_X5_init 29 rfl) ?_
  refine j_iload_n hC 0 rfl rfl (dOk_at dt_X5_init 30 rfl) ?_
  refine j_bipush hC (v := (6 : Int32)) rfl (dOk_at dt_X5_init 31 rfl) ?_
  refine j_imul hC (dOk_at dt_X5_init 32 rfl) ?_
  refine j_callSi (n := 72) hC clX5_37 (fun r0 hr0 => c_X5_packed hW _ _ r0 hr0) rfl ⟨Nat.le_of_ble_eq_true rfl, Nat.le_of_ble_eq_true rfl⟩ ⟨Nat.le_of_ble_eq_true rfl, Nat.le_of_ble_eq_true rfl⟩ (As := [.int ((3 : Int32) * (6 : Int32))]) (st := [.int (3 : Int32), .ref 71]) rfl (Nat.le_of_ble_eq_true rfl) (dOk_at dt_X5_init 33 rfl) (fun v_7 h_8 _ => ?_)
  refine j_iastc (n := 72) hC (show shp 71 = (21, 23) from rfl) (Nat.le_of_ble_eq_true rfl) (by decide +kernel) (dOk_at dt_X5_init 34 rfl) ?_
  refine j_iinc hC (v := (4 : Int32)) (lv' := [(2, .int (4 : Int32)), (0, .ref 69), (1, .ref 35)]) 0 rfl (by decide) (by decide) rfl (dOk_at dt_X5_init 35 rfl) ?_
  refine j_goto hC (tgt := 43) (by decide) (dOk_at dt_X5_init 36 rfl) ?_
  refine j_iload_n hC 0 rfl rfl (dOk_at dt_X5_init 24 rfl) ?_
  refine j_bipush hC (v := (23 : Int32)) rfl (dOk_at dt_X5_init 25 rfl) ?_
  refine j_icmp_geF hC (by decide) (tgt := 68) (by decide) (dOk_at dt_X5_init 26 rfl) ?_
  refine j_aload_n hC 1 rfl rfl (dOk_at dt_X5_init 27 rfl) ?_
  refine j_getE (n := 72) (x := 71) hC flX5_33 (show shp 69 = (5, 16) from rfl) (Nat.le_of_ble_eq_true rfl) (by decide) (by decide) (fun _ _ _ => rfl) (dOk_at dt_X5_init 28 rfl) ?_
  refine j_iload_n hC 0 rfl rfl (dOk_at dt_X5_init 29 rfl) ?_
  refine j_iload_n hC 0 rfl rfl (dOk_at dt_X5_init 30 rfl) ?_
  refine j_bipush hC (v := (6 : Int32)) rfl (dOk_at dt_X5_init 31 rfl) ?_
  refine j_imul hC (dOk_at dt_X5_init 32 rfl) ?_
  refine j_callSi (n := 72) hC clX5_37 (fun r0 hr0 => c_X5_packed hW _ _ r0 hr0) rfl ⟨Nat.le_of_ble_eq_true rfl, Nat.le_of_ble_eq_true rfl⟩ ⟨Nat.le_of_ble_eq_true rfl, Nat.le_of_ble_eq_true rfl⟩ (As := [.int ((4 : Int32) * (6 : Int32))]) (st := [.int (4 : Int32), .ref 71]) rfl (Nat.le_of_ble_eq_true rfl) (dOk_at dt_X5_init 33 rfl) (fun v_9 h_10 _ => ?_)
  refine j_iastc (n := 72) hC (show shp 71 = (21, 23) from rfl) (Nat.le_of_ble_eq_true rfl) (by decide +kernel) (dOk_at dt_X5_init 34 rfl) ?_
  refine j_iinc hC (v := (5 : Int32)) (lv' := [(2, .int (5 : Int32)), (0, .ref 69), (1, .ref 35)]) 0 rfl (by decide) (by decide) rfl (dOk_at dt_X5_init 35 rfl) ?_
  refine j_goto hC (tgt := 43) (by decide) (dOk_at dt_X5_init 36 rfl) ?_
  refine j_iload_n hC 0 rfl rfl (dOk_at dt_X5_init 24 rfl) ?_
  refine j_bipush hC (v := (23 : Int32)) rfl (dOk_at dt_X5_init 25 rfl) ?_
  refine j_icmp_geF hC (by decide) (tgt := 68) (by decide) (dOk_at dt_X5_init 26 rfl) ?_
  refine j_aload_n hC 1 rfl rfl (dOk_at dt_X5_init 27 rfl) ?_
  refine j_getE (n := 72) (x := 71) hC flX5_33 (show shp 69 = (5, 16) from rfl) (Nat.le_of_ble_eq_true rfl) (by decide) (by decide) (fun _ _ _ => rfl) (dOk_at dt_X5_init 28 rfl) ?_
  refine j_iload_n hC 0 rfl rfl (dOk_at dt_X5_init 29 rfl) ?_
  refine j_iload_n hC 0 rfl rfl (dOk_at dt_X5_init 30 rfl) ?_
  refine j_bipush hC (v := (6 : Int32)) rfl (dOk_at dt_X5_init 31 rfl) ?_
  refine j_imul hC (dOk_at dt_X5_init 32 rfl) ?_
  refine j_callSi (n := 72) hC clX5_37 (fun r0 hr0 => c_X5_packed hW _ _ r0 hr0) rfl ⟨Nat.le_of_ble_eq_true rfl, Nat.le_of_ble_eq_true rfl⟩ ⟨Nat.le_of_ble_eq_true rfl, Nat.le_of_ble_eq_true rfl⟩ (As := [.int ((5 : Int32) * (6 : Int32))]) (st := [.int (5 : Int32), .ref 71]) rfl (Nat.le_of_ble_eq_true rfl) (dOk_at dt_X5_init 33 rfl) (fun v_11 h_12 _ => ?_)
  refine j_iastc (n := 72) hC (show shp 71 = (21, 23) from rfl) (Nat.le_of_ble_eq_true rfl) (by decide +kernel) (dOk_at dt_X5_init 34 rfl) ?_
  refine j_iinc hC (v := (6 : Int32)) (lv' := [(2, .int (6 : Int32)), (0, .ref 69), (1, .ref 35)]) 0 rfl (by decide) (by decide) rfl (dOk_at dt_X5_init 35 rfl) ?_
  refine j_goto hC (tgt := 43) (by decide) (dOk_at dt_X5_init 36 rfl) ?_
  refine j_iload_n hC 0 rfl rfl (dOk_at dt_X5_init 24 rfl) ?_
  refine j_bipush hC (v := (23 : Int32)) rfl (dOk_at dt_X5_init 25 rfl) ?_
  refine j_icmp_geF hC (by decide) (tgt := 68) (by decide) (dOk_at dt_X5_init 26 rfl) ?_
  refine j_aload_n hC 1 rfl rfl (dOk_at dt_X5_init 27 rfl) ?_
  refine j_getE (n := 72) (x := 71) hC flX5_33 (show shp 69 = (5, 16) from rfl) (Nat.le_of_ble_eq_true rfl) (by decide) (by decide) (fun _ _ _ => rfl) (dOk_at dt_X5_init 28 rfl) ?_
  refine j_iload_n hC 0 rfl rfl (dOk_at dt_X5_init 29 rfl) ?_
  refine j_iload_n hC 0 rfl rfl (dOk_at dt_X5_init 30 rfl) ?_
  refine j_bipush hC (v := (6 : Int32)) rfl (dOk_at dt_X5_init 31 rfl) ?_
  refine j_imul hC (dOk_at dt_X5_init 32 rfl) ?_
  refine j_callSi (n := 72) hC clX5_37 (fun r0 hr0 => c_X5_packed hW _ _ r0 hr0) rfl ⟨Nat.le_of_ble_eq_true rfl, Nat.le_of_ble_eq_true rfl⟩ ⟨Nat.le_of_ble_eq_true rfl, Nat.le_of_ble_eq_true rfl⟩ (As := [.int ((6 : Int32) * (6 : Int32))]) (st := [.int (6 : Int32), .ref 71]) rfl (Nat.le_of_ble_eq_true rfl) (dOk_at dt_X5_init 33 rfl) (fun v_13 h_14 _ => ?_)
  refine j_iastc (n := 72) hC (show shp 71 = (21, 23) from rfl) (Nat.le_of_ble_eq_true rfl) (by decide +kernel) (dOk_at dt_X5_init 34 rfl) ?_
  refine j_iinc hC (v := (7 : Int32)) (lv' := [(2, .int (7 : Int32)), (0, .ref 69), (1, .ref 35)]) 0 rfl (by decide) (by decide) rfl (dOk_at dt_X5_init 35 rfl) ?_
  refine j_goto hC (tgt := 43) (by decide) (dOk_at dt_X5_init 36 rfl) ?_
  refine j_iload_n hC 0 rfl rfl (dOk_at dt_X5_init 24 rfl) ?_
  refine j_bipush hC (v := (23 : Int32)) rfl (dOk_at dt_X5_init 25 rfl) ?_
  refine j_icmp_geF hC (by decide) (tgt := 68) (by decide) (dOk_at dt_X5_init 26 rfl) ?_
  refine j_aload_n hC 1 rfl rfl (dOk_at dt_X5_init 27 rfl) ?_
  refine j_getE (n := 72) (x := 71) hC flX5_33 (show shp 69 = (5, 16) from rfl) (Nat.le_of_ble_eq_true rfl) (by decide) (by decide) (fun _ _ _ => rfl) (dOk_at dt_X5_init 28 rfl) ?_
  refine j_iload_n hC 0 rfl rfl (dOk_at dt_X5_init 29 rfl) ?_
  refine j_iload_n hC 0 rfl rfl (dOk_at dt_X5_init 30 rfl) ?_
  refine j_bipush hC (v := (6 : Int32)) rfl (dOk_at dt_X5_init 31 rfl) ?_
  refine j_imul hC (dOk_at dt_X5_init 32 rfl) ?_
  refine j_callSi (n := 72) hC clX5_37 (fun r0 hr0 => c_X5_packed hW _ _ r0 hr0) rfl ⟨Nat.le_of_ble_eq_true rfl, Nat.le_of_ble_eq_true rfl⟩ ⟨Nat.le_of_ble_eq_true rfl, Nat.le_of_ble_eq_true rfl⟩ (As := [.int ((7 : Int32) * (6 : Int32))]) (st := [.int (7 : Int32), .ref 71]) rfl (Nat.le_of_ble_eq_true rfl) (dOk_at dt_X5_init 33 rfl) (fun v_15 h_16 _ => ?_)
  refine j_iastc (n := 72) hC (show shp 71 = (21, 23) from rfl) (Nat.le_of_ble_eq_true rfl) (by decide +kernel) (dOk_at dt_X5_init 34 rfl) ?_
  refine j_iinc hC (v := (8 : Int32)) (lv' := [(2, .int (8 : Int32)), (0, .ref 69), (1, .ref 35)]) 0 rfl (by decide) (by decide) rfl (dOk_at dt_X5_init 35 rfl) ?_
  refine j_goto hC (tgt := 43) (by decide) (dOk_at dt_X5_init 36 rfl) ?_
  refine j_iload_n hC 0 rfl rfl (dOk_at dt_X5_init 24 rfl) ?_
  refine j_bipush hC (v := (23 : Int32)) rfl (dOk_at dt_X5_init 25 rfl) ?_
  refine j_icmp_geF hC (by decide) (tgt := 68) (by decide) (dOk_at dt_X5_init 26 rfl) ?_
  refine j_aload_n hC 1 rfl rfl (dOk_at dt_X5_init 27 rfl) ?_
  refine j_getE (n := 72) (x := 71) hC flX5_33 (show shp 69 = (5, 16) from rfl) (Nat.le_of_ble_eq_true rfl) (by decide) (by decide) (fun _ _ _ => rfl) (dOk_at dt_X5_init 28 rfl) ?_
  refine j_iload_n hC 0 rfl rfl (dOk_at dt_X5_init 29 rfl) ?_
  refine j_iload_n hC 0 rfl rfl (dOk_at dt_X5_init 30 rfl) ?_
  refine j_bipush hC (v := (6 : Int32)) rfl (dOk_at dt_X5_init 31 rfl) ?_
  refine j_imul hC (dOk_at dt_X5_init 32 rfl) ?_
  refine j_callSi (n := 72) hC clX5_37 (fun r0 hr0 => c_X5_packed hW _ _ r0 hr0) rfl ⟨Nat.le_of_ble_eq_true rfl, Nat.le_of_ble_eq_true rfl⟩ ⟨Nat.le_of_ble_eq_true rfl, Nat.le_of_ble_eq_true rfl⟩ (As := [.int ((8 : Int32) * (6 : Int32))]) (st := [.int (8 : Int32), .ref 71]) rfl (Nat.le_of_ble_eq_true rfl) (dOk_at dt_X5_init 33 rfl) (fun v_17 h_18 _ => ?_)
  refine j_iastc (n := 72) hC (show shp 71 = (21, 23) from rfl) (Nat.le_of_ble_eq_true rfl) (by decide +kernel) (dOk_at dt_X5_init 34 rfl) ?_
  refine j_iinc hC (v := (9 : Int32)) (lv' := [(2, .int (9 : Int32)), (0, .ref 69), (1, .ref 35)]) 0 rfl (by decide) (by decide) rfl (dOk_at dt_X5_init 35 rfl) ?_
  refine j_goto hC (tgt := 43) (by decide) (dOk_at dt_X5_init 36 rfl) ?_
  refine j_iload_n hC 0 rfl rfl (dOk_at dt_X5_init 24 rfl) ?_
  refine j_bipush hC (v := (23 : Int32)) rfl (dOk_at dt_X5_init 25 rfl) ?_
  refine j_icmp_geF hC (by decide) (tgt := 68) (by decide) (dOk_at dt_X5_init 26 rfl) ?_
  refine j_aload_n hC 1 rfl rfl (dOk_at dt_X5_init 27 rfl) ?_
  refine j_getE (n := 72) (x := 71) hC flX5_33 (show shp 69 = (5, 16) from rfl) (Nat.le_of_ble_eq_true rfl) (by decide) (by decide) (fun _ _ _ => rfl) (dOk_at dt_X5_init 28 rfl) ?_
  refine j_iload_n hC 0 rfl rfl (dOk_at dt_X5_init 29 rfl) ?_
  refine j_iload_n hC 0 rfl rfl (dOk_at dt_X5_init 30 rfl) ?_
  refine j_bipush hC (v := (6 : Int32)) rfl (dOk_at dt_X5_init 31 rfl) ?_
  refine j_imul hC (dOk_at dt_X5_init 32 rfl) ?_
  refine j_callSi (n := 72) hC clX5_37 (fun r0 hr0 => c_X5_packed hW _ _ r0 hr0) rfl ⟨Nat.le_of_ble_eq_true rfl, Nat.le_of_ble_eq_true rfl⟩ ⟨Nat.le_of_ble_eq_true rfl, Nat.le_of_ble_eq_true rfl⟩ (As := [.int ((9 : Int32) * (6 : Int32))]) (st := [.int (9 : Int32), .ref 71]) rfl (Nat.le_of_ble_eq_true rfl) (dOk_at dt_X5_init 33 rfl) (fun v_19 h_20 _ => ?_)
  refine j_iastc (n := 72) hC (show shp 71 = (21, 23) from rfl) (Nat.le_of_ble_eq_true rfl) (by decide +kernel) (dOk_at dt_X5_init 34 rfl) ?_
  refine j_iinc hC (v := (10 : Int32)) (lv' := [(2, .int (10 : Int32)), (0, .ref 69), (1, .ref 35)]) 0 rfl (by decide) (by decide) rfl (dOk_at dt_X5_init 35 rfl) ?_
  refine j_goto hC (tgt := 43) (by decide) (dOk_at dt_X5_init 36 rfl) ?_
  refine j_iload_n hC 0 rfl rfl (dOk_at dt_X5_init 24 rfl) ?_
  refine j_bipush hC (v := (23 : Int32)) rfl (dOk_at dt_X5_init 25 rfl) ?_
  refine j_icmp_geF hC (by decide) (tgt := 68) (by decide) (dOk_at dt_X5_init 26 rfl) ?_
  refine j_aload_n hC 1 rfl rfl (dOk_at dt_X5_init 27 rfl) ?_
  refine j_getE (n := 72) (x := 71) hC flX5_33 (show shp 69 = (5, 16) from rfl) (Nat.le_of_ble_eq_true rfl) (by decide) (by decide) (fun _ _ _ => rfl) (dOk_at dt_X5_init 28 rfl) ?_
  refine j_iload_n hC 0 rfl rfl (dOk_at dt_X5_init 29 rfl) ?_
  refine j_iload_n hC 0 rfl rfl (dOk_at dt_X5_init 30 rfl) ?_
  refine j_bipush hC (v := (6 : Int32)) rfl (dOk_at dt_X5_init 31 rfl) ?_
  refine j_imul hC (dOk_at dt_X5_init 32 rfl) ?_
  refine j_callSi (n := 72) hC clX5_37 (fun r0 hr0 => c_X5_packed hW _ _ r0 hr0) rfl ⟨Nat.le_of_ble_eq_true rfl, Nat.le_of_ble_eq_true rfl⟩ ⟨Nat.le_of_ble_eq_true rfl, Nat.le_of_ble_eq_true rfl⟩ (As := [.int ((10 : Int32) * (6 : Int32))]) (st := [.int (10 : Int32), .ref 71]) rfl (Nat.le_of_ble_eq_true rfl) (dOk_at dt_X5_init 33 rfl) (fun v_21 h_22 _ => ?_)
  refine j_iastc (n := 72) hC (show shp 71 = (21, 23) from rfl) (Nat.le_of_ble_eq_true rfl) (by decide +kernel) (dOk_at dt_X5_init 34 rfl) ?_
  refine j_iinc hC (v := (11 : Int32)) (lv' := [(2, .int (11 : Int32)), (0, .ref 69), (1, .ref 35)]) 0 rfl (by decide) (by decide) rfl (dOk_at dt_X5_init 35 rfl) ?_
  refine j_goto hC (tgt := 43) (by decide) (dOk_at dt_X5_init 36 rfl) ?_
  refine j_iload_n hC 0 rfl rfl (dOk_at dt_X5_init 24 rfl) ?_
  refine j_bipush hC (v := (23 : Int32)) rfl (dOk_at dt_X5_init 25 rfl) ?_
  refine j_icmp_geF hC (by decide) (tgt := 68) (by decide) (dOk_at dt_X5_init 26 rfl) ?_
  refine j_aload_n hC 1 rfl rfl (dOk_at dt_X5_init 27 rfl) ?_
  refine j_getE (n := 72) (x := 71) hC flX5_33 (show shp 69 = (5, 16) from rfl) (Nat.le_of_ble_eq_true rfl) (by decide) (by decide) (fun _ _ _ => rfl) (dOk_at dt_X5_init 28 rfl) ?_
  refine j_iload_n hC 0 rfl rfl (dOk_at dt_X5_init 29 rfl) ?_
  refine j_iload_n hC 0 rfl rfl (dOk_at dt_X5_init 30 rfl) ?_
  refine j_bipush hC (v := (6 : Int32)) rfl (dOk_at dt_X5_init 31 rfl) ?_
  refine j_imul hC (dOk_at dt_X5_init 32 rfl) ?_
  refine j_callSi (n := 72) hC clX5_37 (fun r0 hr0 => c_X5_packed hW _ _ r0 hr0) rfl ⟨Nat.le_of_ble_eq_true rfl, Nat.le_of_ble_eq_true rfl⟩ ⟨Nat.le_of_ble_eq_true rfl, Nat.le_of_ble_eq_true rfl⟩ (As := [.int ((11 : Int32) * (6 : Int32))]) (st := [.int (11 : Int32), .ref 71]) rfl (Nat.le_of_ble_eq_true rfl) (dOk_at dt_X5_init 33 rfl) (fun v_23 h_24 _ => ?_)
  refine j_iastc (n := 72) hC (show shp 71 = (21, 23) from rfl) (Nat.le_of_ble_eq_true rfl) (by decide +kernel) (dOk_at dt_X5_init 34 rfl) ?_
  refine j_iinc hC (v := (12 : Int32)) (lv' := [(2, .int (12 : Int32)), (0, .ref 69), (1, .ref 35)]) 0 rfl (by decide) (by decide) rfl (dOk_at dt_X5_init 35 rfl) ?_
  refine j_goto hC (tgt := 43) (by decide) (dOk_at dt_X5_init 36 rfl) ?_
  refine j_iload_n hC 0 rfl rfl (dOk_at dt_X5_init 24 rfl) ?_
  refine j_bipush hC (v := (23 : Int32)) rfl (dOk_at dt_X5_init 25 rfl) ?_
  refine j_icmp_geF hC (by decide) (tgt := 68) (by decide) (dOk_at dt_X5_init 26 rfl) ?_
  refine j_aload_n hC 1 rfl rfl (dOk_at dt_X5_init 27 rfl) ?_
  refine j_getE (n := 72) (x := 71) hC flX5_33 (show shp 69 = (5, 16) from rfl) (Nat.le_of_ble_eq_true rfl) (by decide) (by decide) (fun _ _ _ => rfl) (dOk_at dt_X5_init 28 rfl) ?_
  refine j_iload_n hC 0 rfl rfl (dOk_at dt_X5_init 29 rfl) ?_
  refine j_iload_n hC 0 rfl rfl (dOk_at dt_X5_init 30 rfl) ?_
  refine j_bipush hC (v := (6 : Int32)) rfl (dOk_at dt_X5_init 31 rfl) ?_
  refine j_imul hC (dOk_at dt_X5_init 32 rfl) ?_
  refine j_callSi (n := 72) hC clX5_37 (fun r0 hr0 => c_X5_packed hW _ _ r0 hr0) rfl ⟨Nat.le_of_ble_eq_true rfl, Nat.le_of_ble_eq_true rfl⟩ ⟨Nat.le_of_ble_eq_true rfl, Nat.le_of_ble_eq_true rfl⟩ (As := [.int ((12 : Int32) * (6 : Int32))]) (st := [.int (12 : Int32), .ref 71]) rfl (Nat.le_of_ble_eq_true rfl) (dOk_at dt_X5_init 33 rfl) (fun v_25 h_26 _ => ?_)
  refine j_iastc (n := 72) hC (show shp 71 = (21, 23) from rfl) (Nat.le_of_ble_eq_true rfl) (by decide +kernel) (dOk_at dt_X5_init 34 rfl) ?_
  refine j_iinc hC (v := (13 : Int32)) (lv' := [(2, .int (13 : Int32)), (0, .ref 69), (1, .ref 35)]) 0 rfl (by decide) (by decide) rfl (dOk_at dt_X5_init 35 rfl) ?_
  refine j_goto hC (tgt := 43) (by decide) (dOk_at dt_X5_init 36 rfl) ?_
  refine j_iload_n hC 0 rfl rfl (dOk_at dt_X5_init 24 rfl) ?_
  refine j_bipush hC (v := (23 : Int32)) rfl (dOk_at dt_X5_init 25 rfl) ?_
  refine j_icmp_geF hC (by decide) (tgt := 68) (by decide) (dOk_at dt_X5_init 26 rfl) ?_
  refine j_aload_n hC 1 rfl rfl (dOk_at dt_X5_init 27 rfl) ?_
  refine j_getE (n := 72) (x := 71) hC flX5_33 (show shp 69 = (5, 16) from rfl) (Nat.le_of_ble_eq_true rfl) (by decide) (by decide) (fun _ _ _ => rfl) (dOk_at dt_X5_init 28 rfl) ?_
  refine j_iload_n hC 0 rfl rfl (dOk_at dt_X5_init 29 rfl) ?_
  refine j_iload_n hC 0 rfl rfl (dOk_at dt_X5_init 30 rfl) ?_
  refine j_bipush hC (v := (6 : Int32)) rfl (dOk_at dt_X5_init 31 rfl) ?_
  refine j_imul hC (dOk_at dt_X5_init 32 rfl) ?_
  refine j_callSi (n := 72) hC clX5_37 (fun r0 hr0 => c_X5_packed hW _ _ r0 hr0) rfl ⟨Nat.le_of_ble_eq_true rfl, Nat.le_of_ble_eq_true rfl⟩ ⟨Nat.le_of_ble_eq_true rfl, Nat.le_of_ble_eq_true rfl⟩ (As := [.int ((13 : Int32) * (6 : Int32))]) (st := [.int (13 : Int32), .ref 71]) rfl (Nat.le_of_ble_eq_true rfl) (dOk_at dt_X5_init 33 rfl) (fun v_27 h_28 _ => ?_)
  refine j_iastc (n := 72) hC (show shp 71 = (21, 23) from rfl) (Nat.le_of_ble_eq_true rfl) (by decide +kernel) (dOk_at dt_X5_init 34 rfl) ?_
  refine j_iinc hC (v := (14 : Int32)) (lv' := [(2, .int (14 : Int32)), (0, .ref 69), (1, .ref 35)]) 0 rfl (by decide) (by decide) rfl (dOk_at dt_X5_init 35 rfl) ?_
  refine j_goto hC (tgt := 43) (by decide) (dOk_at dt_X5_init 36 rfl) ?_
  refine j_iload_n hC 0 rfl rfl (dOk_at dt_X5_init 24 rfl) ?_
  refine j_bipush hC (v := (23 : Int32)) rfl (dOk_at dt_X5_init 25 rfl) ?_
  refine j_icmp_geF hC (by decide) (tgt := 68) (by decide) (dOk_at dt_X5_init 26 rfl) ?_
  refine j_aload_n hC 1 rfl rfl (dOk_at dt_X5_init 27 rfl) ?_
  refine j_getE (n := 72) (x := 71) hC flX5_33 (show shp 69 = (5, 16) from rfl) (Nat.le_of_ble_eq_true rfl) (by decide) (by decide) (fun _ _ _ => rfl) (dOk_at dt_X5_init 28 rfl) ?_
  refine j_iload_n hC 0 rfl rfl (dOk_at dt_X5_init 29 rfl) ?_
  refine j_iload_n hC 0 rfl rfl (dOk_at dt_X5_init 30 rfl) ?_
  refine j_bipush hC (v := (6 : Int32)) rfl (dOk_at dt_X5_init 31 rfl) ?_
  refine j_imul hC (dOk_at dt_X5_init 32 rfl) ?_
  refine j_callSi (n := 72) hC clX5_37 (fun r0 hr0 => c_X5_packed hW _ _ r0 hr0) rfl ⟨Nat.le_of_ble_eq_true rfl, Nat.le_of_ble_eq_true rfl⟩ ⟨Nat.le_of_ble_eq_true rfl, Nat.le_of_ble_eq_true rfl⟩ (As := [.int ((14 : Int32) * (6 : Int32))]) (st := [.int (14 : Int32), .ref 71]) rfl (Nat.le_of_ble_eq_true rfl) (dOk_at dt_X5_init 33 rfl) (fun v_29 h_30 _ => ?_)
  refine j_iastc (n := 72) hC (show shp 71 = (21, 23) from rfl) (Nat.le_of_ble_eq_true rfl) (by decide +kernel) (dOk_at dt_X5_init 34 rfl) ?_
  refine j_iinc hC (v := (15 : Int32)) (lv' := [(2, .int (15 : Int32)), (0, .ref 69), (1, .ref 35)]) 0 rfl (by decide) (by decide) rfl (dOk_at dt_X5_init 35 rfl) ?_
  refine j_goto hC (tgt := 43) (by decide) (dOk_at dt_X5_init 36 rfl) ?_
  refine j_iload_n hC 0 rfl rfl (dOk_at dt_X5_init 24 rfl) ?_
  refine j_bipush hC (v := (23 : Int32)) rfl (dOk_at dt_X5_init 25 rfl) ?_
  refine j_icmp_geF hC (by decide) (tgt := 68) (by decide) (dOk_at dt_X5_init 26 rfl) ?_
  refine j_aload_n hC 1 rfl rfl (dOk_at dt_X5_init 27 rfl) ?_
  refine j_getE (n := 72) (x := 71) hC flX5_33 (show shp 69 = (5, 16) from rfl) (Nat.le_of_ble_eq_true rfl) (by decide) (by decide) (fun _ _ _ => rfl) (dOk_at dt_X5_init 28 rfl) ?_
  refine j_iload_n hC 0 rfl rfl (dOk_at dt_X5_init 29 rfl) ?_
  refine j_iload_n hC 0 rfl rfl (dOk_at dt_X5_init 30 rfl) ?_
  refine j_bipush hC (v := (6 : Int32)) rfl (dOk_at dt_X5_init 31 rfl) ?_
  refine j_imul hC (dOk_at dt_X5_init 32 rfl) ?_
  refine j_callSi (n := 72) hC clX5_37 (fun r0 hr0 => c_X5_packed hW _ _ r0 hr0) rfl ⟨Nat.le_of_ble_eq_true rfl, Nat.le_of_ble_eq_true rfl⟩ ⟨Nat.le_of_ble_eq_true rfl, Nat.le_of_ble_eq_true rfl⟩ (As := [.int ((15 : Int32) * (6 : Int32))]) (st := [.int (15 : Int32), .ref 71]) rfl (Nat.le_of_ble_eq_true rfl) (dOk_at dt_X5_init 33 rfl) (fun v_31 h_32 _ => ?_)
  refine j_iastc (n := 72) hC (show shp 71 = (21, 23) from rfl) (Nat.le_of_ble_eq_true rfl) (by decide +kernel) (dOk_at dt_X5_init 34 rfl) ?_
  refine j_iinc hC (v := (16 : Int32)) (lv' := [(2, .int (16 : Int32)), (0, .ref 69), (1, .ref 35)]) 0 rfl (by decide) (by decide) rfl (dOk_at dt_X5_init 35 rfl) ?_
  refine j_goto hC (tgt := 43) (by decide) (dOk_at dt_X5_init 36 rfl) ?_
  refine j_iload_n hC 0 rfl rfl (dOk_at dt_X5_init 24 rfl) ?_
  refine j_bipush hC (v := (23 : Int32)) rfl (dOk_at dt_X5_init 25 rfl) ?_
  refine j_icmp_geF hC (by decide) (tgt := 68) (by decide) (dOk_at dt_X5_init 26 rfl) ?_
  refine j_aload_n hC 1 rfl rfl (dOk_at dt_X5_init 27 rfl) ?_
  refine j_getE (n := 72) (x := 71) hC flX5_33 (show shp 69 = (5, 16) from rfl) (Nat.le_of_ble_eq_true rfl) (by decide) (by decide) (fun _ _ _ => rfl) (dOk_at dt_X5_init 28 rfl) ?_
  refine j_iload_n hC 0 rfl rfl (dOk_at dt_X5_init 29 rfl) ?_
  refine j_iload_n hC 0 rfl rfl (dOk_at dt_X5_init 30 rfl) ?_
  refine j_bipush hC (v := (6 : Int32)) rfl (dOk_at dt_X5_init 31 rfl) ?_
  refine j_imul hC (dOk_at dt_X5_init 32 rfl) ?_
  refine j_callSi (n := 72) hC clX5_37 (fun r0 hr0 => c_X5_packed hW _ _ r0 hr0) rfl ⟨Nat.le_of_ble_eq_true rfl, Nat.le_of_ble_eq_true rfl⟩ ⟨Nat.le_of_ble_eq_true rfl, Nat.le_of_ble_eq_true rfl⟩ (As := [.int ((16 : Int32) * (6 : Int32))]) (st := [.int (16 : Int32), .ref 71]) rfl (Nat.le_of_ble_eq_true rfl) (dOk_at dt_X5_init 33 rfl) (fun v_33 h_34 _ => ?_)
  refine j_iastc (n := 72) hC (show shp 71 = (21, 23) from rfl) (Nat.le_of_ble_eq_true rfl) (by decide +kernel) (dOk_at dt_X5_init 34 rfl) ?_
  refine j_iinc hC (v := (17 : Int32)) (lv' := [(2, .int (17 : Int32)), (0, .ref 69), (1, .ref 35)]) 0 rfl (by decide) (by decide) rfl (dOk_at dt_X5_init 35 rfl) ?_
  refine j_goto hC (tgt := 43) (by decide) (dOk_at dt_X5_init 36 rfl) ?_
  refine j_iload_n hC 0 rfl rfl (dOk_at dt_X5_init 24 rfl) ?_
  refine j_bipush hC (v := (23 : Int32)) rfl (dOk_at dt_X5_init 25 rfl) ?_
  refine j_icmp_geF hC (by decide) (tgt := 68) (by decide) (dOk_at dt_X5_init 26 rfl) ?_
  refine j_aload_n hC 1 rfl rfl (dOk_at dt_X5_init 27 rfl) ?_
  refine j_getE (n := 72) (x := 71) hC flX5_33 (show shp 69 = (5, 16) from rfl) (Nat.le_of_ble_eq_true rfl) (by decide) (by decide) (fun _ _ _ => rfl) (dOk_at dt_X5_init 28 rfl) ?_
  refine j_iload_n hC 0 rfl rfl (dOk_at dt_X5_init 29 rfl) ?_
  refine j_iload_n hC 0 rfl rfl (dOk_at dt_X5_init 30 rfl) ?_
  refine j_bipush hC (v := (6 : Int32)) rfl (dOk_at dt_X5_init 31 rfl) ?_
  refine j_imul hC (dOk_at dt_X5_init 32 rfl) ?_
  refine j_callSi (n := 72) hC clX5_37 (fun r0 hr0 => c_X5_packed hW _ _ r0 hr0) rfl ⟨Nat.le_of_ble_eq_true rfl, Nat.le_of_ble_eq_true rfl⟩ ⟨Nat.le_of_ble_eq_true rfl, Nat.le_of_ble_eq_true rfl⟩ (As := [.int ((17 : Int32) * (6 : Int32))]) (st := [.int (17 : Int32), .ref 71]) rfl (Nat.le_of_ble_eq_true rfl) (dOk_at dt_X5_init 33 rfl) (fun v_35 h_36 _ => ?_)
  refine j_iastc (n := 72) hC (show shp 71 = (21, 23) from rfl) (Nat.le_of_ble_eq_true rfl) (by decide +kernel) (dOk_at dt_X5_init 34 rfl) ?_
  refine j_iinc hC (v := (18 : Int32)) (lv' := [(2, .int (18 : Int32)), (0, .ref 69), (1, .ref 35)]) 0 rfl (by decide) (by decide) rfl (dOk_at dt_X5_init 35 rfl) ?_
  refine j_goto hC (tgt := 43) (by decide) (dOk_at dt_X5_init 36 rfl) ?_
  refine j_iload_n hC 0 rfl rfl (dOk_at dt_X5_init 24 rfl) ?_
  refine j_bipush hC (v := (23 : Int32)) rfl (dOk_at dt_X5_init 25 rfl) ?_
  refine j_icmp_geF hC (by decide) (tgt := 68) (by decide) (dOk_at dt_X5_init 26 rfl) ?_
  refine j_aload_n hC 1 rfl rfl (dOk_at dt_X5_init 27 rfl) ?_
  refine j_getE (n := 72) (x := 71) hC flX5_33 (show shp 69 = (5, 16) from rfl) (Nat.le_of_ble_eq_true rfl) (by decide) (by decide) (fun _ _ _ => rfl) (dOk_at dt_X5_init 28 rfl) ?_
  refine j_iload_n hC 0 rfl rfl (dOk_at dt_X5_init 29 rfl) ?_
  refine j_iload_n hC 0 rfl rfl (dOk_at dt_X5_init 30 rfl) ?_
  refine j_bipush hC (v := (6 : Int32)) rfl (dOk_at dt_X5_init 31 rfl) ?_
  refine j_imul hC (dOk_at dt_X5_init 32 rfl) ?_
  refine j_callSi (n := 72) hC clX5_37 (fun r0 hr0 => c_X5_packed hW _ _ r0 hr0) rfl ⟨Nat.le_of_ble_eq_true rfl, Nat.le_of_ble_eq_true rfl⟩ ⟨Nat.le_of_ble_eq_true rfl, Nat.le_of_ble_eq_true rfl⟩ (As := [.int ((18 : Int32) * (6 : Int32))]) (st := [.int (18 : Int32), .ref 71]) rfl (Nat.le_of_ble_eq_true rfl) (dOk_at dt_X5_init 33 rfl) (fun v_37 h_38 _ => ?_)
  refine j_iastc (n := 72) hC (show shp 71 = (21, 23) from rfl) (Nat.le_of_ble_eq_true rfl) (by decide +kernel) (dOk_at dt_X5_init 34 rfl) ?_
  refine j_iinc hC (v := (19 : Int32)) (lv' := [(2, .int (19 : Int32)), (0, .ref 69), (1, .ref 35)]) 0 rfl (by decide) (by decide) rfl (dOk_at dt_X5_init 35 rfl) ?_
  refine j_goto hC (tgt := 43) (by decide) (dOk_at dt_X5_init 36 rfl) ?_
  refine j_iload_n hC 0 rfl rfl (dOk_at dt_X5_init 24 rfl) ?_
  refine j_bipush hC (v := (23 : Int32)) rfl (dOk_at dt_X5_init 25 rfl) ?_
  refine j_icmp_geF hC (by decide) (tgt := 68) (by decide) (dOk_at dt_X5_init 26 rfl) ?_
  refine j_aload_n hC 1 rfl rfl (dOk_at dt_X5_init 27 rfl) ?_
  refine j_getE (n := 72) (x := 71) hC flX5_33 (show shp 69 = (5, 16) from rfl) (Nat.le_of_ble_eq_true rfl) (by decide) (by decide) (fun _ _ _ => rfl) (dOk_at dt_X5_init 28 rfl) ?_
  refine j_iload_n hC 0 rfl rfl (dOk_at dt_X5_init 29 rfl) ?_
  refine j_iload_n hC 0 rfl rfl (dOk_at dt_X5_init 30 rfl) ?_
  refine j_bipush hC (v := (6 : Int32)) rfl (dOk_at dt_X5_init 31 rfl) ?_
  refine j_imul hC (dOk_at dt_X5_init 32 rfl) ?_
  refine j_callSi (n := 72) hC clX5_37 (fun r0 hr0 => c_X5_packed hW _ _ r0 hr0) rfl ⟨Nat.le_of_ble_eq_true rfl, Nat.le_of_ble_eq_true rfl⟩ ⟨Nat.le_of_ble_eq_true rfl, Nat.le_of_ble_eq_true rfl⟩ (As := [.int ((19 : Int32) * (6 : Int32))]) (st := [.int (19 : Int32), .ref 71]) rfl (Nat.le_of_ble_eq_true rfl) (dOk_at dt_X5_init 33 rfl) (fun v_39 h_40 _ => ?_)
  refine j_iastc (n := 72) hC (show shp 71 = (21, 23) from rfl) (Nat.le_of_ble_eq_true rfl) (by decide +kernel) (dOk_at dt_X5_init 34 rfl) ?_
  refine j_iinc hC (v := (20 : Int32)) (lv' := [(2, .int (20 : Int32)), (0, .ref 69), (1, .ref 35)]) 0 rfl (by decide) (by decide) rfl (dOk_at dt_X5_init 35 rfl) ?_
  refine j_goto hC (tgt := 43) (by decide) (dOk_at dt_X5_init 36 rfl) ?_
  refine j_iload_n hC 0 rfl rfl (dOk_at dt_X5_init 24 rfl) ?_
  refine j_bipush hC (v := (23 : Int32)) rfl (dOk_at dt_X5_init 25 rfl) ?_
  refine j_icmp_geF hC (by decide) (tgt := 68) (by decide) (dOk_at dt_X5_init 26 rfl) ?_
  refine j_aload_n hC 1 rfl rfl (dOk_at dt_X5_init 27 rfl) ?_
  refine j_getE (n := 72) (x := 71) hC flX5_33 (show shp 69 = (5, 16) from rfl) (Nat.le_of_ble_eq_true rfl) (by decide) (by decide) (fun _ _ _ => rfl) (dOk_at dt_X5_init 28 rfl) ?_
  refine j_iload_n hC 0 rfl rfl (dOk_at dt_X5_init 29 rfl) ?_
  refine j_iload_n hC 0 rfl rfl (dOk_at dt_X5_init 30 rfl) ?_
  refine j_bipush hC (v := (6 : Int32)) rfl (dOk_at dt_X5_init 31 rfl) ?_
  refine j_imul hC (dOk_at dt_X5_init 32 rfl) ?_
  refine j_callSi (n := 72) hC clX5_37 (fun r0 hr0 => c_X5_packed hW _ _ r0 hr0) rfl ⟨Nat.le_of_ble_eq_true rfl, Nat.le_of_ble_eq_true rfl⟩ ⟨Nat.le_of_ble_eq_true rfl, Nat.le_of_ble_eq_true rfl⟩ (As := [.int ((20 : Int32) * (6 : Int32))]) (st := [.int (20 : Int32), .ref 71]) rfl (Nat.le_of_ble_eq_true rfl) (dOk_at dt_X5_init 33 rfl) (fun v_41 h_42 _ => ?_)
  refine j_iastc (n := 72) hC (show shp 71 = (21, 23) from rfl) (Nat.le_of_ble_eq_true rfl) (by decide +kernel) (dOk_at dt_X5_init 34 rfl) ?_
  refine j_iinc hC (v := (21 : Int32)) (lv' := [(2, .int (21 : Int32)), (0, .ref 69), (1, .ref 35)]) 0 rfl (by decide) (by decide) rfl (dOk_at dt_X5_init 35 rfl) ?_
  refine j_goto hC (tgt := 43) (by decide) (dOk_at dt_X5_init 36 rfl) ?_
  refine j_iload_n hC 0 rfl rfl (dOk_at dt_X5_init 24 rfl) ?_
  refine j_bipush hC (v := (23 : Int32)) rfl (dOk_at dt_X5_init 25 rfl) ?_
  refine j_icmp_geF hC (by decide) (tgt := 68) (by decide) (dOk_at dt_X5_init 26 rfl) ?_
  refine j_aload_n hC 1 rfl rfl (dOk_at dt_X5_init 27 rfl) ?_
  refine j_getE (n := 72) (x := 71) hC flX5_33 (show shp 69 = (5, 16) from rfl) (Nat.le_of_ble_eq_true rfl) (by decide) (by decide) (fun _ _ _ => rfl) (dOk_at dt_X5_init 28 rfl) ?_
  refine j_iload_n hC 0 rfl rfl (dOk_at dt_X5_init 29 rfl) ?_
  refine j_iload_n hC 0 rfl rfl (dOk_at dt_X5_init 30 rfl) ?_
  refine j_bipush hC (v := (6 : Int32)) rfl (dOk_at dt_X5_init 31 rfl) ?_
  refine j_imul hC (dOk_at dt_X5_init 32 rfl) ?_
  refine j_callSi (n := 72) hC clX5_37 (fun r0 hr0 => c_X5_packed hW _ _ r0 hr0) rfl ⟨Nat.le_of_ble_eq_true rfl, Nat.le_of_ble_eq_true rfl⟩ ⟨Nat.le_of_ble_eq_true rfl, Nat.le_of_ble_eq_true rfl⟩ (As := [.int ((21 : Int32) * (6 : Int32))]) (st := [.int (21 : Int32), .ref 71]) rfl (Nat.le_of_ble_eq_true rfl) (dOk_at dt_X5_init 33 rfl) (fun v_43 h_44 _ => ?_)
  refine j_iastc (n := 72) hC (show shp 71 = (21, 23) from rfl) (Nat.le_of_ble_eq_true rfl) (by decide +kernel) (dOk_at dt_X5_init 34 rfl) ?_
  refine j_iinc hC (v := (22 : Int32)) (lv' := [(2, .int (22 : Int32)), (0, .ref 69), (1, .ref 35)]) 0 rfl (by decide) (by decide) rfl (dOk_at dt_X5_init 35 rfl) ?_
  refine j_goto hC (tgt := 43) (by decide) (dOk_at dt_X5_init 36 rfl) ?_
  refine j_iload_n hC 0 rfl rfl (dOk_at dt_X5_init 24 rfl) ?_
  refine j_bipush hC (v := (23 : Int32)) rfl (dOk_at dt_X5_init 25 rfl) ?_
  refine j_icmp_geF hC (by decide) (tgt := 68) (by decide) (dOk_at dt_X5_init 26 rfl) ?_
  refine j_aload_n hC 1 rfl rfl (dOk_at dt_X5_init 27 rfl) ?_
  refine j_getE (n := 72) (x := 71) hC flX5_33 (show shp 69 = (5, 16) from rfl) (Nat.le_of_ble_eq_true rfl) (by decide) (by decide) (fun _ _ _ => rfl) (dOk_at dt_X5_init 28 rfl) ?_
  refine j_iload_n hC 0 rfl rfl (dOk_at dt_X5_init 29 rfl) ?_
  refine j_iload_n hC 0 rfl rfl (dOk_at dt_X5_init 30 rfl) ?_
  refine j_bipush hC (v := (6 : Int32)) rfl (dOk_at dt_X5_init 31 rfl) ?_
  refine j_imul hC (dOk_at dt_X5_init 32 rfl) ?_
  refine j_callSi (n := 72) hC clX5_37 (fun r0 hr0 => c_X5_packed hW _ _ r0 hr0) rfl ⟨Nat.le_of_ble_eq_true rfl, Nat.le_of_ble_eq_true rfl⟩ ⟨Nat.le_of_ble_eq_true rfl, Nat.le_of_ble_eq_true rfl⟩ (As := [.int ((22 : Int32) * (6 : Int32))]) (st := [.int (22 : Int32), .ref 71]) rfl (Nat.le_of_ble_eq_true rfl) (dOk_at dt_X5_init 33 rfl) (fun v_45 h_46 _ => ?_)
  refine j_iastc (n := 72) hC (show shp 71 = (21, 23) from rfl) (Nat.le_of_ble_eq_true rfl) (by decide +kernel) (dOk_at dt_X5_init 34 rfl) ?_
  refine j_iinc hC (v := (23 : Int32)) (lv' := [(2, .int (23 : Int32)), (0, .ref 69), (1, .ref 35)]) 0 rfl (by decide) (by decide) rfl (dOk_at dt_X5_init 35 rfl) ?_
  refine j_goto hC (tgt := 43) (by decide) (dOk_at dt_X5_init 36 rfl) ?_
  refine j_iload_n hC 0 rfl rfl (dOk_at dt_X5_init 24 rfl) ?_
  refine j_bipush hC (v := (23 : Int32)) rfl (dOk_at dt_X5_init 25 rfl) ?_
  refine j_icmp_geT hC (by decide) (tgt := 68) (by decide) (dOk_at dt_X5_init 26 rfl) ?_
  refine j_aload_n hC 1 rfl rfl (dOk_at dt_X5_init 37 rfl) ?_
  refine j_iconst hC (v := (-1 : Int32)) rfl (dOk_at dt_X5_init 38 rfl) ?_
  refine j_putIc (n := 72) hC hin flX5_41 (fun q hq _ => by cases hq; rfl) (show shp 69 = (5, 16) from rfl) (Nat.le_of_ble_eq_true rfl) (by decide) (by decide) rfl (dOk_at dt_X5_init 39 rfl) ?_
  exact j_vretc hC hret (dOk_at dt_X5_init 40 rfl)
def tb_X8_init : List (Nat × Instr × Nat) := [(0, .aload_n 0, 1), (1, .invokespecial 3, 3), (4, .aload_n 0, 1), (5, .aload_n 1, 1), (6, .putfield 9, 3), (9, .aload_n 0, 1), (10, .iconst 5, 1), (11, .newarray .int, 2), (13, .putfield 15, 3), (16, .aload_n 0, 1), (17, .iconst 5, 1), (18, .newarray .int, 2), (20, .putfield 19, 3), (23, .aload_n 0, 1), (24, .iconst 5, 1), (25, .newarray .int, 2), (27, .putfield 22, 3), (30, .aload_n 0, 1), (31, .iconst 5, 1), (32, .newarray .int, 2), (34, .putfield 25, 3), (37, .aload_n 0, 1), (38, .bipush 7, 2), (40, .newarray .long, 2), (42, .putfield 28, 3), (45, .aload_n 0, 1), (46, .iconst 1, 1), (47, .putfield 32, 3), (50, .aload_n 0, 1), (51, .iconst (-1), 1), (52, .putfield 36, 3), (55, .return_, 1)]
theorem dt_X8_init : dOk cX8_init tb_X8_init = true := by decide +kernel
def fX8_init_72 (h : Hp) : Option Hp := some (uI (uI (uR (uR (uR (uR (uR (uR h 72 0 (some 1)) 72 5 (some 73)) 72 6 (some 74)) 72 7 (some 75)) 72 8 (some 76)) 72 9 (some 77)) 72 10 (1 : Int32)) 72 14 (-1 : Int32))
set_option maxRecDepth 100000 in
set_option maxHeartbeats 8000000 in
theorem c_X8_init_72 {l : Launch} {sb : State} {D : va_G} {ids : Nat → ClassId} (h r : Hp) (hr : fX8_init_72 h = some r) : jMc l yX8_init cX8_init 2 1 sb D ids shp 73 5 27 [.ref 72, .ref 1] h (jQc sb D ids shp 78 r) := by
  refine jMc_of (Qc := fun r => jQc sb D ids shp 78 r) hr rfl rfl (Nat.le_of_ble_eq_true rfl) ?_
  intro p e s m args below meth c hC hret hin hs0
  unfold fX8_init_72
  refine j_aload_n hC 0 rfl rfl (dOk_at dt_X8_init 0 rfl) ?_
  refine j_objInit hC oiX8_3 ⟨Nat.le_of_ble_eq_true rfl, Nat.le_of_ble_eq_true rfl⟩ (Nat.le_of_ble_eq_true rfl) (dOk_at dt_X8_init 1 rfl) ?_
  refine j_aload_n hC 0 rfl rfl (dOk_at dt_X8_init 2 rfl) ?_
  refine j_aload_n hC 1 rfl rfl (dOk_at dt_X8_init 3 rfl) ?_
  refine j_putRc (n := 73) hC hin flX8_9 (fun q hq _ => by cases hq; rfl) (show shp 72 = (8, 15) from rfl) (Nat.le_of_ble_eq_true rfl) (by decide) (by decide) (Or.inl ⟨_, rfl⟩) (dOk_at dt_X8_init 4 rfl) ?_
  refine j_aload_n hC 0 rfl rfl (dOk_at dt_X8_init 5 rfl) ?_
  refine j_iconst hC (v := (5 : Int32)) rfl (dOk_at dt_X8_init 6 rfl) ?_
  refine j_newaI (atype := .int) (n := 73) (t := 1) (ty := .int) (N := 5) hC aw_int rfl rfl (fun C q => by cases q) (show shp 73 = (20 + 1, 5) from rfl) rfl (by decide) (by decide +kernel) (by decide +kernel) (Nat.le_of_ble_eq_true rfl) (by omega) ⟨Nat.le_of_ble_eq_true rfl, Nat.le_of_ble_eq_true rfl⟩ (dOk_at dt_X8_init 7 rfl) ?_
  refine j_putRc (n := 74) hC hin flX8_15 (fun q hq _ => by cases hq; rfl) (show shp 72 = (8, 15) from rfl) (Nat.le_of_ble_eq_true rfl) (by decide) (by decide) (Or.inr ⟨_, rfl⟩) (dOk_at dt_X8_init 8 rfl) ?_
  refine j_aload_n hC 0 rfl rfl (dOk_at dt_X8_init 9 rfl) ?_
  refine j_iconst hC (v := (5 : Int32)) rfl (dOk_at dt_X8_init 10 rfl) ?_
  refine j_newaI (atype := .int) (n := 74) (t := 1) (ty := .int) (N := 5) hC aw_int rfl rfl (fun C q => by cases q) (show shp 74 = (20 + 1, 5) from rfl) rfl (by decide) (by decide +kernel) (by decide +kernel) (Nat.le_of_ble_eq_true rfl) (by omega) ⟨Nat.le_of_ble_eq_true rfl, Nat.le_of_ble_eq_true rfl⟩ (dOk_at dt_X8_init 11 rfl) ?_
  refine j_putRc (n := 75) hC hin flX8_19 (fun q hq _ => by cases hq; rfl) (show shp 72 = (8, 15) from rfl) (Nat.le_of_ble_eq_true rfl) (by decide) (by decide) (Or.inr ⟨_, rfl⟩) (dOk_at dt_X8_init 12 rfl) ?_
  refine j_aload_n hC 0 rfl rfl (dOk_at dt_X8_init 13 rfl) ?_
  refine j_iconst hC (v := (5 : Int32)) rfl (dOk_at dt_X8_init 14 rfl) ?_
  refine j_newaI (atype := .int) (n := 75) (t := 1) (ty := .int) (N := 5) hC aw_int rfl rfl (fun C q => by cases q) (show shp 75 = (20 + 1, 5) from rfl) rfl (by decide) (by decide +kernel) (by decide +kernel) (Nat.le_of_ble_eq_true rfl) (by omega) ⟨Nat.le_of_ble_eq_true rfl, Nat.le_of_ble_eq_true rfl⟩ (dOk_at dt_X8_init 15 rfl) ?_
  refine j_putRc (n := 76) hC hin flX8_22 (fun q hq _ => by cases hq; rfl) (show shp 72 = (8, 15) from rfl) (Nat.le_of_ble_eq_true rfl) (by decide) (by decide) (Or.inr ⟨_, rfl⟩) (dOk_at dt_X8_init 16 rfl) ?_
  refine j_aload_n hC 0 rfl rfl (dOk_at dt_X8_init 17 rfl) ?_
  refine j_iconst hC (v := (5 : Int32)) rfl (dOk_at dt_X8_init 18 rfl) ?_
  refine j_newaI (atype := .int) (n := 76) (t := 1) (ty := .int) (N := 5) hC aw_int rfl rfl (fun C q => by cases q) (show shp 76 = (20 + 1, 5) from rfl) rfl (by decide) (by decide +kernel) (by decide +kernel) (Nat.le_of_ble_eq_true rfl) (by omega) ⟨Nat.le_of_ble_eq_true rfl, Nat.le_of_ble_eq_true rfl⟩ (dOk_at dt_X8_init 19 rfl) ?_
  refine j_putRc (n := 77) hC hin flX8_25 (fun q hq _ => by cases hq; rfl) (show shp 72 = (8, 15) from rfl) (Nat.le_of_ble_eq_true rfl) (by decide) (by decide) (Or.inr ⟨_, rfl⟩) (dOk_at dt_X8_init 20 rfl) ?_
  refine j_aload_n hC 0 rfl rfl (dOk_at dt_X8_init 21 rfl) ?_
  refine j_bipush hC (v := (7 : Int32)) rfl (dOk_at dt_X8_init 22 rfl) ?_
  refine j_newaJ (n := 77) (N := 7) hC aw_long (show shp 77 = (22, 7) from rfl) (by decide +kernel) (by decide +kernel) (Nat.le_of_ble_eq_true rfl) (by omega) ⟨Nat.le_of_ble_eq_true rfl, Nat.le_of_ble_eq_true rfl⟩ (dOk_at dt_X8_init 23 rfl) ?_
  refine j_putRc (n := 78) hC hin flX8_28 (fun q hq _ => by cases hq; rfl) (show shp 72 = (8, 15) from rfl) (Nat.le_of_ble_eq_true rfl) (by decide) (by decide) (Or.inr ⟨_, rfl⟩) (dOk_at dt_X8_init 24 rfl) ?_
  refine j_aload_n hC 0 rfl rfl (dOk_at dt_X8_init 25 rfl) ?_
  refine j_iconst hC (v := (1 : Int32)) rfl (dOk_at dt_X8_init 26 rfl) ?_
  refine j_putZc (n := 78) hC hin flX8_32 (fun q hq _ => by cases hq; rfl) (show shp 72 = (8, 15) from rfl) (Nat.le_of_ble_eq_true rfl) (by decide) (by decide) rfl rfl (dOk_at dt_X8_init 27 rfl) ?_
  refine j_aload_n hC 0 rfl rfl (dOk_at dt_X8_init 28 rfl) ?_
  refine j_iconst hC (v := (-1 : Int32)) rfl (dOk_at dt_X8_init 29 rfl) ?_
  refine j_putIc (n := 78) hC hin flX8_36 (fun q hq _ => by cases hq; rfl) (show shp 72 = (8, 15) from rfl) (Nat.le_of_ble_eq_true rfl) (by decide) (by decide) rfl (dOk_at dt_X8_init 30 rfl) ?_
  exact j_vretc hC hret (dOk_at dt_X8_init 31 rfl)
def fX8_init_78 (h : Hp) : Option Hp := some (uI (uI (uR (uR (uR (uR (uR (uR h 78 0 (some 1)) 78 5 (some 79)) 78 6 (some 80)) 78 7 (some 81)) 78 8 (some 82)) 78 9 (some 83)) 78 10 (1 : Int32)) 78 14 (-1 : Int32))
set_option maxRecDepth 100000 in
set_option maxHeartbeats 8000000 in
theorem c_X8_init_78 {l : Launch} {sb : State} {D : va_G} {ids : Nat → ClassId} (h r : Hp) (hr : fX8_init_78 h = some r) : jMc l yX8_init cX8_init 2 1 sb D ids shp 79 5 27 [.ref 78, .ref 1] h (jQc sb D ids shp 84 r) := by
  refine jMc_of (Qc := fun r => jQc sb D ids shp 84 r) hr rfl rfl (Nat.le_of_ble_eq_true rfl) ?_
  intro p e s m args below meth c hC hret hin hs0
  unfold fX8_init_78
  refine j_aload_n hC 0 rfl rfl (dOk_at dt_X8_init 0 rfl) ?_
  refine j_objInit hC oiX8_3 ⟨Nat.le_of_ble_eq_true rfl, Nat.le_of_ble_eq_true rfl⟩ (Nat.le_of_ble_eq_true rfl) (dOk_at dt_X8_init 1 rfl) ?_
  refine j_aload_n hC 0 rfl rfl (dOk_at dt_X8_init 2 rfl) ?_
  refine j_aload_n hC 1 rfl rfl (dOk_at dt_X8_init 3 rfl) ?_
  refine j_putRc (n := 79) hC hin flX8_9 (fun q hq _ => by cases hq; rfl) (show shp 78 = (8, 15) from rfl) (Nat.le_of_ble_eq_true rfl) (by decide) (by decide) (Or.inl ⟨_, rfl⟩) (dOk_at dt_X8_init 4 rfl) ?_
  refine j_aload_n hC 0 rfl rfl (dOk_at dt_X8_init 5 rfl) ?_
  refine j_iconst hC (v := (5 : Int32)) rfl (dOk_at dt_X8_init 6 rfl) ?_
  refine j_newaI (atype := .int) (n := 79) (t := 1) (ty := .int) (N := 5) hC aw_int rfl rfl (fun C q => by cases q) (show shp 79 = (20 + 1, 5) from rfl) rfl (by decide) (by decide +kernel) (by decide +kernel) (Nat.le_of_ble_eq_true rfl) (by omega) ⟨Nat.le_of_ble_eq_true rfl, Nat.le_of_ble_eq_true rfl⟩ (dOk_at dt_X8_init 7 rfl) ?_
  refine j_putRc (n := 80) hC hin flX8_15 (fun q hq _ => by cases hq; rfl) (show shp 78 = (8, 15) from rfl) (Nat.le_of_ble_eq_true rfl) (by decide) (by decide) (Or.inr ⟨_, rfl⟩) (dOk_at dt_X8_init 8 rfl) ?_
  refine j_aload_n hC 0 rfl rfl (dOk_at dt_X8_init 9 rfl) ?_
  refine j_iconst hC (v := (5 : Int32)) rfl (dOk_at dt_X8_init 10 rfl) ?_
  refine j_newaI (atype := .int) (n := 80) (t := 1) (ty := .int) (N := 5) hC aw_int rfl rfl (fun C q => by cases q) (show shp 80 = (20 + 1, 5) from rfl) rfl (by decide) (by decide +kernel) (by decide +kernel) (Nat.le_of_ble_eq_true rfl) (by omega) ⟨Nat.le_of_ble_eq_true rfl, Nat.le_of_ble_eq_true rfl⟩ (dOk_at dt_X8_init 11 rfl) ?_
  refine j_putRc (n := 81) hC hin flX8_19 (fun q hq _ => by cases hq; rfl) (show shp 78 = (8, 15) from rfl) (Nat.le_of_ble_eq_true rfl) (by decide) (by decide) (Or.inr ⟨_, rfl⟩) (dOk_at dt_X8_init 12 rfl) ?_
  refine j_aload_n hC 0 rfl rfl (dOk_at dt_X8_init 13 rfl) ?_
  refine j_iconst hC (v := (5 : Int32)) rfl (dOk_at dt_X8_init 14 rfl) ?_
  refine j_newaI (atype := .int) (n := 81) (t := 1) (ty := .int) (N := 5) hC aw_int rfl rfl (fun C q => by cases q) (show shp 81 = (20 + 1, 5) from rfl) rfl (by decide) (by decide +kernel) (by decide +kernel) (Nat.le_of_ble_eq_true rfl) (by omega) ⟨Nat.le_of_ble_eq_true rfl, Nat.le_of_ble_eq_true rfl⟩ (dOk_at dt_X8_init 15 rfl) ?_
  refine j_putRc (n := 82) hC hin flX8_22 (fun q hq _ => by cases hq; rfl) (show shp 78 = (8, 15) from rfl) (Nat.le_of_ble_eq_true rfl) (by decide) (by decide) (Or.inr ⟨_, rfl⟩) (dOk_at dt_X8_init 16 rfl) ?_
  refine j_aload_n hC 0 rfl rfl (dOk_at dt_X8_init 17 rfl) ?_
  refine j_iconst hC (v := (5 : Int32)) rfl (dOk_at dt_X8_init 18 rfl) ?_
  refine j_newaI (atype := .int) (n := 82) (t := 1) (ty := .int) (N := 5) hC aw_int rfl rfl (fun C q => by cases q) (show shp 82 = (20 + 1, 5) from rfl) rfl (by decide) (by decide +kernel) (by decide +kernel) (Nat.le_of_ble_eq_true rfl) (by omega) ⟨Nat.le_of_ble_eq_true rfl, Nat.le_of_ble_eq_true rfl⟩ (dOk_at dt_X8_init 19 rfl) ?_
  refine j_putRc (n := 83) hC hin flX8_25 (fun q hq _ => by cases hq; rfl) (show shp 78 = (8, 15) from rfl) (Nat.le_of_ble_eq_true rfl) (by decide) (by decide) (Or.inr ⟨_, rfl⟩) (dOk_at dt_X8_init 20 rfl) ?_
  refine j_aload_n hC 0 rfl rfl (dOk_at dt_X8_init 21 rfl) ?_
  refine j_bipush hC (v := (7 : Int32)) rfl (dOk_at dt_X8_init 22 rfl) ?_
  refine j_newaJ (n := 83) (N := 7) hC aw_long (show shp 83 = (22, 7) from rfl) (by decide +kernel) (by decide +kernel) (Nat.le_of_ble_eq_true rfl) (by omega) ⟨Nat.le_of_ble_eq_true rfl, Nat.le_of_ble_eq_true rfl⟩ (dOk_at dt_X8_init 23 rfl) ?_
  refine j_putRc (n := 84) hC hin flX8_28 (fun q hq _ => by cases hq; rfl) (show shp 78 = (8, 15) from rfl) (Nat.le_of_ble_eq_true rfl) (by decide) (by decide) (Or.inr ⟨_, rfl⟩) (dOk_at dt_X8_init 24 rfl) ?_
  refine j_aload_n hC 0 rfl rfl (dOk_at dt_X8_init 25 rfl) ?_
  refine j_iconst hC (v := (1 : Int32)) rfl (dOk_at dt_X8_init 26 rfl) ?_
  refine j_putZc (n := 84) hC hin flX8_32 (fun q hq _ => by cases hq; rfl) (show shp 78 = (8, 15) from rfl) (Nat.le_of_ble_eq_true rfl) (by decide) (by decide) rfl rfl (dOk_at dt_X8_init 27 rfl) ?_
  refine j_aload_n hC 0 rfl rfl (dOk_at dt_X8_init 28 rfl) ?_
  refine j_iconst hC (v := (-1 : Int32)) rfl (dOk_at dt_X8_init 29 rfl) ?_
  refine j_putIc (n := 84) hC hin flX8_36 (fun q hq _ => by cases hq; rfl) (show shp 78 = (8, 15) from rfl) (Nat.le_of_ble_eq_true rfl) (by decide) (by decide) rfl (dOk_at dt_X8_init 30 rfl) ?_
  exact j_vretc hC hret (dOk_at dt_X8_init 31 rfl)
def fX8_init_84 (h : Hp) : Option Hp := some (uI (uI (uR (uR (uR (uR (uR (uR h 84 0 (some 1)) 84 5 (some 85)) 84 6 (some 86)) 84 7 (some 87)) 84 8 (some 88)) 84 9 (some 89)) 84 10 (1 : Int32)) 84 14 (-1 : Int32))
set_option maxRecDepth 100000 in
set_option maxHeartbeats 8000000 in
theorem c_X8_init_84 {l : Launch} {sb : State} {D : va_G} {ids : Nat → ClassId} (h r : Hp) (hr : fX8_init_84 h = some r) : jMc l yX8_init cX8_init 2 1 sb D ids shp 85 5 27 [.ref 84, .ref 1] h (jQc sb D ids shp 90 r) := by
  refine jMc_of (Qc := fun r => jQc sb D ids shp 90 r) hr rfl rfl (Nat.le_of_ble_eq_true rfl) ?_
  intro p e s m args below meth c hC hret hin hs0
  unfold fX8_init_84
  refine j_aload_n hC 0 rfl rfl (dOk_at dt_X8_init 0 rfl) ?_
  refine j_objInit hC oiX8_3 ⟨Nat.le_of_ble_eq_true rfl, Nat.le_of_ble_eq_true rfl⟩ (Nat.le_of_ble_eq_true rfl) (dOk_at dt_X8_init 1 rfl) ?_
  refine j_aload_n hC 0 rfl rfl (dOk_at dt_X8_init 2 rfl) ?_
  refine j_aload_n hC 1 rfl rfl (dOk_at dt_X8_init 3 rfl) ?_
  refine j_putRc (n := 85) hC hin flX8_9 (fun q hq _ => by cases hq; rfl) (show shp 84 = (8, 15) from rfl) (Nat.le_of_ble_eq_true rfl) (by decide) (by decide) (Or.inl ⟨_, rfl⟩) (dOk_at dt_X8_init 4 rfl) ?_
  refine j_aload_n hC 0 rfl rfl (dOk_at dt_X8_init 5 rfl) ?_
  refine j_iconst hC (v := (5 : Int32)) rfl (dOk_at dt_X8_init 6 rfl) ?_
  refine j_newaI (atype := .int) (n := 85) (t := 1) (ty := .int) (N := 5) hC aw_int rfl rfl (fun C q => by cases q) (show shp 85 = (20 + 1, 5) from rfl) rfl (by decide) (by decide +kernel) (by decide +kernel) (Nat.le_of_ble_eq_true rfl) (by omega) ⟨Nat.le_of_ble_eq_true rfl, Nat.le_of_ble_eq_true rfl⟩ (dOk_at dt_X8_init 7 rfl) ?_
  refine j_putRc (n := 86) hC hin flX8_15 (fun q hq _ => by cases hq; rfl) (show shp 84 = (8, 15) from rfl) (Nat.le_of_ble_eq_true rfl) (by decide) (by decide) (Or.inr ⟨_, rfl⟩) (dOk_at dt_X8_init 8 rfl) ?_
  refine j_aload_n hC 0 rfl rfl (dOk_at dt_X8_init 9 rfl) ?_
  refine j_iconst hC (v := (5 : Int32)) rfl (dOk_at dt_X8_init 10 rfl) ?_
  refine j_newaI (atype := .int) (n := 86) (t := 1) (ty := .int) (N := 5) hC aw_int rfl rfl (fun C q => by cases q) (show shp 86 = (20 + 1, 5) from rfl) rfl (by decide) (by decide +kernel) (by decide +kernel) (Nat.le_of_ble_eq_true rfl) (by omega) ⟨Nat.le_of_ble_eq_true rfl, Nat.le_of_ble_eq_true rfl⟩ (dOk_at dt_X8_init 11 rfl) ?_
  refine j_putRc (n := 87) hC hin flX8_19 (fun q hq _ => by cases hq; rfl) (show shp 84 = (8, 15) from rfl) (Nat.le_of_ble_eq_true rfl) (by decide) (by decide) (Or.inr ⟨_, rfl⟩) (dOk_at dt_X8_init 12 rfl) ?_
  refine j_aload_n hC 0 rfl rfl (dOk_at dt_X8_init 13 rfl) ?_
  refine j_iconst hC (v := (5 : Int32)) rfl (dOk_at dt_X8_init 14 rfl) ?_
  refine j_newaI (atype := .int) (n := 87) (t := 1) (ty := .int) (N := 5) hC aw_int rfl rfl (fun C q => by cases q) (show shp 87 = (20 + 1, 5) from rfl) rfl (by decide) (by decide +kernel) (by decide +kernel) (Nat.le_of_ble_eq_true rfl) (by omega) ⟨Nat.le_of_ble_eq_true rfl, Nat.le_of_ble_eq_true rfl⟩ (dOk_at dt_X8_init 15 rfl) ?_
  refine j_putRc (n := 88) hC hin flX8_22 (fun q hq _ => by cases hq; rfl) (show shp 84 = (8, 15) from rfl) (Nat.le_of_ble_eq_true rfl) (by decide) (by decide) (Or.inr ⟨_, rfl⟩) (dOk_at dt_X8_init 16 rfl) ?_
  refine j_aload_n hC 0 rfl rfl (dOk_at dt_X8_init 17 rfl) ?_
  refine j_iconst hC (v := (5 : Int32)) rfl (dOk_at dt_X8_init 18 rfl) ?_
  refine j_newaI (atype := .int) (n := 88) (t := 1) (ty := .int) (N := 5) hC aw_int rfl rfl (fun C q => by cases q) (show shp 88 = (20 + 1, 5) from rfl) rfl (by decide) (by decide +kernel) (by decide +kernel) (Nat.le_of_ble_eq_true rfl) (by omega) ⟨Nat.le_of_ble_eq_true rfl, Nat.le_of_ble_eq_true rfl⟩ (dOk_at dt_X8_init 19 rfl) ?_
  refine j_putRc (n := 89) hC hin flX8_25 (fun q hq _ => by cases hq; rfl) (show shp 84 = (8, 15) from rfl) (Nat.le_of_ble_eq_true rfl) (by decide) (by decide) (Or.inr ⟨_, rfl⟩) (dOk_at dt_X8_init 20 rfl) ?_
  refine j_aload_n hC 0 rfl rfl (dOk_at dt_X8_init 21 rfl) ?_
  refine j_bipush hC (v := (7 : Int32)) rfl (dOk_at dt_X8_init 22 rfl) ?_
  refine j_newaJ (n := 89) (N := 7) hC aw_long (show shp 89 = (22, 7) from rfl) (by decide +kernel) (by decide +kernel) (Nat.le_of_ble_eq_true rfl) (by omega) ⟨Nat.le_of_ble_eq_true rfl, Nat.le_of_ble_eq_true rfl⟩ (dOk_at dt_X8_init 23 rfl) ?_
  refine j_putRc (n := 90) hC hin flX8_28 (fun q hq _ => by cases hq; rfl) (show shp 84 = (8, 15) from rfl) (Nat.le_of_ble_eq_true rfl) (by decide) (by decide) (Or.inr ⟨_, rfl⟩) (dOk_at dt_X8_init 24 rfl) ?_
  refine j_aload_n hC 0 rfl rfl (dOk_at dt_X8_init 25 rfl) ?_
  refine j_iconst hC (v := (1 : Int32)) rfl (dOk_at dt_X8_init 26 rfl) ?_
  refine j_putZc (n := 90) hC hin flX8_32 (fun q hq _ => by cases hq; rfl) (show shp 84 = (8, 15) from rfl) (Nat.le_of_ble_eq_true rfl) (by decide) (by decide) rfl rfl (dOk_at dt_X8_init 27 rfl) ?_
  refine j_aload_n hC 0 rfl rfl (dOk_at dt_X8_init 28 rfl) ?_
  refine j_iconst hC (v := (-1 : Int32)) rfl (dOk_at dt_X8_init 29 rfl) ?_
  refine j_putIc (n := 90) hC hin flX8_36 (fun q hq _ => by cases hq; rfl) (show shp 84 = (8, 15) from rfl) (Nat.le_of_ble_eq_true rfl) (by decide) (by decide) rfl (dOk_at dt_X8_init 30 rfl) ?_
  exact j_vretc hC hret (dOk_at dt_X8_init 31 rfl)
def tb_X4_init : List (Nat × Instr × Nat) := [(0, .aload_n 0, 1), (1, .invokespecial 3, 3), (4, .aload_n 0, 1), (5, .iconst 0, 1), (6, .putfield 9, 3), (9, .aload_n 0, 1), (10, .iconst 0, 1), (11, .putfield 15, 3), (14, .aload_n 0, 1), (15, .bipush 20, 2), (17, .newarray .int, 2), (19, .putfield 18, 3), (22, .aload_n 0, 1), (23, .bipush 20, 2), (25, .newarray .int, 2), (27, .putfield 22, 3), (30, .aload_n 0, 1), (31, .bipush 20, 2), (33, .newarray .int, 2), (35, .putfield 25, 3), (38, .aload_n 0, 1), (39, .bipush 20, 2), (41, .newarray .int, 2), (43, .putfield 28, 3), (46, .aload_n 0, 1), (47, .bipush 20, 2), (49, .newarray .int, 2), (51, .putfield 31, 3), (54, .aload_n 0, 1), (55, .bipush 20, 2), (57, .newarray .int, 2), (59, .putfield 34, 3), (62, .return_, 1)]
theorem dt_X4_init : dOk cX4_init tb_X4_init = true := by decide +kernel
def fX4_init_90 (h : Hp) : Option Hp := some (uR (uR (uR (uR (uR (uR (uI (uI h 90 0 (0 : Int32)) 90 1 (0 : Int32)) 90 2 (some 91)) 90 3 (some 92)) 90 4 (some 93)) 90 5 (some 94)) 90 6 (some 95)) 90 7 (some 96))
set_option maxRecDepth 100000 in
set_option maxHeartbeats 8000000 in
theorem c_X4_init_90 {l : Launch} {sb : State} {D : va_G} {ids : Nat → ClassId} (h r : Hp) (hr : fX4_init_90 h = some r) : jMc l yX4_init cX4_init 1 1 sb D ids shp 91 6 120 [.ref 90] h (jQc sb D ids shp 97 r) := by
  refine jMc_of (Qc := fun r => jQc sb D ids shp 97 r) hr rfl rfl (Nat.le_of_ble_eq_true rfl) ?_
  intro p e s m args below meth c hC hret hin hs0
  unfold fX4_init_90
  refine j_aload_n hC 0 rfl rfl (dOk_at dt_X4_init 0 rfl) ?_
  refine j_objInit hC oiX4_3 ⟨Nat.le_of_ble_eq_true rfl, Nat.le_of_ble_eq_true rfl⟩ (Nat.le_of_ble_eq_true rfl) (dOk_at dt_X4_init 1 rfl) ?_
  refine j_aload_n hC 0 rfl rfl (dOk_at dt_X4_init 2 rfl) ?_
  refine j_iconst hC (v := (0 : Int32)) rfl (dOk_at dt_X4_init 3 rfl) ?_
  refine j_putIc (n := 91) hC hin flX4_9 (fun q hq _ => by cases hq; rfl) (show shp 90 = (4, 8) from rfl) (Nat.le_of_ble_eq_true rfl) (by decide) (by decide) rfl (dOk_at dt_X4_init 4 rfl) ?_
  refine j_aload_n hC 0 rfl rfl (dOk_at dt_X4_init 5 rfl) ?_
  refine j_iconst hC (v := (0 : Int32)) rfl (dOk_at dt_X4_init 6 rfl) ?_
  refine j_putIc (n := 91) hC hin flX4_15 (fun q hq _ => by cases hq; rfl) (show shp 90 = (4, 8) from rfl) (Nat.le_of_ble_eq_true rfl) (by decide) (by decide) rfl (dOk_at dt_X4_init 7 rfl) ?_
  refine j_aload_n hC 0 rfl rfl (dOk_at dt_X4_init 8 rfl) ?_
  refine j_bipush hC (v := (20 : Int32)) rfl (dOk_at dt_X4_init 9 rfl) ?_
  refine j_newaI (atype := .int) (n := 91) (t := 1) (ty := .int) (N := 20) hC aw_int rfl rfl (fun C q => by cases q) (show shp 91 = (20 + 1, 20) from rfl) rfl (by decide) (by decide +kernel) (by decide +kernel) (Nat.le_of_ble_eq_true rfl) (by omega) ⟨Nat.le_of_ble_eq_true rfl, Nat.le_of_ble_eq_true rfl⟩ (dOk_at dt_X4_init 10 rfl) ?_
  refine j_putRc (n := 92) hC hin flX4_18 (fun q hq _ => by cases hq; rfl) (show shp 90 = (4, 8) from rfl) (Nat.le_of_ble_eq_true rfl) (by decide) (by decide) (Or.inr ⟨_, rfl⟩) (dOk_at dt_X4_init 11 rfl) ?_
  refine j_aload_n hC 0 rfl rfl (dOk_at dt_X4_init 12 rfl) ?_
  refine j_bipush hC (v := (20 : Int32)) rfl (dOk_at dt_X4_init 13 rfl) ?_
  refine j_newaI (atype := .int) (n := 92) (t := 1) (ty := .int) (N := 20) hC aw_int rfl rfl (fun C q => by cases q) (show shp 92 = (20 + 1, 20) from rfl) rfl (by decide) (by decide +kernel) (by decide +kernel) (Nat.le_of_ble_eq_true rfl) (by omega) ⟨Nat.le_of_ble_eq_true rfl, Nat.le_of_ble_eq_true rfl⟩ (dOk_at dt_X4_init 14 rfl) ?_
  refine j_putRc (n := 93) hC hin flX4_22 (fun q hq _ => by cases hq; rfl) (show shp 90 = (4, 8) from rfl) (Nat.le_of_ble_eq_true rfl) (by decide) (by decide) (Or.inr ⟨_, rfl⟩) (dOk_at dt_X4_init 15 rfl) ?_
  refine j_aload_n hC 0 rfl rfl (dOk_at dt_X4_init 16 rfl) ?_
  refine j_bipush hC (v := (20 : Int32)) rfl (dOk_at dt_X4_init 17 rfl) ?_
  refine j_newaI (atype := .int) (n := 93) (t := 1) (ty := .int) (N := 20) hC aw_int rfl rfl (fun C q => by cases q) (show shp 93 = (20 + 1, 20) from rfl) rfl (by decide) (by decide +kernel) (by decide +kernel) (Nat.le_of_ble_eq_true rfl) (by omega) ⟨Nat.le_of_ble_eq_true rfl, Nat.le_of_ble_eq_true rfl⟩ (dOk_at dt_X4_init 18 rfl) ?_
  refine j_putRc (n := 94) hC hin flX4_25 (fun q hq _ => by cases hq; rfl) (show shp 90 = (4, 8) from rfl) (Nat.le_of_ble_eq_true rfl) (by decide) (by decide) (Or.inr ⟨_, rfl⟩) (dOk_at dt_X4_init 19 rfl) ?_
  refine j_aload_n hC 0 rfl rfl (dOk_at dt_X4_init 20 rfl) ?_
  refine j_bipush hC (v := (20 : Int32)) rfl (dOk_at dt_X4_init 21 rfl) ?_
  refine j_newaI (atype := .int) (n := 94) (t := 1) (ty := .int) (N := 20) hC aw_int rfl rfl (fun C q => by cases q) (show shp 94 = (20 + 1, 20) from rfl) rfl (by decide) (by decide +kernel) (by decide +kernel) (Nat.le_of_ble_eq_true rfl) (by omega) ⟨Nat.le_of_ble_eq_true rfl, Nat.le_of_ble_eq_true rfl⟩ (dOk_at dt_X4_init 22 rfl) ?_
  refine j_putRc (n := 95) hC hin flX4_28 (fun q hq _ => by cases hq; rfl) (show shp 90 = (4, 8) from rfl) (Nat.le_of_ble_eq_true rfl) (by decide) (by decide) (Or.inr ⟨_, rfl⟩) (dOk_at dt_X4_init 23 rfl) ?_
  refine j_aload_n hC 0 rfl rfl (dOk_at dt_X4_init 24 rfl) ?_
  refine j_bipush hC (v := (20 : Int32)) rfl (dOk_at dt_X4_init 25 rfl) ?_
  refine j_newaI (atype := .int) (n := 95) (t := 1) (ty := .int) (N := 20) hC aw_int rfl rfl (fun C q => by cases q) (show shp 95 = (20 + 1, 20) from rfl) rfl (by decide) (by decide +kernel) (by decide +kernel) (Nat.le_of_ble_eq_true rfl) (by omega) ⟨Nat.le_of_ble_eq_true rfl, Nat.le_of_ble_eq_true rfl⟩ (dOk_at dt_X4_init 26 rfl) ?_
  refine j_putRc (n := 96) hC hin flX4_31 (fun q hq _ => by cases hq; rfl) (show shp 90 = (4, 8) from rfl) (Nat.le_of_ble_eq_true rfl) (by decide) (by decide) (Or.inr ⟨_, rfl⟩) (dOk_at dt_X4_init 27 rfl) ?_
  refine j_aload_n hC 0 rfl rfl (dOk_at dt_X4_init 28 rfl) ?_
  refine j_bipush hC (v := (20 : Int32)) rfl (dOk_at dt_X4_init 29 rfl) ?_
  refine j_newaI (atype := .int) (n := 96) (t := 1) (ty := .int) (N := 20) hC aw_int rfl rfl (fun C q => by cases q) (show shp 96 = (20 + 1, 20) from rfl) rfl (by decide) (by decide +kernel) (by decide +kernel) (Nat.le_of_ble_eq_true rfl) (by omega) ⟨Nat.le_of_ble_eq_true rfl, Nat.le_of_ble_eq_true rfl⟩ (dOk_at dt_X4_init 30 rfl) ?_
  refine j_putRc (n := 97) hC hin flX4_34 (fun q hq _ => by cases hq; rfl) (show shp 90 = (4, 8) from rfl) (Nat.le_of_ble_eq_true rfl) (by decide) (by decide) (Or.inr ⟨_, rfl⟩) (dOk_at dt_X4_init 31 rfl) ?_
  exact j_vretc hC hret (dOk_at dt_X4_init 32 rfl)
def tb_X2_init : List (Nat × Instr × Nat) := [(0, .aload_n 0, 1), (1, .invokespecial 3, 3), (4, .aload_n 0, 1), (5, .iconst 0, 1), (6, .putfield 9, 3), (9, .aload_n 0, 1), (10, .iconst (-1), 1), (11, .putfield 15, 3), (14, .aload_n 0, 1), (15, .bipush 24, 2), (17, .newarray .int, 2), (19, .putfield 18, 3), (22, .aload_n 0, 1), (23, .bipush 24, 2), (25, .newarray .int, 2), (27, .putfield 22, 3), (30, .aload_n 0, 1), (31, .bipush 24, 2), (33, .newarray .int, 2), (35, .putfield 25, 3), (38, .aload_n 0, 1), (39, .bipush 24, 2), (41, .newarray .boolean, 2), (43, .putfield 28, 3), (46, .aload_n 0, 1), (47, .bipush 24, 2), (49, .newarray .int, 2), (51, .putfield 32, 3), (54, .return_, 1)]
theorem dt_X2_init : dOk cX2_init tb_X2_init = true := by decide +kernel
def fX2_init_97 (h : Hp) : Option Hp := some (uR (uR (uR (uR (uR (uI (uI h 97 0 (0 : Int32)) 97 1 (-1 : Int32)) 97 2 (some 98)) 97 3 (some 99)) 97 4 (some 100)) 97 5 (some 101)) 97 6 (some 102))
set_option maxRecDepth 100000 in
set_option maxHeartbeats 8000000 in
theorem c_X2_init_97 {l : Launch} {sb : State} {D : va_G} {ids : Nat → ClassId} (h r : Hp) (hr : fX2_init_97 h = some r) : jMc l yX2_init cX2_init 1 1 sb D ids shp 98 5 120 [.ref 97] h (jQc sb D ids shp 103 r) := by
  refine jMc_of (Qc := fun r => jQc sb D ids shp 103 r) hr rfl rfl (Nat.le_of_ble_eq_true rfl) ?_
  intro p e s m args below meth c hC hret hin hs0
  unfold fX2_init_97
  refine j_aload_n hC 0 rfl rfl (dOk_at dt_X2_init 0 rfl) ?_
  refine j_objInit hC oiX2_3 ⟨Nat.le_of_ble_eq_true rfl, Nat.le_of_ble_eq_true rfl⟩ (Nat.le_of_ble_eq_true rfl) (dOk_at dt_X2_init 1 rfl) ?_
  refine j_aload_n hC 0 rfl rfl (dOk_at dt_X2_init 2 rfl) ?_
  refine j_iconst hC (v := (0 : Int32)) rfl (dOk_at dt_X2_init 3 rfl) ?_
  refine j_putIc (n := 98) hC hin flX2_9 (fun q hq _ => by cases hq; rfl) (show shp 97 = (2, 7) from rfl) (Nat.le_of_ble_eq_true rfl) (by decide) (by decide) rfl (dOk_at dt_X2_init 4 rfl) ?_
  refine j_aload_n hC 0 rfl rfl (dOk_at dt_X2_init 5 rfl) ?_
  refine j_iconst hC (v := (-1 : Int32)) rfl (dOk_at dt_X2_init 6 rfl) ?_
  refine j_putIc (n := 98) hC hin flX2_15 (fun q hq _ => by cases hq; rfl) (show shp 97 = (2, 7) from rfl) (Nat.le_of_ble_eq_true rfl) (by decide) (by decide) rfl (dOk_at dt_X2_init 7 rfl) ?_
  refine j_aload_n hC 0 rfl rfl (dOk_at dt_X2_init 8 rfl) ?_
  refine j_bipush hC (v := (24 : Int32)) rfl (dOk_at dt_X2_init 9 rfl) ?_
  refine j_newaI (atype := .int) (n := 98) (t := 1) (ty := .int) (N := 24) hC aw_int rfl rfl (fun C q => by cases q) (show shp 98 = (20 + 1, 24) from rfl) rfl (by decide) (by decide +kernel) (by decide +kernel) (Nat.le_of_ble_eq_true rfl) (by omega) ⟨Nat.le_of_ble_eq_true rfl, Nat.le_of_ble_eq_true rfl⟩ (dOk_at dt_X2_init 10 rfl) ?_
  refine j_putRc (n := 99) hC hin flX2_18 (fun q hq _ => by cases hq; rfl) (show shp 97 = (2, 7) from rfl) (Nat.le_of_ble_eq_true rfl) (by decide) (by decide) (Or.inr ⟨_, rfl⟩) (dOk_at dt_X2_init 11 rfl) ?_
  refine j_aload_n hC 0 rfl rfl (dOk_at dt_X2_init 12 rfl) ?_
  refine j_bipush hC (v := (24 : Int32)) rfl (dOk_at dt_X2_init 13 rfl) ?_
  refine j_newaI (atype := .int) (n := 99) (t := 1) (ty := .int) (N := 24) hC aw_int rfl rfl (fun C q => by cases q) (show shp 99 = (20 + 1, 24) from rfl) rfl (by decide) (by decide +kernel) (by decide +kernel) (Nat.le_of_ble_eq_true rfl) (by omega) ⟨Nat.le_of_ble_eq_true rfl, Nat.le_of_ble_eq_true rfl⟩ (dOk_at dt_X2_init 14 rfl) ?_
  refine j_putRc (n := 100) hC hin flX2_22 (fun q hq _ => by cases hq; rfl) (show shp 97 = (2, 7) from rfl) (Nat.le_of_ble_eq_true rfl) (by decide) (by decide) (Or.inr ⟨_, rfl⟩) (dOk_at dt_X2_init 15 rfl) ?_
  refine j_aload_n hC 0 rfl rfl (dOk_at dt_X2_init 16 rfl) ?_
  refine j_bipush hC (v := (24 : Int32)) rfl (dOk_at dt_X2_init 17 rfl) ?_
  refine j_newaI (atype := .int) (n := 100) (t := 1) (ty := .int) (N := 24) hC aw_int rfl rfl (fun C q => by cases q) (show shp 100 = (20 + 1, 24) from rfl) rfl (by decide) (by decide +kernel) (by decide +kernel) (Nat.le_of_ble_eq_true rfl) (by omega) ⟨Nat.le_of_ble_eq_true rfl, Nat.le_of_ble_eq_true rfl⟩ (dOk_at dt_X2_init 18 rfl) ?_
  refine j_putRc (n := 101) hC hin flX2_25 (fun q hq _ => by cases hq; rfl) (show shp 97 = (2, 7) from rfl) (Nat.le_of_ble_eq_true rfl) (by decide) (by decide) (Or.inr ⟨_, rfl⟩) (dOk_at dt_X2_init 19 rfl) ?_
  refine j_aload_n hC 0 rfl rfl (dOk_at dt_X2_init 20 rfl) ?_
  refine j_bipush hC (v := (24 : Int32)) rfl (dOk_at dt_X2_init 21 rfl) ?_
  refine j_newaI (atype := .boolean) (n := 101) (t := 3) (ty := .boolean) (N := 24) hC aw_boolean rfl rfl (fun C q => by cases q) (show shp 101 = (20 + 3, 24) from rfl) rfl (by decide) (by decide +kernel) (by decide +kernel) (Nat.le_of_ble_eq_true rfl) (by omega) ⟨Nat.le_of_ble_eq_true rfl, Nat.le_of_ble_eq_true rfl⟩ (dOk_at dt_X2_init 22 rfl) ?_
  refine j_putRc (n := 102) hC hin flX2_28 (fun q hq _ => by cases hq; rfl) (show shp 97 = (2, 7) from rfl) (Nat.le_of_ble_eq_true rfl) (by decide) (by decide) (Or.inr ⟨_, rfl⟩) (dOk_at dt_X2_init 23 rfl) ?_
  refine j_aload_n hC 0 rfl rfl (dOk_at dt_X2_init 24 rfl) ?_
  refine j_bipush hC (v := (24 : Int32)) rfl (dOk_at dt_X2_init 25 rfl) ?_
  refine j_newaI (atype := .int) (n := 102) (t := 1) (ty := .int) (N := 24) hC aw_int rfl rfl (fun C q => by cases q) (show shp 102 = (20 + 1, 24) from rfl) rfl (by decide) (by decide +kernel) (by decide +kernel) (Nat.le_of_ble_eq_true rfl) (by omega) ⟨Nat.le_of_ble_eq_true rfl, Nat.le_of_ble_eq_true rfl⟩ (dOk_at dt_X2_init 26 rfl) ?_
  refine j_putRc (n := 103) hC hin flX2_32 (fun q hq _ => by cases hq; rfl) (show shp 97 = (2, 7) from rfl) (Nat.le_of_ble_eq_true rfl) (by decide) (by decide) (Or.inr ⟨_, rfl⟩) (dOk_at dt_X2_init 27 rfl) ?_
  exact j_vretc hC hret (dOk_at dt_X2_init 28 rfl)
def tb_X3_init : List (Nat × Instr × Nat) := [(0, .aload_n 0, 1), (1, .invokespecial 3, 3), (4, .aload_n 0, 1), (5, .iconst 0, 1), (6, .putfield 9, 3), (9, .aload_n 0, 1), (10, .iconst 5, 1), (11, .newarray .int, 2), (13, .putfield 15, 3), (16, .aload_n 0, 1), (17, .iconst 5, 1), (18, .newarray .int, 2), (20, .putfield 19, 3), (23, .aload_n 0, 1), (24, .sipush 192, 3), (27, .newarray .int, 2), (29, .putfield 22, 3), (32, .return_, 1)]
theorem dt_X3_init : dOk cX3_init tb_X3_init = true := by decide +kernel
def fX3_init_103 (h : Hp) : Option Hp := some (uR (uR (uR (uI h 103 0 (0 : Int32)) 103 1 (some 104)) 103 2 (some 105)) 103 3 (some 106))
set_option maxRecDepth 100000 in
set_option maxHeartbeats 8000000 in
theorem c_X3_init_103 {l : Launch} {sb : State} {D : va_G} {ids : Nat → ClassId} (h r : Hp) (hr : fX3_init_103 h = some r) : jMc l yX3_init cX3_init 1 1 sb D ids shp 104 3 202 [.ref 103] h (jQc sb D ids shp 107 r) := by
  refine jMc_of (Qc := fun r => jQc sb D ids shp 107 r) hr rfl rfl (Nat.le_of_ble_eq_true rfl) ?_
  intro p e s m args below meth c hC hret hin hs0
  unfold fX3_init_103
  refine j_aload_n hC 0 rfl rfl (dOk_at dt_X3_init 0 rfl) ?_
  refine j_objInit hC oiX3_3 ⟨Nat.le_of_ble_eq_true rfl, Nat.le_of_ble_eq_true rfl⟩ (Nat.le_of_ble_eq_true rfl) (dOk_at dt_X3_init 1 rfl) ?_
  refine j_aload_n hC 0 rfl rfl (dOk_at dt_X3_init 2 rfl) ?_
  refine j_iconst hC (v := (0 : Int32)) rfl (dOk_at dt_X3_init 3 rfl) ?_
  refine j_putIc (n := 104) hC hin flX3_9 (fun q hq _ => by cases hq; rfl) (show shp 103 = (3, 4) from rfl) (Nat.le_of_ble_eq_true rfl) (by decide) (by decide) rfl (dOk_at dt_X3_init 4 rfl) ?_
  refine j_aload_n hC 0 rfl rfl (dOk_at dt_X3_init 5 rfl) ?_
  refine j_iconst hC (v := (5 : Int32)) rfl (dOk_at dt_X3_init 6 rfl) ?_
  refine j_newaI (atype := .int) (n := 104) (t := 1) (ty := .int) (N := 5) hC aw_int rfl rfl (fun C q => by cases q) (show shp 104 = (20 + 1, 5) from rfl) rfl (by decide) (by decide +kernel) (by decide +kernel) (Nat.le_of_ble_eq_true rfl) (by omega) ⟨Nat.le_of_ble_eq_true rfl, Nat.le_of_ble_eq_true rfl⟩ (dOk_at dt_X3_init 7 rfl) ?_
  refine j_putRc (n := 105) hC hin flX3_15 (fun q hq _ => by cases hq; rfl) (show shp 103 = (3, 4) from rfl) (Nat.le_of_ble_eq_true rfl) (by decide) (by decide) (Or.inr ⟨_, rfl⟩) (dOk_at dt_X3_init 8 rfl) ?_
  refine j_aload_n hC 0 rfl rfl (dOk_at dt_X3_init 9 rfl) ?_
  refine j_iconst hC (v := (5 : Int32)) rfl (dOk_at dt_X3_init 10 rfl) ?_
  refine j_newaI (atype := .int) (n := 105) (t := 1) (ty := .int) (N := 5) hC aw_int rfl rfl (fun C q => by cases q) (show shp 105 = (20 + 1, 5) from rfl) rfl (by decide) (by decide +kernel) (by decide +kernel) (Nat.le_of_ble_eq_true rfl) (by omega) ⟨Nat.le_of_ble_eq_true rfl, Nat.le_of_ble_eq_true rfl⟩ (dOk_at dt_X3_init 11 rfl) ?_
  refine j_putRc (n := 106) hC hin flX3_19 (fun q hq _ => by cases hq; rfl) (show shp 103 = (3, 4) from rfl) (Nat.le_of_ble_eq_true rfl) (by decide) (by decide) (Or.inr ⟨_, rfl⟩) (dOk_at dt_X3_init 12 rfl) ?_
  refine j_aload_n hC 0 rfl rfl (dOk_at dt_X3_init 13 rfl) ?_
  refine j_sipush hC (v := (192 : Int32)) rfl (dOk_at dt_X3_init 14 rfl) ?_
  refine j_newaI (atype := .int) (n := 106) (t := 1) (ty := .int) (N := 192) hC aw_int rfl rfl (fun C q => by cases q) (show shp 106 = (20 + 1, 192) from rfl) rfl (by decide) (by decide +kernel) (by decide +kernel) (Nat.le_of_ble_eq_true rfl) (by omega) ⟨Nat.le_of_ble_eq_true rfl, Nat.le_of_ble_eq_true rfl⟩ (dOk_at dt_X3_init 15 rfl) ?_
  refine j_putRc (n := 107) hC hin flX3_22 (fun q hq _ => by cases hq; rfl) (show shp 103 = (3, 4) from rfl) (Nat.le_of_ble_eq_true rfl) (by decide) (by decide) (Or.inr ⟨_, rfl⟩) (dOk_at dt_X3_init 16 rfl) ?_
  exact j_vretc hC hret (dOk_at dt_X3_init 17 rfl)
def tb_X9_init : List (Nat × Instr × Nat) := [(0, .aload_n 0, 1), (1, .invokespecial 1, 3), (4, .aload_n 0, 1), (5, .new 7, 3), (8, .dup, 1), (9, .invokespecial 9, 3), (12, .putfield 10, 3), (15, .aload_n 0, 1), (16, .new 7, 3), (19, .dup, 1), (20, .invokespecial 9, 3), (23, .putfield 16, 3), (26, .aload_n 0, 1), (27, .new 19, 3), (30, .dup, 1), (31, .aload_n 0, 1), (32, .getfield 16, 3), (35, .invokespecial 21, 3), (38, .putfield 24, 3), (41, .aload_n 0, 1), (42, .iconst 0, 1), (43, .putfield 28, 3), (46, .aload_n 0, 1), (47, .iconst (-1), 1), (48, .putfield 32, 3), (51, .aload_n 0, 1), (52, .new 35, 3), (55, .dup, 1), (56, .aload_n 0, 1), (57, .getfield 10, 3), (60, .invokespecial 37, 3), (63, .putfield 38, 3), (66, .aload_n 0, 1), (67, .new 35, 3), (70, .dup, 1), (71, .aload_n 0, 1), (72, .getfield 10, 3), (75, .invokespecial 37, 3), (78, .putfield 42, 3), (81, .aload_n 0, 1), (82, .new 35, 3), (85, .dup, 1), (86, .aload_n 0, 1), (87, .getfield 10, 3), (90, .invokespecial 37, 3), (93, .putfield 45, 3), (96, .aload_n 0, 1), (97, .iconst 0, 1), (98, .putfield 48, 3), (101, .aload_n 0, 1), (102, .new 52, 3), (105, .dup, 1), (106, .invokespecial 54, 3), (109, .putfield 55, 3), (112, .aload_n 0, 1), (113, .new 59, 3), (116, .dup, 1), (117, .invokespecial 61, 3), (120, .putfield 62, 3), (123, .aload_n 0, 1), (124, .new 66, 3), (127, .dup, 1), (128, .invokespecial 68, 3), (131, .putfield 69, 3), (134, .return_, 1)]
theorem dt_X9_init : dOk cX9_init tb_X9_init = true := by decide +kernel
def fX9_init_0 (h : Hp) : Option Hp := (fX7_init_1 h).bind (fun h_1 => (fX7_init_35 (uR h_1 0 3 (some 1))).bind (fun h_2 => if hR (uR h_2 0 4 (some 35)) 0 4 = some 35 then ((fX5_init_69 (uR h_2 0 4 (some 35))).bind (fun h_3 => if hR (uI (uI (uR h_3 0 0 (some 69)) 0 1 (0 : Int32)) 0 2 (-1 : Int32)) 0 3 = some 1 then ((fX8_init_72 (uI (uI (uR h_3 0 0 (some 69)) 0 1 (0 : Int32)) 0 2 (-1 : Int32))).bind (fun h_4 => if hR (uR h_4 0 5 (some 72)) 0 3 = some 1 then ((fX8_init_78 (uR h_4 0 5 (some 72))).bind (fun h_5 => if hR (uR h_5 0 6 (some 78)) 0 3 = some 1 then ((fX8_init_84 (uR h_5 0 6 (some 78))).bind (fun h_6 => (fX4_init_90 (uI (uR h_6 0 7 (some 84)) 0 8 (0 : Int32))).bind (fun h_7 => (fX2_init_97 (uR h_7 0 9 (some 90))).bind (fun h_8 => (fX3_init_103 (uR h_8 0 10 (some 97))).bind (fun h_9 => some (uR h_9 0 11 (some 103))))))) else none)) else none)) else none)) else none))
set_option maxRecDepth 100000 in
set_option maxHeartbeats 8000000 in
theorem c_X9_init_0 {l : Launch} {sb : State} {D : va_G} {ids : Nat → ClassId} (hAO : va_AO "StrawMen$Law" sb) (hW : jS sb) (h r : Hp) (hr : fX9_init_0 h = some r) : jMc l yX9_init cX9_init 1 7 sb D ids shp 1 106 2540 [.ref 0] h (jQc sb D ids shp 107 r) := by
  refine jMc_of (Qc := fun r => jQc sb D ids shp 107 r) hr rfl rfl (Nat.le_of_ble_eq_true rfl) ?_
  intro p e s m args below meth c hC hret hin hs0
  unfold fX9_init_0
  refine j_aload_n hC 0 rfl rfl (dOk_at dt_X9_init 0 rfl) ?_
  refine j_objInit hC oiX9_1 ⟨Nat.le_of_ble_eq_true rfl, Nat.le_of_ble_eq_true rfl⟩ (Nat.le_of_ble_eq_true rfl) (dOk_at dt_X9_init 1 rfl) ?_
  refine j_aload_n hC 0 rfl rfl (dOk_at dt_X9_init 2 rfl) ?_
  refine j_new (n := 1) hC nwX9_7 rfl (show shp 1 = (7, 20) from rfl) (by decide) (by decide) (by omega) ⟨Nat.le_of_ble_eq_true rfl, Nat.le_of_ble_eq_true rfl⟩ (dOk_at dt_X9_init 3 rfl) ?_
  refine j_dupr hC (dOk_at dt_X9_init 4 rfl) ?_
  refine j_callC (n := 2) hC ciX9_9 (fun r0 hr0 => c_X7_init_1 hAO _ r0 hr0) rfl ⟨Nat.le_of_ble_eq_true rfl, Nat.le_of_ble_eq_true rfl⟩ ⟨Nat.le_of_ble_eq_true rfl, Nat.le_of_ble_eq_true rfl⟩ (by omega) (As := []) (st := [.ref 1, .ref 0]) rfl (Nat.le_of_ble_eq_true rfl) (dOk_at dt_X9_init 5 rfl) (fun h_1 _ => ?_)
  refine j_putRc (n := 35) hC hin flX9_10 (fun q hq _ => by cases hq; rfl) (show shp 0 = (9, 12) from rfl) (Nat.le_of_ble_eq_true rfl) (by decide) (by decide) (Or.inl ⟨_, rfl⟩) (dOk_at dt_X9_init 6 rfl) ?_
  refine j_aload_n hC 0 rfl rfl (dOk_at dt_X9_init 7 rfl) ?_
  refine j_new (n := 35) hC nwX9_7 rfl (show shp 35 = (7, 20) from rfl) (by decide) (by decide) (by omega) ⟨Nat.le_of_ble_eq_true rfl, Nat.le_of_ble_eq_true rfl⟩ (dOk_at dt_X9_init 8 rfl) ?_
  refine j_dupr hC (dOk_at dt_X9_init 9 rfl) ?_
  refine j_callC (n := 36) hC ciX9_9 (fun r0 hr0 => c_X7_init_35 hAO _ r0 hr0) rfl ⟨Nat.le_of_ble_eq_true rfl, Nat.le_of_ble_eq_true rfl⟩ ⟨Nat.le_of_ble_eq_true rfl, Nat.le_of_ble_eq_true rfl⟩ (by omega) (As := []) (st := [.ref 35, .ref 0]) rfl (Nat.le_of_ble_eq_true rfl) (dOk_at dt_X9_init 10 rfl) (fun h_2 _ => ?_)
  refine j_putRc (n := 69) hC hin flX9_16 (fun q hq _ => by cases hq; rfl) (show shp 0 = (9, 12) from rfl) (Nat.le_of_ble_eq_true rfl) (by decide) (by decide) (Or.inl ⟨_, rfl⟩) (dOk_at dt_X9_init 11 rfl) ?_
  refine j_aload_n hC 0 rfl rfl (dOk_at dt_X9_init 12 rfl) ?_
  refine j_new (n := 69) hC nwX9_19 rfl (show shp 69 = (5, 16) from rfl) (by decide) (by decide) (by omega) ⟨Nat.le_of_ble_eq_true rfl, Nat.le_of_ble_eq_true rfl⟩ (dOk_at dt_X9_init 13 rfl) ?_
  refine j_dupr hC (dOk_at dt_X9_init 14 rfl) ?_
  refine j_aload_n hC 0 rfl rfl (dOk_at dt_X9_init 15 rfl) ?_
  refine j_getE (n := 70) (x := 35) hC flX9_16 (show shp 0 = (9, 12) from rfl) (Nat.le_of_ble_eq_true rfl) (by decide) (by decide) (fun _ _ _ => rfl) (dOk_at dt_X9_init 16 rfl) ?_
  refine j_callC (n := 70) hC ciX9_21 (fun r0 hr0 => c_X5_init_69 hW _ r0 hr0) rfl ⟨Nat.le_of_ble_eq_true rfl, Nat.le_of_ble_eq_true rfl⟩ ⟨Nat.le_of_ble_eq_true rfl, Nat.le_of_ble_eq_true rfl⟩ (by omega) (As := [.ref 35]) (st := [.ref 69, .ref 0]) rfl (Nat.le_of_ble_eq_true rfl) (dOk_at dt_X9_init 17 rfl) (fun h_3 _ => ?_)
  refine j_putRc (n := 72) hC hin flX9_24 (fun q hq _ => by cases hq; rfl) (show shp 0 = (9, 12) from rfl) (Nat.le_of_ble_eq_true rfl) (by decide) (by decide) (Or.inl ⟨_, rfl⟩) (dOk_at dt_X9_init 18 rfl) ?_
  refine j_aload_n hC 0 rfl rfl (dOk_at dt_X9_init 19 rfl) ?_
  refine j_iconst hC (v := (0 : Int32)) rfl (dOk_at dt_X9_init 20 rfl) ?_
  refine j_putIc (n := 72) hC hin flX9_28 (fun q hq _ => by cases hq; rfl) (show shp 0 = (9, 12) from rfl) (Nat.le_of_ble_eq_true rfl) (by decide) (by decide) rfl (dOk_at dt_X9_init 21 rfl) ?_
  refine j_aload_n hC 0 rfl rfl (dOk_at dt_X9_init 22 rfl) ?_
  refine j_iconst hC (v := (-1 : Int32)) rfl (dOk_at dt_X9_init 23 rfl) ?_
  refine j_putIc (n := 72) hC hin flX9_32 (fun q hq _ => by cases hq; rfl) (show shp 0 = (9, 12) from rfl) (Nat.le_of_ble_eq_true rfl) (by decide) (by decide) rfl (dOk_at dt_X9_init 24 rfl) ?_
  refine j_aload_n hC 0 rfl rfl (dOk_at dt_X9_init 25 rfl) ?_
  refine j_new (n := 72) hC nwX9_35 rfl (show shp 72 = (8, 15) from rfl) (by decide) (by decide) (by omega) ⟨Nat.le_of_ble_eq_true rfl, Nat.le_of_ble_eq_true rfl⟩ (dOk_at dt_X9_init 26 rfl) ?_
  refine j_dupr hC (dOk_at dt_X9_init 27 rfl) ?_
  refine j_aload_n hC 0 rfl rfl (dOk_at dt_X9_init 28 rfl) ?_
  refine j_getE (n := 73) (x := 1) hC flX9_10 (show shp 0 = (9, 12) from rfl) (Nat.le_of_ble_eq_true rfl) (by decide) (by decide) (fun _ _ _ => rfl) (dOk_at dt_X9_init 29 rfl) ?_
  refine j_callC (n := 73) hC ciX9_37 (fun r0 hr0 => c_X8_init_72 _ r0 hr0) rfl ⟨Nat.le_of_ble_eq_true rfl, Nat.le_of_ble_eq_true rfl⟩ ⟨Nat.le_of_ble_eq_true rfl, Nat.le_of_ble_eq_true rfl⟩ (by omega) (As := [.ref 1]) (st := [.ref 72, .ref 0]) rfl (Nat.le_of_ble_eq_true rfl) (dOk_at dt_X9_init 30 rfl) (fun h_4 _ => ?_)
  refine j_putRc (n := 78) hC hin flX9_38 (fun q hq _ => by cases hq; rfl) (show shp 0 = (9, 12) from rfl) (Nat.le_of_ble_eq_true rfl) (by decide) (by decide) (Or.inl ⟨_, rfl⟩) (dOk_at dt_X9_init 31 rfl) ?_
  refine j_aload_n hC 0 rfl rfl (dOk_at dt_X9_init 32 rfl) ?_
  refine j_new (n := 78) hC nwX9_35 rfl (show shp 78 = (8, 15) from rfl) (by decide) (by decide) (by omega) ⟨Nat.le_of_ble_eq_true rfl, Nat.le_of_ble_eq_true rfl⟩ (dOk_at dt_X9_init 33 rfl) ?_
  refine j_dupr hC (dOk_at dt_X9_init 34 rfl) ?_
  refine j_aload_n hC 0 rfl rfl (dOk_at dt_X9_init 35 rfl) ?_
  refine j_getE (n := 79) (x := 1) hC flX9_10 (show shp 0 = (9, 12) from rfl) (Nat.le_of_ble_eq_true rfl) (by decide) (by decide) (fun _ _ _ => rfl) (dOk_at dt_X9_init 36 rfl) ?_
  refine j_callC (n := 79) hC ciX9_37 (fun r0 hr0 => c_X8_init_78 _ r0 hr0) rfl ⟨Nat.le_of_ble_eq_true rfl, Nat.le_of_ble_eq_true rfl⟩ ⟨Nat.le_of_ble_eq_true rfl, Nat.le_of_ble_eq_true rfl⟩ (by omega) (As := [.ref 1]) (st := [.ref 78, .ref 0]) rfl (Nat.le_of_ble_eq_true rfl) (dOk_at dt_X9_init 37 rfl) (fun h_5 _ => ?_)
  refine j_putRc (n := 84) hC hin flX9_42 (fun q hq _ => by cases hq; rfl) (show shp 0 = (9, 12) from rfl) (Nat.le_of_ble_eq_true rfl) (by decide) (by decide) (Or.inl ⟨_, rfl⟩) (dOk_at dt_X9_init 38 rfl) ?_
  refine j_aload_n hC 0 rfl rfl (dOk_at dt_X9_init 39 rfl) ?_
  refine j_new (n := 84) hC nwX9_35 rfl (show shp 84 = (8, 15) from rfl) (by decide) (by decide) (by omega) ⟨Nat.le_of_ble_eq_true rfl, Nat.le_of_ble_eq_true rfl⟩ (dOk_at dt_X9_init 40 rfl) ?_
  refine j_dupr hC (dOk_at dt_X9_init 41 rfl) ?_
  refine j_aload_n hC 0 rfl rfl (dOk_at dt_X9_init 42 rfl) ?_
  refine j_getE (n := 85) (x := 1) hC flX9_10 (show shp 0 = (9, 12) from rfl) (Nat.le_of_ble_eq_true rfl) (by decide) (by decide) (fun _ _ _ => rfl) (dOk_at dt_X9_init 43 rfl) ?_
  refine j_callC (n := 85) hC ciX9_37 (fun r0 hr0 => c_X8_init_84 _ r0 hr0) rfl ⟨Nat.le_of_ble_eq_true rfl, Nat.le_of_ble_eq_true rfl⟩ ⟨Nat.le_of_ble_eq_true rfl, Nat.le_of_ble_eq_true rfl⟩ (by omega) (As := [.ref 1]) (st := [.ref 84, .ref 0]) rfl (Nat.le_of_ble_eq_true rfl) (dOk_at dt_X9_init 44 rfl) (fun h_6 _ => ?_)
  refine j_putRc (n := 90) hC hin flX9_45 (fun q hq _ => by cases hq; rfl) (show shp 0 = (9, 12) from rfl) (Nat.le_of_ble_eq_true rfl) (by decide) (by decide) (Or.inl ⟨_, rfl⟩) (dOk_at dt_X9_init 45 rfl) ?_
  refine j_aload_n hC 0 rfl rfl (dOk_at dt_X9_init 46 rfl) ?_
  refine j_iconst hC (v := (0 : Int32)) rfl (dOk_at dt_X9_init 47 rfl) ?_
  refine j_putZc (n := 90) hC hin flX9_48 (fun q hq _ => by cases hq; rfl) (show shp 0 = (9, 12) from rfl) (Nat.le_of_ble_eq_true rfl) (by decide) (by decide) rfl rfl (dOk_at dt_X9_init 48 rfl) ?_
  refine j_aload_n hC 0 rfl rfl (dOk_at dt_X9_init 49 rfl) ?_
  refine j_new (n := 90) hC nwX9_52 rfl (show shp 90 = (4, 8) from rfl) (by decide) (by decide) (by omega) ⟨Nat.le_of_ble_eq_true rfl, Nat.le_of_ble_eq_true rfl⟩ (dOk_at dt_X9_init 50 rfl) ?_
  refine j_dupr hC (dOk_at dt_X9_init 51 rfl) ?_
  refine j_callC (n := 91) hC ciX9_54 (fun r0 hr0 => c_X4_init_90 _ r0 hr0) rfl ⟨Nat.le_of_ble_eq_true rfl, Nat.le_of_ble_eq_true rfl⟩ ⟨Nat.le_of_ble_eq_true rfl, Nat.le_of_ble_eq_true rfl⟩ (by omega) (As := []) (st := [.ref 90, .ref 0]) rfl (Nat.le_of_ble_eq_true rfl) (dOk_at dt_X9_init 52 rfl) (fun h_7 _ => ?_)
  refine j_putRc (n := 97) hC hin flX9_55 (fun q hq _ => by cases hq; rfl) (show shp 0 = (9, 12) from rfl) (Nat.le_of_ble_eq_true rfl) (by decide) (by decide) (Or.inl ⟨_, rfl⟩) (dOk_at dt_X9_init 53 rfl) ?_
  refine j_aload_n hC 0 rfl rfl (dOk_at dt_X9_init 54 rfl) ?_
  refine j_new (n := 97) hC nwX9_59 rfl (show shp 97 = (2, 7) from rfl) (by decide) (by decide) (by omega) ⟨Nat.le_of_ble_eq_true rfl, Nat.le_of_ble_eq_true rfl⟩ (dOk_at dt_X9_init 55 rfl) ?_
  refine j_dupr hC (dOk_at dt_X9_init 56 rfl) ?_
  refine j_callC (n := 98) hC ciX9_61 (fun r0 hr0 => c_X2_init_97 _ r0 hr0) rfl ⟨Nat.le_of_ble_eq_true rfl, Nat.le_of_ble_eq_true rfl⟩ ⟨Nat.le_of_ble_eq_true rfl, Nat.le_of_ble_eq_true rfl⟩ (by omega) (As := []) (st := [.ref 97, .ref 0]) rfl (Nat.le_of_ble_eq_true rfl) (dOk_at dt_X9_init 57 rfl) (fun h_8 _ => ?_)
  refine j_putRc (n := 103) hC hin flX9_62 (fun q hq _ => by cases hq; rfl) (show shp 0 = (9, 12) from rfl) (Nat.le_of_ble_eq_true rfl) (by decide) (by decide) (Or.inl ⟨_, rfl⟩) (dOk_at dt_X9_init 58 rfl) ?_
  refine j_aload_n hC 0 rfl rfl (dOk_at dt_X9_init 59 rfl) ?_
  refine j_new (n := 103) hC nwX9_66 rfl (show shp 103 = (3, 4) from rfl) (by decide) (by decide) (by omega) ⟨Nat.le_of_ble_eq_true rfl, Nat.le_of_ble_eq_true rfl⟩ (dOk_at dt_X9_init 60 rfl) ?_
  refine j_dupr hC (dOk_at dt_X9_init 61 rfl) ?_
  refine j_callC (n := 104) hC ciX9_68 (fun r0 hr0 => c_X3_init_103 _ r0 hr0) rfl ⟨Nat.le_of_ble_eq_true rfl, Nat.le_of_ble_eq_true rfl⟩ ⟨Nat.le_of_ble_eq_true rfl, Nat.le_of_ble_eq_true rfl⟩ (by omega) (As := []) (st := [.ref 103, .ref 0]) rfl (Nat.le_of_ble_eq_true rfl) (dOk_at dt_X9_init 62 rfl) (fun h_9 _ => ?_)
  refine j_putRc (n := 107) hC hin flX9_69 (fun q hq _ => by cases hq; rfl) (show shp 0 = (9, 12) from rfl) (Nat.le_of_ble_eq_true rfl) (by decide) (by decide) (Or.inl ⟨_, rfl⟩) (dOk_at dt_X9_init 63 rfl) ?_
  exact j_vretc hC hret (dOk_at dt_X9_init 64 rfl)
