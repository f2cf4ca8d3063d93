/-! The String constant WORDS: its length and its chars by the JDK's own members; Reader.packed. Printed by wip/whole/gen_str.py. -/
def wrdL : List Int32 := [99, 108, 97, 105, 109, 32, 99, 111, 110, 116, 114, 97, 115, 116, 114, 97, 119, 32, 109, 101, 109, 98, 101, 114, 104, 111, 108, 100, 115, 32, 100, 101, 98, 97, 116, 101, 115, 116, 117, 102, 102, 32, 100, 97, 109, 112, 32, 32, 115, 101, 101, 100, 32, 32, 108, 97, 119, 32, 32, 32, 108, 101, 97, 110, 32, 32, 119, 101, 97, 114, 32, 32, 116, 117, 114, 110, 32, 32, 111, 114, 32, 32, 32, 32, 97, 110, 100, 32, 32, 32, 110, 111, 116, 32, 32, 32, 119, 101, 105, 103, 104, 116, 116, 101, 109, 112, 101, 114, 102, 117, 108, 108, 32, 32, 102, 111, 114, 99, 101, 32, 119, 105, 110, 115, 32, 32, 104, 101, 108, 100, 32, 32, 110, 105, 103, 104, 116, 32]
def wrd (j : Nat) : Int32 := wrdL.getD j 0
def wrdT : String := "claim contrastraw memberholds debatestuff damp  seed  law   lean  wear  turn  or    and   not   weighttemperfull  force wins  held  night "
def jSs (sb : State) (aK aV : Nat) : Prop := vk_R RX5 44 wrdT aK sb ∧ va_O RJ0 aK (jA sb) sb sb.heap ∧ va_OF RJ0 "coder" "B" (.int 0) aK (jA sb) sb sb.heap ∧ va_OF RJ0 "value" "[B" (.ref aV) aK (jA sb) sb sb.heap ∧ va_T .byte aV 138 (fun j => .int (wrd j)) (jA sb) sb sb.heap ∧ va_Z RJ0 "COMPACT_STRINGS" "Z" (.int 1) (jA sb) sb sb.heap ∧ va_Zq RJ3 "SIOOBE_FORMATTER" "Ljava/util/function/BiFunction;" (jA sb) sb sb.heap
def jS (sb : State) : Prop := ∃ aK aV : Nat, jSs sb aK aV
section JIF
variable {ρ : Type} {p : Program} {l : Launch} {e : Env} {R : Room} {s : State} {m : MethodId} {args : Array Value} {below : List Frame} {meth : Method} {c : Code} {cc : ByteArray} {own : String} {nL : Nat} {sb : State} {D : va_G} {ids : Nat → ClassId} {sh : Nat → Nat × Nat} {SP : Hp → Prop} {Q : ρ → State → Prop} {n kc ks : Nat} {h : Hp} {pc : Nat} {lv : List (Nat × Value)} {st : List Value} {o : Option ρ}
theorem j_if_eqF {x : Int32} {off : Int} {tgt : Nat} (hC : jC p s m args meth c cc own nL sb D ids) (hq : ¬ x = 0) (ht : (pc : Int) + off = (tgt : Int)) (hd : decode cc pc = .ok (.ifCond .eq off, 3)) (kk : jJ p l e R s m args below meth c nL sb D ids sh SP Q n kc ks h (pc + 3) lv st o) : jJ p l e R s m args below meth c nL sb D ids sh SP Q n kc ks h pc lv (.int x :: st) o := by
  have k := j_if_eq (o1 := o) (o2 := o) hC ht hd (fun q => absurd q hq) (fun _ => kk)
  rw [if_neg hq] at k
  exact k
theorem j_if_neF {x : Int32} {off : Int} {tgt : Nat} (hC : jC p s m args meth c cc own nL sb D ids) (hq : x = 0) (ht : (pc : Int) + off = (tgt : Int)) (hd : decode cc pc = .ok (.ifCond .ne off, 3)) (kk : jJ p l e R s m args below meth c nL sb D ids sh SP Q n kc ks h (pc + 3) lv st o) : jJ p l e R s m args below meth c nL sb D ids sh SP Q n kc ks h pc lv (.int x :: st) o := by
  have k := j_if_ne (o1 := o) (o2 := o) hC ht hd (fun q => absurd hq q) (fun _ => kk)
  rw [if_pos hq] at k
  exact k
end JIF
def tb_J0_coder_7d493 : List (Nat × Instr × Nat) := [(0, .getstatic 38, 3), (3, .ifCond .eq 10, 3), (6, .aload_n 0, 1), (7, .getfield 15, 3), (10, .goto 4, 3), (13, .iconst 1, 1), (14, .ireturn, 1)]
theorem dt_J0_coder_7d493 : dOk cJ0_coder_7d493 tb_J0_coder_7d493 = true := by decide +kernel
def tb_J0_isLatin1_aae02 : List (Nat × Instr × Nat) := [(0, .getstatic 38, 3), (3, .ifCond .eq 14, 3), (6, .aload_n 0, 1), (7, .getfield 15, 3), (10, .ifCond .ne 7, 3), (13, .iconst 1, 1), (14, .goto 4, 3), (17, .iconst 0, 1), (18, .ireturn, 1)]
theorem dt_J0_isLatin1_aae02 : dOk cJ0_isLatin1_aae02 tb_J0_isLatin1_aae02 = true := by decide +kernel
def tb_J0_length_8abf5 : List (Nat × Instr × Nat) := [(0, .aload_n 0, 1), (1, .getfield 9, 3), (4, .arraylength, 1), (5, .aload_n 0, 1), (6, .invokevirtual 335, 3), (9, .ishr, 1), (10, .ireturn, 1)]
theorem dt_J0_length_8abf5 : dOk cJ0_length_8abf5 tb_J0_length_8abf5 = true := by decide +kernel
def tb_J0_charAt_5068e : List (Nat × Instr × Nat) := [(0, .aload_n 0, 1), (1, .invokevirtual 492, 3), (4, .ifCond .eq 12, 3), (7, .aload_n 0, 1), (8, .getfield 9, 3), (11, .iload_n 1, 1), (12, .invokestatic 495, 3), (15, .ireturn, 1), (16, .aload_n 0, 1), (17, .getfield 9, 3), (20, .iload_n 1, 1), (21, .invokestatic 498, 3), (24, .ireturn, 1)]
theorem dt_J0_charAt_5068e : dOk cJ0_charAt_5068e tb_J0_charAt_5068e = true := by decide +kernel
def tb_J1_charAt_3b067 : List (Nat × Instr × Nat) := [(0, .iload_n 1, 1), (1, .aload_n 0, 1), (2, .arraylength, 1), (3, .invokestatic 9, 3), (6, .aload_n 0, 1), (7, .iload_n 1, 1), (8, .baload, 1), (9, .sipush 255, 3), (12, .iand, 1), (13, .i2c, 1), (14, .ireturn, 1)]
theorem dt_J1_charAt_3b067 : dOk cJ1_charAt_3b067 tb_J1_charAt_3b067 = true := by decide +kernel
def tb_J0_checkIndex_df160 : List (Nat × Instr × Nat) := [(0, .iload_n 0, 1), (1, .iload_n 1, 1), (2, .getstatic 1053, 3), (5, .invokestatic 1059, 3), (8, .pop, 1), (9, .return_, 1)]
theorem dt_J0_checkIndex_df160 : dOk cJ0_checkIndex_df160 tb_J0_checkIndex_df160 = true := by decide +kernel
def tb_J3_checkIndex_8e157 : List (Nat × Instr × Nat) := [(0, .iload_n 0, 1), (1, .ifCond .lt 8, 3), (4, .iload_n 0, 1), (5, .iload_n 1, 1), (6, .if_icmp .lt 10, 3), (9, .aload_n 2, 1), (10, .iload_n 0, 1), (11, .iload_n 1, 1), (12, .invokestatic 95, 3), (15, .athrow, 1), (16, .iload_n 0, 1), (17, .ireturn, 1)]
theorem dt_J3_checkIndex_8e157 : dOk cJ3_checkIndex_8e157 tb_J3_checkIndex_8e157 = true := by decide +kernel
def tb_X5_packed : List (Nat × Instr × Nat) := [(0, .iconst 0, 1), (1, .istore_n 1, 1), (2, .iload_n 0, 1), (3, .istore_n 2, 1), (4, .iload_n 2, 1), (5, .iload_n 0, 1), (6, .bipush 6, 2), (8, .iadd, 1), (9, .if_icmp .ge 46, 3), (12, .iload_n 2, 1), (13, .ldc 44, 2), (15, .invokevirtual 46, 3), (18, .if_icmp .ge 37, 3), (21, .ldc 44, 2), (23, .iload_n 2, 1), (24, .invokevirtual 52, 3), (27, .istore_n 3, 1), (28, .iload_n 1, 1), (29, .iconst 5, 1), (30, .ishl, 1), (31, .iload_n 3, 1), (32, .bipush 32, 2), (34, .if_icmp .ne 7, 3), (37, .iconst 0, 1), (38, .goto 9, 3), (41, .iload_n 3, 1), (42, .bipush 97, 2), (44, .isub, 1), (45, .iconst 1, 1), (46, .iadd, 1), (47, .ior, 1), (48, .istore_n 1, 1), (49, .iinc 2 1, 3), (52, .goto (-48), 3), (55, .iload_n 1, 1), (56, .ireturn, 1)]
theorem dt_X5_packed : dOk cX5_packed tb_X5_packed = true := by decide +kernel
def fJ0_coder_7d493 (h : Hp) : Option (Int32 × Hp) := some ((0 : Int32), h)
theorem c_J0_coder_7d493 {l : Launch} {sb : State} {D : va_G} {ids : Nat → ClassId} {sh : Nat → Nat × Nat} {n : Nat} {SP : Hp → Prop} {aK aV : Nat} (hS : jSs sb aK aV) (h : Hp) (r : Int32 × Hp) (hr : fJ0_coder_7d493 h = some r) : jM l yJ0_coder_7d493 cJ0_coder_7d493 1 (some .byte) 0 sb D ids sh SP n [.retAddr aK] h (jQi sb D ids sh SP n r) := by
  refine jM_of hr rfl (Nat.le_of_ble_eq_true rfl) ?_
  intro p e s m args below meth c hC hret
  obtain ⟨hs1, hs2, hs3, hs4, hs5, hs6, hs7⟩ := hS
  unfold fJ0_coder_7d493
  refine j_xgetsI hC hs6 (sg2 (List.mem_of_getElem? (i := 6) rfl) rfl) (dOk_at dt_J0_coder_7d493 0 rfl) ?_
  refine j_if_eqF hC (by decide) (tgt := 13) (by decide) (dOk_at dt_J0_coder_7d493 1 rfl) ?_
  refine j_xaload_n hC 0 rfl rfl (dOk_at dt_J0_coder_7d493 2 rfl) ?_
  refine j_xgetI hC hs3 (sg10 (List.mem_of_getElem? (i := 14) rfl) rfl) (dOk_at dt_J0_coder_7d493 3 rfl) ?_
  refine j_goto hC (tgt := 14) (by decide) (dOk_at dt_J0_coder_7d493 4 rfl) ?_
  exact j_tret hC hret rfl (dOk_at dt_J0_coder_7d493 6 rfl)
def fJ0_isLatin1_aae02 (h : Hp) : Option (Int32 × Hp) := some ((1 : Int32), h)
theorem c_J0_isLatin1_aae02 {l : Launch} {sb : State} {D : va_G} {ids : Nat → ClassId} {sh : Nat → Nat × Nat} {n : Nat} {SP : Hp → Prop} {aK aV : Nat} (hS : jSs sb aK aV) (h : Hp) (r : Int32 × Hp) (hr : fJ0_isLatin1_aae02 h = some r) : jM l yJ0_isLatin1_aae02 cJ0_isLatin1_aae02 1 (some .boolean) 0 sb D ids sh SP n [.retAddr aK] h (jQi sb D ids sh SP n r) := by
  refine jM_of hr rfl (Nat.le_of_ble_eq_true rfl) ?_
  intro p e s m args below meth c hC hret
  obtain ⟨hs1, hs2, hs3, hs4, hs5, hs6, hs7⟩ := hS
  unfold fJ0_isLatin1_aae02
  refine j_xgetsI hC hs6 (sg2 (List.mem_of_getElem? (i := 6) rfl) rfl) (dOk_at dt_J0_isLatin1_aae02 0 rfl) ?_
  refine j_if_eqF hC (by decide) (tgt := 17) (by decide) (dOk_at dt_J0_isLatin1_aae02 1 rfl) ?_
  refine j_xaload_n hC 0 rfl rfl (dOk_at dt_J0_isLatin1_aae02 2 rfl) ?_
  refine j_xgetI hC hs3 (sg10 (List.mem_of_getElem? (i := 14) rfl) rfl) (dOk_at dt_J0_isLatin1_aae02 3 rfl) ?_
  refine j_if_neF hC rfl (tgt := 17) (by decide) (dOk_at dt_J0_isLatin1_aae02 4 rfl) ?_
  refine j_iconst hC (v := (1 : Int32)) rfl (dOk_at dt_J0_isLatin1_aae02 5 rfl) ?_
  refine j_goto hC (tgt := 18) (by decide) (dOk_at dt_J0_isLatin1_aae02 6 rfl) ?_
  exact j_tret hC hret rfl (dOk_at dt_J0_isLatin1_aae02 8 rfl)
def fJ0_length_8abf5 (h : Hp) : Option (Int32 × Hp) := bnd (fJ0_coder_7d493 h) (fun v h1 => some (((138 : Int32) >>> (v &&& 31)), h1))
theorem c_J0_length_8abf5 {l : Launch} {sb : State} {D : va_G} {ids : Nat → ClassId} {sh : Nat → Nat × Nat} {n : Nat} {SP : Hp → Prop} {aK aV : Nat} (hS : jSs sb aK aV) (h : Hp) (r : Int32 × Hp) (hr : fJ0_length_8abf5 h = some r) : jM l yJ0_length_8abf5 cJ0_length_8abf5 1 (some .int) 1 sb D ids sh SP n [.retAddr aK] h (jQi sb D ids sh SP n r) := by
  refine jM_of hr rfl (Nat.le_of_ble_eq_true rfl) ?_
  intro p e s m args below meth c hC hret
  have hS0 := hS
  obtain ⟨hs1, hs2, hs3, hs4, hs5, hs6, hs7⟩ := hS
  unfold fJ0_length_8abf5
  refine j_xaload_n hC 0 rfl rfl (dOk_at dt_J0_length_8abf5 0 rfl) ?_
  refine j_xgetR hC hs4 (sg10 (List.mem_of_getElem? (i := 13) rfl) rfl) (dOk_at dt_J0_length_8abf5 1 rfl) ?_
  refine j_xlen hC (v := (138 : Int32)) hs5 rfl (dOk_at dt_J0_length_8abf5 2 rfl) ?_
  refine j_xaload_n hC 0 rfl rfl (dOk_at dt_J0_length_8abf5 3 rfl) ?_
  refine j_callXi hC clJ0_335 (fun r0 hr0 => c_J0_coder_7d493 hS0 _ r0 hr0) hs2 rfl ⟨Nat.le_of_ble_eq_true rfl, Nat.le_of_ble_eq_true rfl⟩ ⟨Nat.le_refl 0, Nat.le_refl 0⟩ (As := []) (st := [.int (138 : Int32)]) rfl (Nat.le_of_ble_eq_true rfl) (dOk_at dt_J0_length_8abf5 4 rfl) (fun v h1 _ => ?_)
  refine j_ishr hC (dOk_at dt_J0_length_8abf5 5 rfl) ?_
  exact j_iret hC hret (dOk_at dt_J0_length_8abf5 6 rfl)
def fJ3_checkIndex_8e157 (h : Hp) (x0 x1 : Int32) : Option (Int32 × Hp) := if x0 < 0 then none else if x0 < x1 then some (x0, h) else none
theorem c_J3_checkIndex_8e157n {l : Launch} {sb : State} {D : va_G} {ids : Nat → ClassId} {sh : Nat → Nat × Nat} {n : Nat} {SP : Hp → Prop} (h : Hp) (x0 x1 : Int32) (r : Int32 × Hp) (hr : fJ3_checkIndex_8e157 h x0 x1 = some r) : jM l yJ3_checkIndex_8e157 cJ3_checkIndex_8e157 3 (some .int) 0 sb D ids sh SP n [.int x0, .int x1, .null] h (jQi sb D ids sh SP n r) := by
  refine jM_of hr rfl (Nat.le_of_ble_eq_true rfl) ?_
  intro p e s m args below meth c hC hret
  unfold fJ3_checkIndex_8e157
  refine j_iload_n hC 0 rfl rfl (dOk_at dt_J3_checkIndex_8e157 0 rfl) ?_
  refine j_if_lt hC (tgt := 9) (by decide) (dOk_at dt_J3_checkIndex_8e157 1 rfl) (fun _ => j_none) (fun _ => ?_)
  refine j_iload_n hC 0 rfl rfl (dOk_at dt_J3_checkIndex_8e157 2 rfl) ?_
  refine j_iload_n hC 1 rfl rfl (dOk_at dt_J3_checkIndex_8e157 3 rfl) ?_
  refine j_icmp_lt hC (tgt := 16) (by decide) (dOk_at dt_J3_checkIndex_8e157 4 rfl) (fun _ => ?_) (fun _ => j_none)
  refine j_iload_n hC 0 rfl rfl (dOk_at dt_J3_checkIndex_8e157 10 rfl) ?_
  exact j_iret hC hret (dOk_at dt_J3_checkIndex_8e157 11 rfl)
theorem c_J3_checkIndex_8e157r {l : Launch} {sb : State} {D : va_G} {ids : Nat → ClassId} {sh : Nat → Nat × Nat} {n : Nat} {SP : Hp → Prop} {z : Nat} (h : Hp) (x0 x1 : Int32) (r : Int32 × Hp) (hr : fJ3_checkIndex_8e157 h x0 x1 = some r) : jM l yJ3_checkIndex_8e157 cJ3_checkIndex_8e157 3 (some .int) 0 sb D ids sh SP n [.int x0, .int x1, .retAddr z] h (jQi sb D ids sh SP n r) := by
  refine jM_of hr rfl (Nat.le_of_ble_eq_true rfl) ?_
  intro p e s m args below meth c hC hret
  unfold fJ3_checkIndex_8e157
  refine j_iload_n hC 0 rfl rfl (dOk_at dt_J3_checkIndex_8e157 0 rfl) ?_
  refine j_if_lt hC (tgt := 9) (by decide) (dOk_at dt_J3_checkIndex_8e157 1 rfl) (fun _ => j_none) (fun _ => ?_)
  refine j_iload_n hC 0 rfl rfl (dOk_at dt_J3_checkIndex_8e157 2 rfl) ?_
  refine j_iload_n hC 1 rfl rfl (dOk_at dt_J3_checkIndex_8e157 3 rfl) ?_
  refine j_icmp_lt hC (tgt := 16) (by decide) (dOk_at dt_J3_checkIndex_8e157 4 rfl) (fun _ => ?_) (fun _ => j_none)
  refine j_iload_n hC 0 rfl rfl (dOk_at dt_J3_checkIndex_8e157 10 rfl) ?_
  exact j_iret hC hret (dOk_at dt_J3_checkIndex_8e157 11 rfl)
def fJ0_checkIndex_df160 (h : Hp) (x0 x1 : Int32) : Option Hp := bnd (fJ3_checkIndex_8e157 h x0 x1) (fun _ h1 => some h1)
theorem c_J0_checkIndex_df160 {l : Launch} {sb : State} {D : va_G} {ids : Nat → ClassId} {sh : Nat → Nat × Nat} {n : Nat} {SP : Hp → Prop} {aK aV : Nat} (hS : jSs sb aK aV) (h : Hp) (x0 x1 : Int32) (r : Hp) (hr : fJ0_checkIndex_df160 h x0 x1 = some r) : jM l yJ0_checkIndex_df160 cJ0_checkIndex_df160 2 none 1 sb D ids sh SP n [.int x0, .int x1] h (jQv sb D ids sh SP n r) := by
  refine jM_of hr rfl (Nat.le_of_ble_eq_true rfl) ?_
  intro p e s m args below meth c hC hret
  obtain ⟨hs1, hs2, hs3, hs4, hs5, hs6, hs7⟩ := hS
  unfold fJ0_checkIndex_df160
  refine j_iload_n hC 0 rfl rfl (dOk_at dt_J0_checkIndex_df160 0 rfl) ?_
  refine j_iload_n hC 1 rfl rfl (dOk_at dt_J0_checkIndex_df160 1 rfl) ?_
  refine j_xgetsQ hC hs7 (sg2 (List.mem_of_getElem? (i := 22) rfl) rfl) (dOk_at dt_J0_checkIndex_df160 2 rfl) ?_ (fun z => ?_)
  · refine j_callSi hC clJ0_1059 (fun r0 hr0 => c_J3_checkIndex_8e157n _ _ _ r0 hr0) rfl ⟨Nat.le_of_ble_eq_true rfl, Nat.le_of_ble_eq_true rfl⟩ ⟨Nat.le_refl 0, Nat.le_refl 0⟩ (As := [.int x0, .int x1, .null]) (st := []) rfl (Nat.le_of_ble_eq_true rfl) (dOk_at dt_J0_checkIndex_df160 3 rfl) (fun v h1 _ => ?_)
    refine j_pop hC (dOk_at dt_J0_checkIndex_df160 4 rfl) ?_
    exact j_vret hC hret (dOk_at dt_J0_checkIndex_df160 5 rfl)
  · refine j_callSi hC clJ0_1059 (fun r0 hr0 => c_J3_checkIndex_8e157r _ _ _ r0 hr0) rfl ⟨Nat.le_of_ble_eq_true rfl, Nat.le_of_ble_eq_true rfl⟩ ⟨Nat.le_refl 0, Nat.le_refl 0⟩ (As := [.int x0, .int x1, .retAddr z]) (st := []) rfl (Nat.le_of_ble_eq_true rfl) (dOk_at dt_J0_checkIndex_df160 3 rfl) (fun v h1 _ => ?_)
    refine j_pop hC (dOk_at dt_J0_checkIndex_df160 4 rfl) ?_
    exact j_vret hC hret (dOk_at dt_J0_checkIndex_df160 5 rfl)
def chr (i : Int32) : Int32 := ((wrd i.toNatClampNeg &&& (255 : Int32)).toUInt32 % 65536).toInt32
def fJ1_charAt_3b067 (h : Hp) (x1 : Int32) : Option (Int32 × Hp) := (fJ0_checkIndex_df160 h x1 (138 : Int32)).bind (fun h1 => if inb x1 138 then some (chr x1, h1) else none)
theorem c_J1_charAt_3b067 {l : Launch} {sb : State} {D : va_G} {ids : Nat → ClassId} {sh : Nat → Nat × Nat} {n : Nat} {SP : Hp → Prop} {aK aV : Nat} (hS : jSs sb aK aV) (h : Hp) (x1 : Int32) (r : Int32 × Hp) (hr : fJ1_charAt_3b067 h x1 = some r) : jM l yJ1_charAt_3b067 cJ1_charAt_3b067 2 (some .char) 2 sb D ids sh SP n [.retAddr aV, .int x1] h (jQi sb D ids sh SP n r) := by
  refine jM_of hr rfl (Nat.le_of_ble_eq_true rfl) ?_
  intro p e s m args below meth c hC hret
  have hS0 := hS
  obtain ⟨hs1, hs2, hs3, hs4, hs5, hs6, hs7⟩ := hS
  unfold fJ1_charAt_3b067
  refine j_iload_n hC 1 rfl rfl (dOk_at dt_J1_charAt_3b067 0 rfl) ?_
  refine j_xaload_n hC 0 rfl rfl (dOk_at dt_J1_charAt_3b067 1 rfl) ?_
  refine j_xlen hC (v := (138 : Int32)) hs5 rfl (dOk_at dt_J1_charAt_3b067 2 rfl) ?_
  refine j_callSv hC clJ1_9 (fun r0 hr0 => c_J0_checkIndex_df160 hS0 _ _ _ r0 hr0) rfl ⟨Nat.le_of_ble_eq_true rfl, Nat.le_of_ble_eq_true rfl⟩ ⟨Nat.le_refl 0, Nat.le_refl 0⟩ (As := [.int x1, .int (138 : Int32)]) (st := []) rfl (Nat.le_of_ble_eq_true rfl) (dOk_at dt_J1_charAt_3b067 3 rfl) (fun h1 _ => ?_)
  refine j_xaload_n hC 0 rfl rfl (dOk_at dt_J1_charAt_3b067 4 rfl) ?_
  refine j_iload_n hC 1 rfl rfl (dOk_at dt_J1_charAt_3b067 5 rfl) ?_
  refine j_xbald hC (f := wrd) hs5 (dOk_at dt_J1_charAt_3b067 6 rfl) ?_
  refine j_sipush hC (v := (255 : Int32)) rfl (dOk_at dt_J1_charAt_3b067 7 rfl) ?_
  refine j_iand hC (dOk_at dt_J1_charAt_3b067 8 rfl) ?_
  refine j_i2c hC (dOk_at dt_J1_charAt_3b067 9 rfl) ?_
  exact j_tret hC hret (pk_nc _) (dOk_at dt_J1_charAt_3b067 10 rfl)
def fJ0_charAt_5068e (h : Hp) (x1 : Int32) : Option (Int32 × Hp) := bnd (fJ0_isLatin1_aae02 h) (fun v h1 => if v = 0 then none else bnd (fJ1_charAt_3b067 h1 x1) (fun v2 h2 => if narrow .char (.int v2) = .int v2 then some (v2, h2) else none))
theorem c_J0_charAt_5068e {l : Launch} {sb : State} {D : va_G} {ids : Nat → ClassId} {sh : Nat → Nat × Nat} {n : Nat} {SP : Hp → Prop} {aK aV : Nat} (hS : jSs sb aK aV) (h : Hp) (x1 : Int32) (r : Int32 × Hp) (hr : fJ0_charAt_5068e h x1 = some r) : jM l yJ0_charAt_5068e cJ0_charAt_5068e 2 (some .char) 3 sb D ids sh SP n [.retAddr aK, .int x1] h (jQi sb D ids sh SP n r) := by
  refine jM_of hr rfl (Nat.le_of_ble_eq_true rfl) ?_
  intro p e s m args below meth c hC hret
  have hS0 := hS
  obtain ⟨hs1, hs2, hs3, hs4, hs5, hs6, hs7⟩ := hS
  unfold fJ0_charAt_5068e
  refine j_xaload_n hC 0 rfl rfl (dOk_at dt_J0_charAt_5068e 0 rfl) ?_
  refine j_callXi hC clJ0_492 (fun r0 hr0 => c_J0_isLatin1_aae02 hS0 _ r0 hr0) hs2 rfl ⟨Nat.le_of_ble_eq_true rfl, Nat.le_of_ble_eq_true rfl⟩ ⟨Nat.le_refl 0, Nat.le_refl 0⟩ (As := []) (st := []) rfl (Nat.le_of_ble_eq_true rfl) (dOk_at dt_J0_charAt_5068e 1 rfl) (fun v h1 _ => ?_)
  refine j_if_eq hC (tgt := 16) (by decide) (dOk_at dt_J0_charAt_5068e 2 rfl) (fun _ => j_none) (fun _ => ?_)
  refine j_xaload_n hC 0 rfl rfl (dOk_at dt_J0_charAt_5068e 3 rfl) ?_
  refine j_xgetR hC hs4 (sg10 (List.mem_of_getElem? (i := 13) rfl) rfl) (dOk_at dt_J0_charAt_5068e 4 rfl) ?_
  refine j_iload_n hC 1 rfl rfl (dOk_at dt_J0_charAt_5068e 5 rfl) ?_
  refine j_callSi hC clJ0_495 (fun r0 hr0 => c_J1_charAt_3b067 hS0 _ _ r0 hr0) rfl ⟨Nat.le_of_ble_eq_true rfl, Nat.le_of_ble_eq_true rfl⟩ ⟨Nat.le_refl 0, Nat.le_refl 0⟩ (As := [.retAddr aV, .int x1]) (st := []) rfl (Nat.le_of_ble_eq_true rfl) (dOk_at dt_J0_charAt_5068e 6 rfl) (fun v2 h2 _ => ?_)
  refine j_ite (fun hz => ?_) (fun _ => j_none)
  exact j_tret hC hret hz (dOk_at dt_J0_charAt_5068e 7 rfl)
def fX5_packed_4 : Nat → Hp → Int32 → Int32 → Int32 → Option (Int32 × Hp)
  | 0, _, _, _, _ => none
  | fu + 1, h, x0, x1, x2 => if (x0 + (6 : Int32)) ≤ x2 then some (x1, h) else bnd (fJ0_length_8abf5 h) (fun v h1 => if v ≤ x2 then some (x1, h1) else bnd (fJ0_charAt_5068e h1 x2) (fun v2 h2 => if v2 = (32 : Int32) then fX5_packed_4 fu h2 x0 ((x1 <<< ((5 : Int32) &&& 31)) ||| (0 : Int32)) (x2 + (1 : Int32)) else fX5_packed_4 fu h2 x0 ((x1 <<< ((5 : Int32) &&& 31)) ||| ((v2 - (97 : Int32)) + (1 : Int32))) (x2 + (1 : Int32))))
def fX5_packed (h : Hp) (x0 : Int32) : Option (Int32 × Hp) := fX5_packed_4 FU h x0 (0 : Int32) x0
set_option maxRecDepth 100000 in
set_option maxHeartbeats 4000000 in
theorem c_X5_packed {l : Launch} {sb : State} {D : va_G} {ids : Nat → ClassId} {sh : Nat → Nat × Nat} {n : Nat} {SP : Hp → Prop} (hW : jS sb) (h : Hp) (x0 : Int32) (r : Int32 × Hp) (hr : fX5_packed h x0 = some r) : jM l yX5_packed cX5_packed 4 (some .int) 5 sb D ids sh SP n [.int x0] h (jQi sb D ids sh SP n r) := by
  refine jM_of hr rfl (Nat.le_of_ble_eq_true rfl) ?_
  intro p e s m args below meth c hC hret
  obtain ⟨aK, aV, hS⟩ := hW
  have hS0 := hS
  obtain ⟨hs1, hs2, hs3, hs4, hs5, hs6, hs7⟩ := hS
  have b4 : ∀ (fu : Nat) (h : Hp) (x0 x1 x2 : Int32), jJ p l e (rmD 5) s m args below meth c 4 sb D ids sh SP (fun r => MQ below (jQi sb D ids sh SP n r) args s 0 0 (jA sb)) n 0 0 h 4 [(0, .int x0), (1, .int x1), (2, .int x2)] [] (fX5_packed_4 fu h x0 x1 x2) := by
    intro fu
    induction fu with
    | zero => intro h x0 x1 x2; exact j_none
    | succ fu ih =>
    intro h x0 x1 x2
    rw [fX5_packed_4]
    refine j_iload_n hC 2 rfl rfl (dOk_at dt_X5_packed 4 rfl) ?_
    refine j_iload_n hC 0 rfl rfl (dOk_at dt_X5_packed 5 rfl) ?_
    refine j_bipush hC (v := (6 : Int32)) rfl (dOk_at dt_X5_packed 6 rfl) ?_
    refine j_iadd hC (dOk_at dt_X5_packed 7 rfl) ?_
    refine j_icmp_ge hC (tgt := 55) (by decide) (dOk_at dt_X5_packed 8 rfl) (fun _ => ?_) (fun _ => ?_)
    · refine j_iload_n hC 1 rfl rfl (dOk_at dt_X5_packed 34 rfl) ?_
      exact j_iret hC hret (dOk_at dt_X5_packed 35 rfl)
    refine j_iload_n hC 2 rfl rfl (dOk_at dt_X5_packed 9 rfl) ?_
    refine j_ldcS hC hs1 (dOk_at dt_X5_packed 10 rfl) ?_
    refine j_callXi hC clX5_46 (fun r0 hr0 => c_J0_length_8abf5 hS0 _ r0 hr0) hs2 rfl ⟨Nat.le_of_ble_eq_true rfl, Nat.le_of_ble_eq_true rfl⟩ ⟨Nat.le_refl 0, Nat.le_refl 0⟩ (As := []) (st := [.int x2]) rfl (Nat.le_of_ble_eq_true rfl) (dOk_at dt_X5_packed 11 rfl) (fun v h1 _ => ?_)
    refine j_icmp_ge hC (tgt := 55) (by decide) (dOk_at dt_X5_packed 12 rfl) (fun _ => ?_) (fun _ => ?_)
    · refine j_iload_n hC 1 rfl rfl (dOk_at dt_X5_packed 34 rfl) ?_
      exact j_iret hC hret (dOk_at dt_X5_packed 35 rfl)
    refine j_ldcS hC hs1 (dOk_at dt_X5_packed 13 rfl) ?_
    refine j_iload_n hC 2 rfl rfl (dOk_at dt_X5_packed 14 rfl) ?_
    refine j_callXi hC clX5_52 (fun r0 hr0 => c_J0_charAt_5068e hS0 _ _ r0 hr0) hs2 rfl ⟨Nat.le_of_ble_eq_true rfl, Nat.le_of_ble_eq_true rfl⟩ ⟨Nat.le_refl 0, Nat.le_refl 0⟩ (As := [.int x2]) (st := []) rfl (Nat.le_of_ble_eq_true rfl) (dOk_at dt_X5_packed 15 rfl) (fun v2 h2 _ => ?_)
    refine j_istore_n hC rfl (lv' := [(3, .int v2), (0, .int x0), (1, .int x1), (2, .int x2)]) (by decide) rfl (dOk_at dt_X5_packed 16 rfl) ?_
    refine j_sub [0, 3, 1, 2] rfl ?_
    refine j_iload_n hC 3 rfl rfl (dOk_at dt_X5_packed 17 rfl) ?_
    refine j_iconst hC (v := (5 : Int32)) rfl (dOk_at dt_X5_packed 18 rfl) ?_
    refine j_ishl hC (dOk_at dt_X5_packed 19 rfl) ?_
    refine j_iload_n hC 0 rfl rfl (dOk_at dt_X5_packed 20 rfl) ?_
    refine j_bipush hC (v := (32 : Int32)) rfl (dOk_at dt_X5_packed 21 rfl) ?_
    refine j_icmp_ne hC (tgt := 41) (by decide) (dOk_at dt_X5_packed 22 rfl) (fun _ => ?_) (fun _ => ?_)
    · refine j_iload_n hC 0 rfl rfl (dOk_at dt_X5_packed 25 rfl) ?_
      refine j_bipush hC (v := (97 : Int32)) rfl (dOk_at dt_X5_packed 26 rfl) ?_
      refine j_isub hC (dOk_at dt_X5_packed 27 rfl) ?_
      refine j_iconst hC (v := (1 : Int32)) rfl (dOk_at dt_X5_packed 28 rfl) ?_
      refine j_iadd hC (dOk_at dt_X5_packed 29 rfl) ?_
      refine j_ior hC (dOk_at dt_X5_packed 30 rfl) ?_
      refine j_istore_n hC rfl (lv' := [(1, .int ((x1 <<< ((5 : Int32) &&& 31)) ||| ((v2 - (97 : Int32)) + (1 : Int32)))), (3, .int v2), (2, .int x2), (0, .int x0)]) (by decide) rfl (dOk_at dt_X5_packed 31 rfl) ?_
      refine j_iinc hC (v := x2 + (1 : Int32)) (lv' := [(2, .int (x2 + (1 : Int32))), (1, .int ((x1 <<< ((5 : Int32) &&& 31)) ||| ((v2 - (97 : Int32)) + (1 : Int32)))), (3, .int v2), (0, .int x0)]) 2 rfl (congrArg (fun z => x2 + z) (show Int32.ofInt (1) = (1 : Int32) from by decide)) (by decide) rfl (dOk_at dt_X5_packed 32 rfl) ?_
      refine j_goto hC (tgt := 4) (by decide) (dOk_at dt_X5_packed 33 rfl) ?_
      refine j_sub [3, 1, 0] rfl ?_
      exact ih h2 x0 _ _
    · refine j_iconst hC (v := (0 : Int32)) rfl (dOk_at dt_X5_packed 23 rfl) ?_
      refine j_goto hC (tgt := 47) (by decide) (dOk_at dt_X5_packed 24 rfl) ?_
      refine j_ior hC (dOk_at dt_X5_packed 30 rfl) ?_
      refine j_istore_n hC rfl (lv' := [(1, .int ((x1 <<< ((5 : Int32) &&& 31)) ||| (0 : Int32))), (3, .int v2), (2, .int x2), (0, .int x0)]) (by decide) rfl (dOk_at dt_X5_packed 31 rfl) ?_
      refine j_iinc hC (v := x2 + (1 : Int32)) (lv' := [(2, .int (x2 + (1 : Int32))), (1, .int ((x1 <<< ((5 : Int32) &&& 31)) ||| (0 : Int32))), (3, .int v2), (0, .int x0)]) 2 rfl (congrArg (fun z => x2 + z) (show Int32.ofInt (1) = (1 : Int32) from by decide)) (by decide) rfl (dOk_at dt_X5_packed 32 rfl) ?_
      refine j_goto hC (tgt := 4) (by decide) (dOk_at dt_X5_packed 33 rfl) ?_
      refine j_sub [3, 1, 0] rfl ?_
      exact ih h2 x0 _ _
  unfold fX5_packed
  refine j_iconst hC (v := (0 : Int32)) rfl (dOk_at dt_X5_packed 0 rfl) ?_
  refine j_istore_n hC rfl (lv' := [(1, .int (0 : Int32)), (0, .int x0)]) (by decide) rfl (dOk_at dt_X5_packed 1 rfl) ?_
  refine j_iload_n hC 1 rfl rfl (dOk_at dt_X5_packed 2 rfl) ?_
  refine j_istore_n hC rfl (lv' := [(2, .int x0), (1, .int (0 : Int32)), (0, .int x0)]) (by decide) rfl (dOk_at dt_X5_packed 3 rfl) ?_
  refine j_sub [2, 1, 0] rfl ?_
  exact b4 FU h x0 _ _
