def fLc_0 (L : Nat) (xs : Nat → Int32) (k : Hp → Option Unit) (h : Hp) (i : Nat) : Option Unit := if inb ((nI i) + (1 : Int32)) L then (if inb ((nI i) + (2 : Int32)) L then (if inb ((nI i) + (3 : Int32)) L then (if inb ((nI i) + (4 : Int32)) L then (if inb ((nI i) + (5 : Int32)) L then (bnd (fX9_feed h (xs (Int32.toNatClampNeg ((nI i) + (1 : Int32)))) (xs (Int32.toNatClampNeg ((nI i) + (2 : Int32)))) (xs (Int32.toNatClampNeg ((nI i) + (3 : Int32)))) (xs (Int32.toNatClampNeg ((nI i) + (4 : Int32)))) (xs (Int32.toNatClampNeg ((nI i) + (5 : Int32))))) (fun v_1 h_2 => if inb ((nI i) + (1 : Int32)) L then (if inb ((nI i) + (2 : Int32)) L then (if inb ((nI i) + (3 : Int32)) L then (if inb ((nI i) + (4 : Int32)) L then (if inb ((nI i) + (5 : Int32)) L then (bnd (fX10_feed h_2 (xs (Int32.toNatClampNeg ((nI i) + (1 : Int32)))) (xs (Int32.toNatClampNeg ((nI i) + (2 : Int32)))) (xs (Int32.toNatClampNeg ((nI i) + (3 : Int32)))) (xs (Int32.toNatClampNeg ((nI i) + (4 : Int32)))) (xs (Int32.toNatClampNeg ((nI i) + (5 : Int32))))) (fun v_3 h_4 => if v_1 = v_3 then (k h_4) else none)) else none) else none) else none) else none) else none)) else none) else none) else none) else none) else none
set_option maxRecDepth 100000 in
set_option maxHeartbeats 4000000 in
theorem cLc_0 {p : Program} {l : Launch} {e : Env} {s : State} {m : MethodId} {below : List Frame} {meth : Method} {c : Code} {D : va_G} {ids : Nat → ClassId} {b L : Nat} {xs : Nat → Int32} (hC : jC p s m #[Value.ref b] meth c code RL 7 s D ids) (hG : jG s) (hT : va_T .int b L (fun j => .int (xs j)) (jA s) s s.heap) (k : Hp → Option Unit) (h : Hp) (i : Nat) (hi : i ≤ 3072) (hk : ∀ h : Hp, jJ p l e room_1 s m #[Value.ref b] below meth c 7 s D ids shp St (fun (_ : Unit) => lw_Z below #[Value.ref b] s) 153 (200 + 20 * (i + 6)) (20000 + 300 * (i + 6)) h 1601 [(0, .retAddr b), (1, .ref 0), (2, .ref 107), (3, .ref 152), (4, .int (nI i))] [] (k h)) : jJ p l e room_1 s m #[Value.ref b] below meth c 7 s D ids shp St (fun (_ : Unit) => lw_Z below #[Value.ref b] s) 153 (200 + 20 * i) (20000 + 300 * i) h 216 [(0, .retAddr b), (1, .ref 0), (2, .ref 107), (3, .ref 152), (4, .int (nI i))] [] (fLc_0 L xs k h i) := by
  unfold fLc_0
  refine j_aload_n hC 1 rfl rfl (dOk_at dt_L_law_0 25 rfl) ?_
  refine j_xaload_n hC 0 rfl rfl (dOk_at dt_L_law_0 26 rfl) ?_
  refine j_iload hC 4 rfl (dOk_at dt_L_law_0 27 rfl) ?_
  refine j_iconst hC (v := (1 : Int32)) rfl (dOk_at dt_L_law_0 28 rfl) ?_
  refine j_iadd hC (dOk_at dt_L_law_0 29 rfl) ?_
  refine j_xiald hC (f := xs) hT (dOk_at dt_L_law_0 30 rfl) ?_
  refine j_xaload_n hC 0 rfl rfl (dOk_at dt_L_law_0 31 rfl) ?_
  refine j_iload hC 4 rfl (dOk_at dt_L_law_0 32 rfl) ?_
  refine j_iconst hC (v := (2 : Int32)) rfl (dOk_at dt_L_law_0 33 rfl) ?_
  refine j_iadd hC (dOk_at dt_L_law_0 34 rfl) ?_
  refine j_xiald hC (f := xs) hT (dOk_at dt_L_law_0 35 rfl) ?_
  refine j_xaload_n hC 0 rfl rfl (dOk_at dt_L_law_0 36 rfl) ?_
  refine j_iload hC 4 rfl (dOk_at dt_L_law_0 37 rfl) ?_
  refine j_iconst hC (v := (3 : Int32)) rfl (dOk_at dt_L_law_0 38 rfl) ?_
  refine j_iadd hC (dOk_at dt_L_law_0 39 rfl) ?_
  refine j_xiald hC (f := xs) hT (dOk_at dt_L_law_1 0 rfl) ?_
  refine j_xaload_n hC 0 rfl rfl (dOk_at dt_L_law_1 1 rfl) ?_
  refine j_iload hC 4 rfl (dOk_at dt_L_law_1 2 rfl) ?_
  refine j_iconst hC (v := (4 : Int32)) rfl (dOk_at dt_L_law_1 3 rfl) ?_
  refine j_iadd hC (dOk_at dt_L_law_1 4 rfl) ?_
  refine j_xiald hC (f := xs) hT (dOk_at dt_L_law_1 5 rfl) ?_
  refine j_xaload_n hC 0 rfl rfl (dOk_at dt_L_law_1 6 rfl) ?_
  refine j_iload hC 4 rfl (dOk_at dt_L_law_1 7 rfl) ?_
  refine j_iconst hC (v := (5 : Int32)) rfl (dOk_at dt_L_law_1 8 rfl) ?_
  refine j_iadd hC (dOk_at dt_L_law_1 9 rfl) ?_
  refine j_xiald hC (f := xs) hT (dOk_at dt_L_law_1 10 rfl) ?_
  refine j_callVi hC clL_21 (fun r0 hr0 => c_X9_feed (by decide) _ _ _ _ _ _ r0 hr0) (show shp 0 = (9, 12) from rfl) (Nat.le_of_ble_eq_true rfl) (by decide) rfl rfl ⟨Nat.le_of_ble_eq_true rfl, Nat.le_of_ble_eq_true rfl⟩ ⟨by show _ ≤ 601024; omega, by show _ ≤ 7293033; omega⟩ (As := [.int (xs (Int32.toNatClampNeg ((nI i) + (1 : Int32)))), .int (xs (Int32.toNatClampNeg ((nI i) + (2 : Int32)))), .int (xs (Int32.toNatClampNeg ((nI i) + (3 : Int32)))), .int (xs (Int32.toNatClampNeg ((nI i) + (4 : Int32)))), .int (xs (Int32.toNatClampNeg ((nI i) + (5 : Int32))))]) (st := []) rfl (Nat.le_of_ble_eq_true rfl) (dOk_at dt_L_law_1 11 rfl) (fun v_1 h_2 _ => ?_)
  refine j_aload_n hC 2 rfl rfl (dOk_at dt_L_law_1 12 rfl) ?_
  refine j_xaload_n hC 0 rfl rfl (dOk_at dt_L_law_1 13 rfl) ?_
  refine j_iload hC 4 rfl (dOk_at dt_L_law_1 14 rfl) ?_
  refine j_iconst hC (v := (1 : Int32)) rfl (dOk_at dt_L_law_1 15 rfl) ?_
  refine j_iadd hC (dOk_at dt_L_law_1 16 rfl) ?_
  refine j_xiald hC (f := xs) hT (dOk_at dt_L_law_1 17 rfl) ?_
  refine j_xaload_n hC 0 rfl rfl (dOk_at dt_L_law_1 18 rfl) ?_
  refine j_iload hC 4 rfl (dOk_at dt_L_law_1 19 rfl) ?_
  refine j_iconst hC (v := (2 : Int32)) rfl (dOk_at dt_L_law_1 20 rfl) ?_
  refine j_iadd hC (dOk_at dt_L_law_1 21 rfl) ?_
  refine j_xiald hC (f := xs) hT (dOk_at dt_L_law_1 22 rfl) ?_
  refine j_xaload_n hC 0 rfl rfl (dOk_at dt_L_law_1 23 rfl) ?_
  refine j_iload hC 4 rfl (dOk_at dt_L_law_1 24 rfl) ?_
  refine j_iconst hC (v := (3 : Int32)) rfl (dOk_at dt_L_law_1 25 rfl) ?_
  refine j_iadd hC (dOk_at dt_L_law_1 26 rfl) ?_
  refine j_xiald hC (f := xs) hT (dOk_at dt_L_law_1 27 rfl) ?_
  refine j_xaload_n hC 0 rfl rfl (dOk_at dt_L_law_1 28 rfl) ?_
  refine j_iload hC 4 rfl (dOk_at dt_L_law_1 29 rfl) ?_
  refine j_iconst hC (v := (4 : Int32)) rfl (dOk_at dt_L_law_1 30 rfl) ?_
  refine j_iadd hC (dOk_at dt_L_law_1 31 rfl) ?_
  refine j_xiald hC (f := xs) hT (dOk_at dt_L_law_1 32 rfl) ?_
  refine j_xaload_n hC 0 rfl rfl (dOk_at dt_L_law_1 33 rfl) ?_
  refine j_iload hC 4 rfl (dOk_at dt_L_law_1 34 rfl) ?_
  refine j_iconst hC (v := (5 : Int32)) rfl (dOk_at dt_L_law_1 35 rfl) ?_
  refine j_iadd hC (dOk_at dt_L_law_1 36 rfl) ?_
  refine j_xiald hC (f := xs) hT (dOk_at dt_L_law_1 37 rfl) ?_
  refine j_callVi hC clL_25 (fun r0 hr0 => c_X10_feed (by decide) _ _ _ _ _ _ r0 hr0) (show shp 107 = (10, 88) from rfl) (Nat.le_of_ble_eq_true rfl) (by decide) rfl rfl ⟨Nat.le_of_ble_eq_true rfl, Nat.le_of_ble_eq_true rfl⟩ ⟨by show _ ≤ 601024; omega, by show _ ≤ 7293033; omega⟩ (As := [.int (xs (Int32.toNatClampNeg ((nI i) + (1 : Int32)))), .int (xs (Int32.toNatClampNeg ((nI i) + (2 : Int32)))), .int (xs (Int32.toNatClampNeg ((nI i) + (3 : Int32)))), .int (xs (Int32.toNatClampNeg ((nI i) + (4 : Int32)))), .int (xs (Int32.toNatClampNeg ((nI i) + (5 : Int32))))]) (st := [.int v_1]) rfl (Nat.le_of_ble_eq_true rfl) (dOk_at dt_L_law_1 38 rfl) (fun v_3 h_4 _ => ?_)
  refine j_icmp_eq hC (tgt := 1601) (by decide) (dOk_at dt_L_law_1 39 rfl) (fun _ => ?_) (fun _ => ?_)
  · refine j_widen (kc' := 200 + 20 * (i + 6)) (ks' := 20000 + 300 * (i + 6)) (by omega) (by omega) ?_
    exact hk h_4
  · refine j_iconst hC (v := (0 : Int32)) rfl (dOk_at dt_L_law_2 0 rfl) ?_
    exact j_none
def fLc_1 (L : Nat) (xs : Nat → Int32) (k : Hp → Option Unit) (h : Hp) (i : Nat) : Option Unit := if inb ((nI i) + (1 : Int32)) L then (bnd (fX9_text h (xs (Int32.toNatClampNeg ((nI i) + (1 : Int32))))) (fun v_5 h_6 => if inb ((nI i) + (1 : Int32)) L then (bnd (fX10_text h_6 (xs (Int32.toNatClampNeg ((nI i) + (1 : Int32))))) (fun v_7 h_8 => if v_5 = v_7 then (k h_8) else none)) else none)) else none
set_option maxRecDepth 100000 in
set_option maxHeartbeats 4000000 in
theorem cLc_1 {p : Program} {l : Launch} {e : Env} {s : State} {m : MethodId} {below : List Frame} {meth : Method} {c : Code} {D : va_G} {ids : Nat → ClassId} {b L : Nat} {xs : Nat → Int32} (hC : jC p s m #[Value.ref b] meth c code RL 7 s D ids) (hG : jG s) (hT : va_T .int b L (fun j => .int (xs j)) (jA s) s s.heap) (k : Hp → Option Unit) (h : Hp) (i : Nat) (hi : i ≤ 3072) (hk : ∀ h : Hp, jJ p l e room_1 s m #[Value.ref b] below meth c 7 s D ids shp St (fun (_ : Unit) => lw_Z below #[Value.ref b] s) 153 (200 + 20 * (i + 6)) (20000 + 300 * (i + 6)) h 1601 [(0, .retAddr b), (1, .ref 0), (2, .ref 107), (3, .ref 152), (4, .int (nI i))] [] (k h)) : jJ p l e room_1 s m #[Value.ref b] below meth c 7 s D ids shp St (fun (_ : Unit) => lw_Z below #[Value.ref b] s) 153 (200 + 20 * i) (20000 + 300 * i) h 289 [(0, .retAddr b), (1, .ref 0), (2, .ref 107), (3, .ref 152), (4, .int (nI i))] [] (fLc_1 L xs k h i) := by
  unfold fLc_1
  refine j_aload_n hC 1 rfl rfl (dOk_at dt_L_law_2 2 rfl) ?_
  refine j_xaload_n hC 0 rfl rfl (dOk_at dt_L_law_2 3 rfl) ?_
  refine j_iload hC 4 rfl (dOk_at dt_L_law_2 4 rfl) ?_
  refine j_iconst hC (v := (1 : Int32)) rfl (dOk_at dt_L_law_2 5 rfl) ?_
  refine j_iadd hC (dOk_at dt_L_law_2 6 rfl) ?_
  refine j_xiald hC (f := xs) hT (dOk_at dt_L_law_2 7 rfl) ?_
  refine j_callVi hC clL_26 (fun r0 hr0 => c_X9_text (by decide) hG _ _ r0 hr0) (show shp 0 = (9, 12) from rfl) (Nat.le_of_ble_eq_true rfl) (by decide) rfl rfl ⟨Nat.le_of_ble_eq_true rfl, Nat.le_of_ble_eq_true rfl⟩ ⟨by show _ ≤ 601024; omega, by show _ ≤ 7293033; omega⟩ (As := [.int (xs (Int32.toNatClampNeg ((nI i) + (1 : Int32))))]) (st := []) rfl (Nat.le_of_ble_eq_true rfl) (dOk_at dt_L_law_2 8 rfl) (fun v_5 h_6 _ => ?_)
  refine j_aload_n hC 2 rfl rfl (dOk_at dt_L_law_2 9 rfl) ?_
  refine j_xaload_n hC 0 rfl rfl (dOk_at dt_L_law_2 10 rfl) ?_
  refine j_iload hC 4 rfl (dOk_at dt_L_law_2 11 rfl) ?_
  refine j_iconst hC (v := (1 : Int32)) rfl (dOk_at dt_L_law_2 12 rfl) ?_
  refine j_iadd hC (dOk_at dt_L_law_2 13 rfl) ?_
  refine j_xiald hC (f := xs) hT (dOk_at dt_L_law_2 14 rfl) ?_
  refine j_callVi hC clL_30 (fun r0 hr0 => c_X10_text (by decide) _ _ r0 hr0) (show shp 107 = (10, 88) from rfl) (Nat.le_of_ble_eq_true rfl) (by decide) rfl rfl ⟨Nat.le_of_ble_eq_true rfl, Nat.le_of_ble_eq_true rfl⟩ ⟨by show _ ≤ 601024; omega, by show _ ≤ 7293033; omega⟩ (As := [.int (xs (Int32.toNatClampNeg ((nI i) + (1 : Int32))))]) (st := [.int v_5]) rfl (Nat.le_of_ble_eq_true rfl) (dOk_at dt_L_law_2 15 rfl) (fun v_7 h_8 _ => ?_)
  refine j_icmp_eq hC (tgt := 1601) (by decide) (dOk_at dt_L_law_2 16 rfl) (fun _ => ?_) (fun _ => ?_)
  · refine j_widen (kc' := 200 + 20 * (i + 6)) (ks' := 20000 + 300 * (i + 6)) (by omega) (by omega) ?_
    exact hk h_8
  · refine j_iconst hC (v := (0 : Int32)) rfl (dOk_at dt_L_law_2 17 rfl) ?_
    exact j_none
def fLc_2 (L : Nat) (xs : Nat → Int32) (k : Hp → Option Unit) (h : Hp) (i : Nat) : Option Unit := if inb ((nI i) + (1 : Int32)) L then (bnd (fX9_fault h (xs (Int32.toNatClampNeg ((nI i) + (1 : Int32))))) (fun v_9 h_10 => if inb ((nI i) + (1 : Int32)) L then (bnd (fX10_fault h_10 (xs (Int32.toNatClampNeg ((nI i) + (1 : Int32))))) (fun v_11 h_12 => if v_9 = v_11 then (k h_12) else none)) else none)) else none
set_option maxRecDepth 100000 in
set_option maxHeartbeats 4000000 in
theorem cLc_2 {p : Program} {l : Launch} {e : Env} {s : State} {m : MethodId} {below : List Frame} {meth : Method} {c : Code} {D : va_G} {ids : Nat → ClassId} {b L : Nat} {xs : Nat → Int32} (hC : jC p s m #[Value.ref b] meth c code RL 7 s D ids) (hG : jG s) (hT : va_T .int b L (fun j => .int (xs j)) (jA s) s s.heap) (k : Hp → Option Unit) (h : Hp) (i : Nat) (hi : i ≤ 3072) (hk : ∀ h : Hp, jJ p l e room_1 s m #[Value.ref b] below meth c 7 s D ids shp St (fun (_ : Unit) => lw_Z below #[Value.ref b] s) 153 (200 + 20 * (i + 6)) (20000 + 300 * (i + 6)) h 1601 [(0, .retAddr b), (1, .ref 0), (2, .ref 107), (3, .ref 152), (4, .int (nI i))] [] (k h)) : jJ p l e room_1 s m #[Value.ref b] below meth c 7 s D ids shp St (fun (_ : Unit) => lw_Z below #[Value.ref b] s) 153 (200 + 20 * i) (20000 + 300 * i) h 314 [(0, .retAddr b), (1, .ref 0), (2, .ref 107), (3, .ref 152), (4, .int (nI i))] [] (fLc_2 L xs k h i) := by
  unfold fLc_2
  refine j_aload_n hC 1 rfl rfl (dOk_at dt_L_law_2 19 rfl) ?_
  refine j_xaload_n hC 0 rfl rfl (dOk_at dt_L_law_2 20 rfl) ?_
  refine j_iload hC 4 rfl (dOk_at dt_L_law_2 21 rfl) ?_
  refine j_iconst hC (v := (1 : Int32)) rfl (dOk_at dt_L_law_2 22 rfl) ?_
  refine j_iadd hC (dOk_at dt_L_law_2 23 rfl) ?_
  refine j_xiald hC (f := xs) hT (dOk_at dt_L_law_2 24 rfl) ?_
  refine j_callVi hC clL_31 (fun r0 hr0 => c_X9_fault (by decide) _ _ r0 hr0) (show shp 0 = (9, 12) from rfl) (Nat.le_of_ble_eq_true rfl) (by decide) rfl rfl ⟨Nat.le_of_ble_eq_true rfl, Nat.le_of_ble_eq_true rfl⟩ ⟨by show _ ≤ 601024; omega, by show _ ≤ 7293033; omega⟩ (As := [.int (xs (Int32.toNatClampNeg ((nI i) + (1 : Int32))))]) (st := []) rfl (Nat.le_of_ble_eq_true rfl) (dOk_at dt_L_law_2 25 rfl) (fun v_9 h_10 _ => ?_)
  refine j_aload_n hC 2 rfl rfl (dOk_at dt_L_law_2 26 rfl) ?_
  refine j_xaload_n hC 0 rfl rfl (dOk_at dt_L_law_2 27 rfl) ?_
  refine j_iload hC 4 rfl (dOk_at dt_L_law_2 28 rfl) ?_
  refine j_iconst hC (v := (1 : Int32)) rfl (dOk_at dt_L_law_2 29 rfl) ?_
  refine j_iadd hC (dOk_at dt_L_law_2 30 rfl) ?_
  refine j_xiald hC (f := xs) hT (dOk_at dt_L_law_2 31 rfl) ?_
  refine j_callVi hC clL_34 (fun r0 hr0 => c_X10_fault (by decide) _ _ r0 hr0) (show shp 107 = (10, 88) from rfl) (Nat.le_of_ble_eq_true rfl) (by decide) rfl rfl ⟨Nat.le_of_ble_eq_true rfl, Nat.le_of_ble_eq_true rfl⟩ ⟨by show _ ≤ 601024; omega, by show _ ≤ 7293033; omega⟩ (As := [.int (xs (Int32.toNatClampNeg ((nI i) + (1 : Int32))))]) (st := [.int v_9]) rfl (Nat.le_of_ble_eq_true rfl) (dOk_at dt_L_law_2 32 rfl) (fun v_11 h_12 _ => ?_)
  refine j_icmp_eq hC (tgt := 1601) (by decide) (dOk_at dt_L_law_2 33 rfl) (fun _ => ?_) (fun _ => ?_)
  · refine j_widen (kc' := 200 + 20 * (i + 6)) (ks' := 20000 + 300 * (i + 6)) (by omega) (by omega) ?_
    exact hk h_12
  · refine j_iconst hC (v := (0 : Int32)) rfl (dOk_at dt_L_law_2 34 rfl) ?_
    exact j_none
def fLc_3 (L : Nat) (xs : Nat → Int32) (k : Hp → Option Unit) (h : Hp) (i : Nat) : Option Unit := if inb ((nI i) + (1 : Int32)) L then (if inb ((nI i) + (2 : Int32)) L then (bnd (fX9_named h (xs (Int32.toNatClampNeg ((nI i) + (1 : Int32)))) (xs (Int32.toNatClampNeg ((nI i) + (2 : Int32))))) (fun v_13 h_14 => if inb ((nI i) + (1 : Int32)) L then (if inb ((nI i) + (2 : Int32)) L then (bnd (fX10_named h_14 (xs (Int32.toNatClampNeg ((nI i) + (1 : Int32)))) (xs (Int32.toNatClampNeg ((nI i) + (2 : Int32))))) (fun v_15 h_16 => if v_13 = v_15 then (k h_16) else none)) else none) else none)) else none) else none
set_option maxRecDepth 100000 in
set_option maxHeartbeats 4000000 in
theorem cLc_3 {p : Program} {l : Launch} {e : Env} {s : State} {m : MethodId} {below : List Frame} {meth : Method} {c : Code} {D : va_G} {ids : Nat → ClassId} {b L : Nat} {xs : Nat → Int32} (hC : jC p s m #[Value.ref b] meth c code RL 7 s D ids) (hG : jG s) (hT : va_T .int b L (fun j => .int (xs j)) (jA s) s s.heap) (k : Hp → Option Unit) (h : Hp) (i : Nat) (hi : i ≤ 3072) (hk : ∀ h : Hp, jJ p l e room_1 s m #[Value.ref b] below meth c 7 s D ids shp St (fun (_ : Unit) => lw_Z below #[Value.ref b] s) 153 (200 + 20 * (i + 6)) (20000 + 300 * (i + 6)) h 1601 [(0, .retAddr b), (1, .ref 0), (2, .ref 107), (3, .ref 152), (4, .int (nI i))] [] (k h)) : jJ p l e room_1 s m #[Value.ref b] below meth c 7 s D ids shp St (fun (_ : Unit) => lw_Z below #[Value.ref b] s) 153 (200 + 20 * i) (20000 + 300 * i) h 339 [(0, .retAddr b), (1, .ref 0), (2, .ref 107), (3, .ref 152), (4, .int (nI i))] [] (fLc_3 L xs k h i) := by
  unfold fLc_3
  refine j_aload_n hC 1 rfl rfl (dOk_at dt_L_law_2 36 rfl) ?_
  refine j_xaload_n hC 0 rfl rfl (dOk_at dt_L_law_2 37 rfl) ?_
  refine j_iload hC 4 rfl (dOk_at dt_L_law_2 38 rfl) ?_
  refine j_iconst hC (v := (1 : Int32)) rfl (dOk_at dt_L_law_2 39 rfl) ?_
  refine j_iadd hC (dOk_at dt_L_law_3 0 rfl) ?_
  refine j_xiald hC (f := xs) hT (dOk_at dt_L_law_3 1 rfl) ?_
  refine j_xaload_n hC 0 rfl rfl (dOk_at dt_L_law_3 2 rfl) ?_
  refine j_iload hC 4 rfl (dOk_at dt_L_law_3 3 rfl) ?_
  refine j_iconst hC (v := (2 : Int32)) rfl (dOk_at dt_L_law_3 4 rfl) ?_
  refine j_iadd hC (dOk_at dt_L_law_3 5 rfl) ?_
  refine j_xiald hC (f := xs) hT (dOk_at dt_L_law_3 6 rfl) ?_
  refine j_callVi hC clL_35 (fun r0 hr0 => c_X9_named (by decide) _ _ _ r0 hr0) (show shp 0 = (9, 12) from rfl) (Nat.le_of_ble_eq_true rfl) (by decide) rfl rfl ⟨Nat.le_of_ble_eq_true rfl, Nat.le_of_ble_eq_true rfl⟩ ⟨by show _ ≤ 601024; omega, by show _ ≤ 7293033; omega⟩ (As := [.int (xs (Int32.toNatClampNeg ((nI i) + (1 : Int32)))), .int (xs (Int32.toNatClampNeg ((nI i) + (2 : Int32))))]) (st := []) rfl (Nat.le_of_ble_eq_true rfl) (dOk_at dt_L_law_3 7 rfl) (fun v_13 h_14 _ => ?_)
  refine j_aload_n hC 2 rfl rfl (dOk_at dt_L_law_3 8 rfl) ?_
  refine j_xaload_n hC 0 rfl rfl (dOk_at dt_L_law_3 9 rfl) ?_
  refine j_iload hC 4 rfl (dOk_at dt_L_law_3 10 rfl) ?_
  refine j_iconst hC (v := (1 : Int32)) rfl (dOk_at dt_L_law_3 11 rfl) ?_
  refine j_iadd hC (dOk_at dt_L_law_3 12 rfl) ?_
  refine j_xiald hC (f := xs) hT (dOk_at dt_L_law_3 13 rfl) ?_
  refine j_xaload_n hC 0 rfl rfl (dOk_at dt_L_law_3 14 rfl) ?_
  refine j_iload hC 4 rfl (dOk_at dt_L_law_3 15 rfl) ?_
  refine j_iconst hC (v := (2 : Int32)) rfl (dOk_at dt_L_law_3 16 rfl) ?_
  refine j_iadd hC (dOk_at dt_L_law_3 17 rfl) ?_
  refine j_xiald hC (f := xs) hT (dOk_at dt_L_law_3 18 rfl) ?_
  refine j_callVi hC clL_38 (fun r0 hr0 => c_X10_named (by decide) _ _ _ r0 hr0) (show shp 107 = (10, 88) from rfl) (Nat.le_of_ble_eq_true rfl) (by decide) rfl rfl ⟨Nat.le_of_ble_eq_true rfl, Nat.le_of_ble_eq_true rfl⟩ ⟨by show _ ≤ 601024; omega, by show _ ≤ 7293033; omega⟩ (As := [.int (xs (Int32.toNatClampNeg ((nI i) + (1 : Int32)))), .int (xs (Int32.toNatClampNeg ((nI i) + (2 : Int32))))]) (st := [.int v_13]) rfl (Nat.le_of_ble_eq_true rfl) (dOk_at dt_L_law_3 19 rfl) (fun v_15 h_16 _ => ?_)
  refine j_icmp_eq hC (tgt := 1601) (by decide) (dOk_at dt_L_law_3 20 rfl) (fun _ => ?_) (fun _ => ?_)
  · refine j_widen (kc' := 200 + 20 * (i + 6)) (ks' := 20000 + 300 * (i + 6)) (by omega) (by omega) ?_
    exact hk h_16
  · refine j_iconst hC (v := (0 : Int32)) rfl (dOk_at dt_L_law_3 21 rfl) ?_
    exact j_none
def fLc_4 (L : Nat) (xs : Nat → Int32) (k : Hp → Option Unit) (h : Hp) (i : Nat) : Option Unit := if inb ((nI i) + (1 : Int32)) L then (if inb ((nI i) + (2 : Int32)) L then (bnd (fL_claim h (xs (Int32.toNatClampNeg ((nI i) + (1 : Int32)))) (xs (Int32.toNatClampNeg ((nI i) + (2 : Int32))))) (fun v_17 h_18 => if inb ((nI i) + (1 : Int32)) L then (if inb ((nI i) + (2 : Int32)) L then (bnd (fX10_claim h_18 (xs (Int32.toNatClampNeg ((nI i) + (1 : Int32)))) (xs (Int32.toNatClampNeg ((nI i) + (2 : Int32))))) (fun v_19 h_20 => bnd (fX10_thrown h_20 ) (fun v_21 h_22 => if v_21 = v_17 then (if v_17 = 0 then (if inb (0 : Int32) 1 then (if (lg_cmp (hJ h_22 152 (Int32.toNatClampNeg (0 : Int32))) (Int32.toInt64 v_19)) = 0 then (k h_22) else none) else none) else (k h_22)) else none))) else none) else none)) else none) else none
set_option maxRecDepth 100000 in
set_option maxHeartbeats 4000000 in
theorem cLc_4 {p : Program} {l : Launch} {e : Env} {s : State} {m : MethodId} {below : List Frame} {meth : Method} {c : Code} {D : va_G} {ids : Nat → ClassId} {b L : Nat} {xs : Nat → Int32} (hC : jC p s m #[Value.ref b] meth c code RL 7 s D ids) (hG : jG s) (hT : va_T .int b L (fun j => .int (xs j)) (jA s) s s.heap) (hLc : jLc l s D ids) (k : Hp → Option Unit) (h : Hp) (i : Nat) (hi : i ≤ 3072) (hk : ∀ h : Hp, jJ p l e room_1 s m #[Value.ref b] below meth c 7 s D ids shp St (fun (_ : Unit) => lw_Z below #[Value.ref b] s) 153 (200 + 20 * (i + 6)) (20000 + 300 * (i + 6)) h 1601 [(0, .retAddr b), (1, .ref 0), (2, .ref 107), (3, .ref 152), (4, .int (nI i))] [] (k h)) : jJ p l e room_1 s m #[Value.ref b] below meth c 7 s D ids shp St (fun (_ : Unit) => lw_Z below #[Value.ref b] s) 153 (200 + 20 * i) (20000 + 300 * i) h 376 [(0, .retAddr b), (1, .ref 0), (2, .ref 107), (3, .ref 152), (4, .int (nI i))] [] (fLc_4 L xs k h i) := by
  unfold fLc_4
  refine j_aload_n hC 1 rfl rfl (dOk_at dt_L_law_3 23 rfl) ?_
  refine j_xaload_n hC 0 rfl rfl (dOk_at dt_L_law_3 24 rfl) ?_
  refine j_iload hC 4 rfl (dOk_at dt_L_law_3 25 rfl) ?_
  refine j_iconst hC (v := (1 : Int32)) rfl (dOk_at dt_L_law_3 26 rfl) ?_
  refine j_iadd hC (dOk_at dt_L_law_3 27 rfl) ?_
  refine j_xiald hC (f := xs) hT (dOk_at dt_L_law_3 28 rfl) ?_
  refine j_xaload_n hC 0 rfl rfl (dOk_at dt_L_law_3 29 rfl) ?_
  refine j_iload hC 4 rfl (dOk_at dt_L_law_3 30 rfl) ?_
  refine j_iconst hC (v := (2 : Int32)) rfl (dOk_at dt_L_law_3 31 rfl) ?_
  refine j_iadd hC (dOk_at dt_L_law_3 32 rfl) ?_
  refine j_xiald hC (f := xs) hT (dOk_at dt_L_law_3 33 rfl) ?_
  refine j_aload_n hC 3 rfl rfl (dOk_at dt_L_law_3 34 rfl) ?_
  refine hLc hC (st := []) (by omega) (by omega) (Nat.le_of_ble_eq_true rfl) (dOk_at dt_L_law_3 35 rfl) (fun v_17 h_18 _ => ?_)
  refine j_istore hC (lv' := [(5, .int v_17), (0, .retAddr b), (1, .ref 0), (2, .ref 107), (3, .ref 152), (4, .int (nI i))]) (by decide) rfl (dOk_at dt_L_law_3 36 rfl) ?_
  refine j_aload_n hC 3 rfl rfl (dOk_at dt_L_law_3 37 rfl) ?_
  refine j_xaload_n hC 1 rfl rfl (dOk_at dt_L_law_3 38 rfl) ?_
  refine j_iload hC 5 rfl (dOk_at dt_L_law_3 39 rfl) ?_
  refine j_iconst hC (v := (1 : Int32)) rfl (dOk_at dt_L_law_4 0 rfl) ?_
  refine j_iadd hC (dOk_at dt_L_law_4 1 rfl) ?_
  refine j_xiald hC (f := xs) hT (dOk_at dt_L_law_4 2 rfl) ?_
  refine j_xaload_n hC 1 rfl rfl (dOk_at dt_L_law_4 3 rfl) ?_
  refine j_iload hC 5 rfl (dOk_at dt_L_law_4 4 rfl) ?_
  refine j_iconst hC (v := (2 : Int32)) rfl (dOk_at dt_L_law_4 5 rfl) ?_
  refine j_iadd hC (dOk_at dt_L_law_4 6 rfl) ?_
  refine j_xiald hC (f := xs) hT (dOk_at dt_L_law_4 7 rfl) ?_
  refine j_callVi hC clL_44 (fun r0 hr0 => c_X10_claim (by decide) _ _ _ r0 hr0) (show shp 107 = (10, 88) from rfl) (Nat.le_of_ble_eq_true rfl) (by decide) rfl rfl ⟨Nat.le_of_ble_eq_true rfl, Nat.le_of_ble_eq_true rfl⟩ ⟨by show _ ≤ 601024; omega, by show _ ≤ 7293033; omega⟩ (As := [.int (xs (Int32.toNatClampNeg ((nI i) + (1 : Int32)))), .int (xs (Int32.toNatClampNeg ((nI i) + (2 : Int32))))]) (st := []) rfl (Nat.le_of_ble_eq_true rfl) (dOk_at dt_L_law_4 8 rfl) (fun v_19 h_20 _ => ?_)
  refine j_istore hC (lv' := [(6, .int v_19), (5, .int v_17), (0, .retAddr b), (1, .ref 0), (2, .ref 107), (3, .ref 152), (4, .int (nI i))]) (by decide) rfl (dOk_at dt_L_law_4 9 rfl) ?_
  refine j_aload_n hC 4 rfl rfl (dOk_at dt_L_law_4 10 rfl) ?_
  refine j_callVi hC clL_45 (fun r0 hr0 => c_X10_thrown (by decide) _ r0 hr0) (show shp 107 = (10, 88) from rfl) (Nat.le_of_ble_eq_true rfl) (by decide) rfl rfl ⟨Nat.le_of_ble_eq_true rfl, Nat.le_of_ble_eq_true rfl⟩ ⟨by show _ ≤ 601024; omega, by show _ ≤ 7293033; omega⟩ (As := []) (st := []) rfl (Nat.le_of_ble_eq_true rfl) (dOk_at dt_L_law_4 11 rfl) (fun v_21 h_22 _ => ?_)
  refine j_iload hC 1 rfl (dOk_at dt_L_law_4 12 rfl) ?_
  refine j_icmp_eq hC (tgt := 424) (by decide) (dOk_at dt_L_law_4 13 rfl) (fun _ => ?_) (fun _ => ?_)
  · refine j_iload hC 1 rfl (dOk_at dt_L_law_4 16 rfl) ?_
    refine j_if_ne hC (tgt := 441) (by decide) (dOk_at dt_L_law_4 17 rfl) (fun _ => ?_) (fun _ => ?_)
    · refine j_goto hC (tgt := 1601) (by decide) (dOk_at dt_L_law_4 27 rfl) ?_
      refine j_widen (kc' := 200 + 20 * (i + 6)) (ks' := 20000 + 300 * (i + 6)) (by omega) (by omega) ?_
      refine j_sub [2, 3, 4, 5, 6] rfl ?_
      exact hk h_22
    · refine j_aload_n hC 5 rfl rfl (dOk_at dt_L_law_4 18 rfl) ?_
      refine j_iconst hC (v := (0 : Int32)) rfl (dOk_at dt_L_law_4 19 rfl) ?_
      refine j_lald25 hC (show shp 152 = (25, 1) from rfl) (Nat.le_refl 153) (dOk_at dt_L_law_4 20 rfl) ?_
      refine j_iload hC 0 rfl (dOk_at dt_L_law_4 21 rfl) ?_
      refine j_i2l hC (dOk_at dt_L_law_4 22 rfl) ?_
      refine j_lcmp hC (dOk_at dt_L_law_4 23 rfl) ?_
      refine j_if_eq hC (tgt := 441) (by decide) (dOk_at dt_L_law_4 24 rfl) (fun _ => ?_) (fun _ => ?_)
      · refine j_goto hC (tgt := 1601) (by decide) (dOk_at dt_L_law_4 27 rfl) ?_
        refine j_widen (kc' := 200 + 20 * (i + 6)) (ks' := 20000 + 300 * (i + 6)) (by omega) (by omega) ?_
        refine j_sub [2, 3, 4, 5, 6] rfl ?_
        exact hk h_22
      · refine j_iconst hC (v := (0 : Int32)) rfl (dOk_at dt_L_law_4 25 rfl) ?_
        exact j_none
  · refine j_iconst hC (v := (0 : Int32)) rfl (dOk_at dt_L_law_4 14 rfl) ?_
    exact j_none
def fLc_5 (L : Nat) (xs : Nat → Int32) (k : Hp → Option Unit) (h : Hp) (i : Nat) : Option Unit := if inb ((nI i) + (1 : Int32)) L then (if inb ((nI i) + (2 : Int32)) L then (bnd (fX9_straw h (xs (Int32.toNatClampNeg ((nI i) + (1 : Int32)))) (xs (Int32.toNatClampNeg ((nI i) + (2 : Int32))))) (fun v_23 h_24 => if inb ((nI i) + (1 : Int32)) L then (if inb ((nI i) + (2 : Int32)) L then (bnd (fX10_straw h_24 (xs (Int32.toNatClampNeg ((nI i) + (1 : Int32)))) (xs (Int32.toNatClampNeg ((nI i) + (2 : Int32))))) (fun v_25 h_26 => if v_23 = v_25 then (k h_26) else none)) else none) else none)) else none) else none
set_option maxRecDepth 100000 in
set_option maxHeartbeats 4000000 in
theorem cLc_5 {p : Program} {l : Launch} {e : Env} {s : State} {m : MethodId} {below : List Frame} {meth : Method} {c : Code} {D : va_G} {ids : Nat → ClassId} {b L : Nat} {xs : Nat → Int32} (hC : jC p s m #[Value.ref b] meth c code RL 7 s D ids) (hG : jG s) (hT : va_T .int b L (fun j => .int (xs j)) (jA s) s s.heap) (k : Hp → Option Unit) (h : Hp) (i : Nat) (hi : i ≤ 3072) (hk : ∀ h : Hp, jJ p l e room_1 s m #[Value.ref b] below meth c 7 s D ids shp St (fun (_ : Unit) => lw_Z below #[Value.ref b] s) 153 (200 + 20 * (i + 6)) (20000 + 300 * (i + 6)) h 1601 [(0, .retAddr b), (1, .ref 0), (2, .ref 107), (3, .ref 152), (4, .int (nI i))] [] (k h)) : jJ p l e room_1 s m #[Value.ref b] below meth c 7 s D ids shp St (fun (_ : Unit) => lw_Z below #[Value.ref b] s) 153 (200 + 20 * i) (20000 + 300 * i) h 444 [(0, .retAddr b), (1, .ref 0), (2, .ref 107), (3, .ref 152), (4, .int (nI i))] [] (fLc_5 L xs k h i) := by
  unfold fLc_5
  refine j_aload_n hC 1 rfl rfl (dOk_at dt_L_law_4 28 rfl) ?_
  refine j_xaload_n hC 0 rfl rfl (dOk_at dt_L_law_4 29 rfl) ?_
  refine j_iload hC 4 rfl (dOk_at dt_L_law_4 30 rfl) ?_
  refine j_iconst hC (v := (1 : Int32)) rfl (dOk_at dt_L_law_4 31 rfl) ?_
  refine j_iadd hC (dOk_at dt_L_law_4 32 rfl) ?_
  refine j_xiald hC (f := xs) hT (dOk_at dt_L_law_4 33 rfl) ?_
  refine j_xaload_n hC 0 rfl rfl (dOk_at dt_L_law_4 34 rfl) ?_
  refine j_iload hC 4 rfl (dOk_at dt_L_law_4 35 rfl) ?_
  refine j_iconst hC (v := (2 : Int32)) rfl (dOk_at dt_L_law_4 36 rfl) ?_
  refine j_iadd hC (dOk_at dt_L_law_4 37 rfl) ?_
  refine j_xiald hC (f := xs) hT (dOk_at dt_L_law_4 38 rfl) ?_
  refine j_callVi hC clL_49 (fun r0 hr0 => c_X9_straw (by decide) _ _ _ r0 hr0) (show shp 0 = (9, 12) from rfl) (Nat.le_of_ble_eq_true rfl) (by decide) rfl rfl ⟨Nat.le_of_ble_eq_true rfl, Nat.le_of_ble_eq_true rfl⟩ ⟨by show _ ≤ 601024; omega, by show _ ≤ 7293033; omega⟩ (As := [.int (xs (Int32.toNatClampNeg ((nI i) + (1 : Int32)))), .int (xs (Int32.toNatClampNeg ((nI i) + (2 : Int32))))]) (st := []) rfl (Nat.le_of_ble_eq_true rfl) (dOk_at dt_L_law_4 39 rfl) (fun v_23 h_24 _ => ?_)
  refine j_aload_n hC 2 rfl rfl (dOk_at dt_L_law_5 0 rfl) ?_
  refine j_xaload_n hC 0 rfl rfl (dOk_at dt_L_law_5 1 rfl) ?_
  refine j_iload hC 4 rfl (dOk_at dt_L_law_5 2 rfl) ?_
  refine j_iconst hC (v := (1 : Int32)) rfl (dOk_at dt_L_law_5 3 rfl) ?_
  refine j_iadd hC (dOk_at dt_L_law_5 4 rfl) ?_
  refine j_xiald hC (f := xs) hT (dOk_at dt_L_law_5 5 rfl) ?_
  refine j_xaload_n hC 0 rfl rfl (dOk_at dt_L_law_5 6 rfl) ?_
  refine j_iload hC 4 rfl (dOk_at dt_L_law_5 7 rfl) ?_
  refine j_iconst hC (v := (2 : Int32)) rfl (dOk_at dt_L_law_5 8 rfl) ?_
  refine j_iadd hC (dOk_at dt_L_law_5 9 rfl) ?_
  refine j_xiald hC (f := xs) hT (dOk_at dt_L_law_5 10 rfl) ?_
  refine j_callVi hC clL_52 (fun r0 hr0 => c_X10_straw (by decide) _ _ _ r0 hr0) (show shp 107 = (10, 88) from rfl) (Nat.le_of_ble_eq_true rfl) (by decide) rfl rfl ⟨Nat.le_of_ble_eq_true rfl, Nat.le_of_ble_eq_true rfl⟩ ⟨by show _ ≤ 601024; omega, by show _ ≤ 7293033; omega⟩ (As := [.int (xs (Int32.toNatClampNeg ((nI i) + (1 : Int32)))), .int (xs (Int32.toNatClampNeg ((nI i) + (2 : Int32))))]) (st := [.int v_23]) rfl (Nat.le_of_ble_eq_true rfl) (dOk_at dt_L_law_5 11 rfl) (fun v_25 h_26 _ => ?_)
  refine j_icmp_eq hC (tgt := 1601) (by decide) (dOk_at dt_L_law_5 12 rfl) (fun _ => ?_) (fun _ => ?_)
  · refine j_widen (kc' := 200 + 20 * (i + 6)) (ks' := 20000 + 300 * (i + 6)) (by omega) (by omega) ?_
    exact hk h_26
  · refine j_iconst hC (v := (0 : Int32)) rfl (dOk_at dt_L_law_5 13 rfl) ?_
    exact j_none
def fLc_6 (L : Nat) (xs : Nat → Int32) (k : Hp → Option Unit) (h : Hp) (i : Nat) : Option Unit := if inb ((nI i) + (1 : Int32)) L then (if inb ((nI i) + (2 : Int32)) L then (bnd (fX9_member h (xs (Int32.toNatClampNeg ((nI i) + (1 : Int32)))) (xs (Int32.toNatClampNeg ((nI i) + (2 : Int32))))) (fun v_27 h_28 => if inb ((nI i) + (1 : Int32)) L then (if inb ((nI i) + (2 : Int32)) L then (bnd (fX10_member h_28 (xs (Int32.toNatClampNeg ((nI i) + (1 : Int32)))) (xs (Int32.toNatClampNeg ((nI i) + (2 : Int32))))) (fun v_29 h_30 => if v_27 = v_29 then (k h_30) else none)) else none) else none)) else none) else none
set_option maxRecDepth 100000 in
set_option maxHeartbeats 4000000 in
theorem cLc_6 {p : Program} {l : Launch} {e : Env} {s : State} {m : MethodId} {below : List Frame} {meth : Method} {c : Code} {D : va_G} {ids : Nat → ClassId} {b L : Nat} {xs : Nat → Int32} (hC : jC p s m #[Value.ref b] meth c code RL 7 s D ids) (hG : jG s) (hT : va_T .int b L (fun j => .int (xs j)) (jA s) s s.heap) (k : Hp → Option Unit) (h : Hp) (i : Nat) (hi : i ≤ 3072) (hk : ∀ h : Hp, jJ p l e room_1 s m #[Value.ref b] below meth c 7 s D ids shp St (fun (_ : Unit) => lw_Z below #[Value.ref b] s) 153 (200 + 20 * (i + 6)) (20000 + 300 * (i + 6)) h 1601 [(0, .retAddr b), (1, .ref 0), (2, .ref 107), (3, .ref 152), (4, .int (nI i))] [] (k h)) : jJ p l e room_1 s m #[Value.ref b] below meth c 7 s D ids shp St (fun (_ : Unit) => lw_Z below #[Value.ref b] s) 153 (200 + 20 * i) (20000 + 300 * i) h 481 [(0, .retAddr b), (1, .ref 0), (2, .ref 107), (3, .ref 152), (4, .int (nI i))] [] (fLc_6 L xs k h i) := by
  unfold fLc_6
  refine j_aload_n hC 1 rfl rfl (dOk_at dt_L_law_5 15 rfl) ?_
  refine j_xaload_n hC 0 rfl rfl (dOk_at dt_L_law_5 16 rfl) ?_
  refine j_iload hC 4 rfl (dOk_at dt_L_law_5 17 rfl) ?_
  refine j_iconst hC (v := (1 : Int32)) rfl (dOk_at dt_L_law_5 18 rfl) ?_
  refine j_iadd hC (dOk_at dt_L_law_5 19 rfl) ?_
  refine j_xiald hC (f := xs) hT (dOk_at dt_L_law_5 20 rfl) ?_
  refine j_xaload_n hC 0 rfl rfl (dOk_at dt_L_law_5 21 rfl) ?_
  refine j_iload hC 4 rfl (dOk_at dt_L_law_5 22 rfl) ?_
  refine j_iconst hC (v := (2 : Int32)) rfl (dOk_at dt_L_law_5 23 rfl) ?_
  refine j_iadd hC (dOk_at dt_L_law_5 24 rfl) ?_
  refine j_xiald hC (f := xs) hT (dOk_at dt_L_law_5 25 rfl) ?_
  refine j_callVi hC clL_53 (fun r0 hr0 => c_X9_member (by decide) _ _ _ r0 hr0) (show shp 0 = (9, 12) from rfl) (Nat.le_of_ble_eq_true rfl) (by decide) rfl rfl ⟨Nat.le_of_ble_eq_true rfl, Nat.le_of_ble_eq_true rfl⟩ ⟨by show _ ≤ 601024; omega, by show _ ≤ 7293033; omega⟩ (As := [.int (xs (Int32.toNatClampNeg ((nI i) + (1 : Int32)))), .int (xs (Int32.toNatClampNeg ((nI i) + (2 : Int32))))]) (st := []) rfl (Nat.le_of_ble_eq_true rfl) (dOk_at dt_L_law_5 26 rfl) (fun v_27 h_28 _ => ?_)
  refine j_aload_n hC 2 rfl rfl (dOk_at dt_L_law_5 27 rfl) ?_
  refine j_xaload_n hC 0 rfl rfl (dOk_at dt_L_law_5 28 rfl) ?_
  refine j_iload hC 4 rfl (dOk_at dt_L_law_5 29 rfl) ?_
  refine j_iconst hC (v := (1 : Int32)) rfl (dOk_at dt_L_law_5 30 rfl) ?_
  refine j_iadd hC (dOk_at dt_L_law_5 31 rfl) ?_
  refine j_xiald hC (f := xs) hT (dOk_at dt_L_law_5 32 rfl) ?_
  refine j_xaload_n hC 0 rfl rfl (dOk_at dt_L_law_5 33 rfl) ?_
  refine j_iload hC 4 rfl (dOk_at dt_L_law_5 34 rfl) ?_
  refine j_iconst hC (v := (2 : Int32)) rfl (dOk_at dt_L_law_5 35 rfl) ?_
  refine j_iadd hC (dOk_at dt_L_law_5 36 rfl) ?_
  refine j_xiald hC (f := xs) hT (dOk_at dt_L_law_5 37 rfl) ?_
  refine j_callVi hC clL_56 (fun r0 hr0 => c_X10_member (by decide) _ _ _ r0 hr0) (show shp 107 = (10, 88) from rfl) (Nat.le_of_ble_eq_true rfl) (by decide) rfl rfl ⟨Nat.le_of_ble_eq_true rfl, Nat.le_of_ble_eq_true rfl⟩ ⟨by show _ ≤ 601024; omega, by show _ ≤ 7293033; omega⟩ (As := [.int (xs (Int32.toNatClampNeg ((nI i) + (1 : Int32)))), .int (xs (Int32.toNatClampNeg ((nI i) + (2 : Int32))))]) (st := [.int v_27]) rfl (Nat.le_of_ble_eq_true rfl) (dOk_at dt_L_law_5 38 rfl) (fun v_29 h_30 _ => ?_)
  refine j_icmp_eq hC (tgt := 1601) (by decide) (dOk_at dt_L_law_5 39 rfl) (fun _ => ?_) (fun _ => ?_)
  · refine j_widen (kc' := 200 + 20 * (i + 6)) (ks' := 20000 + 300 * (i + 6)) (by omega) (by omega) ?_
    exact hk h_30
  · refine j_iconst hC (v := (0 : Int32)) rfl (dOk_at dt_L_law_6 0 rfl) ?_
    exact j_none
def fLc_7 (L : Nat) (xs : Nat → Int32) (k : Hp → Option Unit) (h : Hp) (i : Nat) : Option Unit := if inb ((nI i) + (1 : Int32)) L then (if inb ((nI i) + (2 : Int32)) L then (bnd (fX9_force h (xs (Int32.toNatClampNeg ((nI i) + (1 : Int32)))) (xs (Int32.toNatClampNeg ((nI i) + (2 : Int32))))) (fun v_31 h_32 => if inb ((nI i) + (1 : Int32)) L then (if inb ((nI i) + (2 : Int32)) L then (bnd (fX10_force h_32 (xs (Int32.toNatClampNeg ((nI i) + (1 : Int32)))) (xs (Int32.toNatClampNeg ((nI i) + (2 : Int32))))) (fun v_33 h_34 => if v_31 = v_33 then (k h_34) else none)) else none) else none)) else none) else none
set_option maxRecDepth 100000 in
set_option maxHeartbeats 4000000 in
theorem cLc_7 {p : Program} {l : Launch} {e : Env} {s : State} {m : MethodId} {below : List Frame} {meth : Method} {c : Code} {D : va_G} {ids : Nat → ClassId} {b L : Nat} {xs : Nat → Int32} (hC : jC p s m #[Value.ref b] meth c code RL 7 s D ids) (hG : jG s) (hT : va_T .int b L (fun j => .int (xs j)) (jA s) s s.heap) (k : Hp → Option Unit) (h : Hp) (i : Nat) (hi : i ≤ 3072) (hk : ∀ h : Hp, jJ p l e room_1 s m #[Value.ref b] below meth c 7 s D ids shp St (fun (_ : Unit) => lw_Z below #[Value.ref b] s) 153 (200 + 20 * (i + 6)) (20000 + 300 * (i + 6)) h 1601 [(0, .retAddr b), (1, .ref 0), (2, .ref 107), (3, .ref 152), (4, .int (nI i))] [] (k h)) : jJ p l e room_1 s m #[Value.ref b] below meth c 7 s D ids shp St (fun (_ : Unit) => lw_Z below #[Value.ref b] s) 153 (200 + 20 * i) (20000 + 300 * i) h 518 [(0, .retAddr b), (1, .ref 0), (2, .ref 107), (3, .ref 152), (4, .int (nI i))] [] (fLc_7 L xs k h i) := by
  unfold fLc_7
  refine j_aload_n hC 1 rfl rfl (dOk_at dt_L_law_6 2 rfl) ?_
  refine j_xaload_n hC 0 rfl rfl (dOk_at dt_L_law_6 3 rfl) ?_
  refine j_iload hC 4 rfl (dOk_at dt_L_law_6 4 rfl) ?_
  refine j_iconst hC (v := (1 : Int32)) rfl (dOk_at dt_L_law_6 5 rfl) ?_
  refine j_iadd hC (dOk_at dt_L_law_6 6 rfl) ?_
  refine j_xiald hC (f := xs) hT (dOk_at dt_L_law_6 7 rfl) ?_
  refine j_xaload_n hC 0 rfl rfl (dOk_at dt_L_law_6 8 rfl) ?_
  refine j_iload hC 4 rfl (dOk_at dt_L_law_6 9 rfl) ?_
  refine j_iconst hC (v := (2 : Int32)) rfl (dOk_at dt_L_law_6 10 rfl) ?_
  refine j_iadd hC (dOk_at dt_L_law_6 11 rfl) ?_
  refine j_xiald hC (f := xs) hT (dOk_at dt_L_law_6 12 rfl) ?_
  refine j_callVi hC clL_57 (fun r0 hr0 => c_X9_force (by decide) _ _ _ r0 hr0) (show shp 0 = (9, 12) from rfl) (Nat.le_of_ble_eq_true rfl) (by decide) rfl rfl ⟨Nat.le_of_ble_eq_true rfl, Nat.le_of_ble_eq_true rfl⟩ ⟨by show _ ≤ 601024; omega, by show _ ≤ 7293033; omega⟩ (As := [.int (xs (Int32.toNatClampNeg ((nI i) + (1 : Int32)))), .int (xs (Int32.toNatClampNeg ((nI i) + (2 : Int32))))]) (st := []) rfl (Nat.le_of_ble_eq_true rfl) (dOk_at dt_L_law_6 13 rfl) (fun v_31 h_32 _ => ?_)
  refine j_aload_n hC 2 rfl rfl (dOk_at dt_L_law_6 14 rfl) ?_
  refine j_xaload_n hC 0 rfl rfl (dOk_at dt_L_law_6 15 rfl) ?_
  refine j_iload hC 4 rfl (dOk_at dt_L_law_6 16 rfl) ?_
  refine j_iconst hC (v := (1 : Int32)) rfl (dOk_at dt_L_law_6 17 rfl) ?_
  refine j_iadd hC (dOk_at dt_L_law_6 18 rfl) ?_
  refine j_xiald hC (f := xs) hT (dOk_at dt_L_law_6 19 rfl) ?_
  refine j_xaload_n hC 0 rfl rfl (dOk_at dt_L_law_6 20 rfl) ?_
  refine j_iload hC 4 rfl (dOk_at dt_L_law_6 21 rfl) ?_
  refine j_iconst hC (v := (2 : Int32)) rfl (dOk_at dt_L_law_6 22 rfl) ?_
  refine j_iadd hC (dOk_at dt_L_law_6 23 rfl) ?_
  refine j_xiald hC (f := xs) hT (dOk_at dt_L_law_6 24 rfl) ?_
  refine j_callVi hC clL_60 (fun r0 hr0 => c_X10_force (by decide) _ _ _ r0 hr0) (show shp 107 = (10, 88) from rfl) (Nat.le_of_ble_eq_true rfl) (by decide) rfl rfl ⟨Nat.le_of_ble_eq_true rfl, Nat.le_of_ble_eq_true rfl⟩ ⟨by show _ ≤ 601024; omega, by show _ ≤ 7293033; omega⟩ (As := [.int (xs (Int32.toNatClampNeg ((nI i) + (1 : Int32)))), .int (xs (Int32.toNatClampNeg ((nI i) + (2 : Int32))))]) (st := [.int v_31]) rfl (Nat.le_of_ble_eq_true rfl) (dOk_at dt_L_law_6 25 rfl) (fun v_33 h_34 _ => ?_)
  refine j_icmp_eq hC (tgt := 1601) (by decide) (dOk_at dt_L_law_6 26 rfl) (fun _ => ?_) (fun _ => ?_)
  · refine j_widen (kc' := 200 + 20 * (i + 6)) (ks' := 20000 + 300 * (i + 6)) (by omega) (by omega) ?_
    exact hk h_34
  · refine j_iconst hC (v := (0 : Int32)) rfl (dOk_at dt_L_law_6 27 rfl) ?_
    exact j_none
def fLc_8 (L : Nat) (xs : Nat → Int32) (k : Hp → Option Unit) (h : Hp) (i : Nat) : Option Unit := if inb ((nI i) + (1 : Int32)) L then (if inb ((nI i) + (2 : Int32)) L then (if inb ((nI i) + (3 : Int32)) L then (bnd (fX9_law h (xs (Int32.toNatClampNeg ((nI i) + (1 : Int32)))) (xs (Int32.toNatClampNeg ((nI i) + (2 : Int32)))) (xs (Int32.toNatClampNeg ((nI i) + (3 : Int32))))) (fun v_35 h_36 => if inb ((nI i) + (1 : Int32)) L then (if inb ((nI i) + (2 : Int32)) L then (if inb ((nI i) + (3 : Int32)) L then (bnd (fX10_law h_36 (xs (Int32.toNatClampNeg ((nI i) + (1 : Int32)))) (xs (Int32.toNatClampNeg ((nI i) + (2 : Int32)))) (xs (Int32.toNatClampNeg ((nI i) + (3 : Int32))))) (fun v_37 h_38 => if (lg_cmp v_35 v_37) = 0 then (k h_38) else none)) else none) else none) else none)) else none) else none) else none
set_option maxRecDepth 100000 in
set_option maxHeartbeats 4000000 in
theorem cLc_8 {p : Program} {l : Launch} {e : Env} {s : State} {m : MethodId} {below : List Frame} {meth : Method} {c : Code} {D : va_G} {ids : Nat → ClassId} {b L : Nat} {xs : Nat → Int32} (hC : jC p s m #[Value.ref b] meth c code RL 7 s D ids) (hG : jG s) (hT : va_T .int b L (fun j => .int (xs j)) (jA s) s s.heap) (k : Hp → Option Unit) (h : Hp) (i : Nat) (hi : i ≤ 3072) (hk : ∀ h : Hp, jJ p l e room_1 s m #[Value.ref b] below meth c 7 s D ids shp St (fun (_ : Unit) => lw_Z below #[Value.ref b] s) 153 (200 + 20 * (i + 6)) (20000 + 300 * (i + 6)) h 1601 [(0, .retAddr b), (1, .ref 0), (2, .ref 107), (3, .ref 152), (4, .int (nI i))] [] (k h)) : jJ p l e room_1 s m #[Value.ref b] below meth c 7 s D ids shp St (fun (_ : Unit) => lw_Z below #[Value.ref b] s) 153 (200 + 20 * i) (20000 + 300 * i) h 555 [(0, .retAddr b), (1, .ref 0), (2, .ref 107), (3, .ref 152), (4, .int (nI i))] [] (fLc_8 L xs k h i) := by
  unfold fLc_8
  refine j_aload_n hC 1 rfl rfl (dOk_at dt_L_law_6 29 rfl) ?_
  refine j_xaload_n hC 0 rfl rfl (dOk_at dt_L_law_6 30 rfl) ?_
  refine j_iload hC 4 rfl (dOk_at dt_L_law_6 31 rfl) ?_
  refine j_iconst hC (v := (1 : Int32)) rfl (dOk_at dt_L_law_6 32 rfl) ?_
  refine j_iadd hC (dOk_at dt_L_law_6 33 rfl) ?_
  refine j_xiald hC (f := xs) hT (dOk_at dt_L_law_6 34 rfl) ?_
  refine j_xaload_n hC 0 rfl rfl (dOk_at dt_L_law_6 35 rfl) ?_
  refine j_iload hC 4 rfl (dOk_at dt_L_law_6 36 rfl) ?_
  refine j_iconst hC (v := (2 : Int32)) rfl (dOk_at dt_L_law_6 37 rfl) ?_
  refine j_iadd hC (dOk_at dt_L_law_6 38 rfl) ?_
  refine j_xiald hC (f := xs) hT (dOk_at dt_L_law_6 39 rfl) ?_
  refine j_xaload_n hC 0 rfl rfl (dOk_at dt_L_law_7 0 rfl) ?_
  refine j_iload hC 4 rfl (dOk_at dt_L_law_7 1 rfl) ?_
  refine j_iconst hC (v := (3 : Int32)) rfl (dOk_at dt_L_law_7 2 rfl) ?_
  refine j_iadd hC (dOk_at dt_L_law_7 3 rfl) ?_
  refine j_xiald hC (f := xs) hT (dOk_at dt_L_law_7 4 rfl) ?_
  refine j_callVl hC clL_61 (fun r0 hr0 => c_X9_law (by decide) _ _ _ _ r0 hr0) (show shp 0 = (9, 12) from rfl) (Nat.le_of_ble_eq_true rfl) (by decide) rfl rfl ⟨Nat.le_of_ble_eq_true rfl, Nat.le_of_ble_eq_true rfl⟩ ⟨by show _ ≤ 601024; omega, by show _ ≤ 7293033; omega⟩ (As := [.int (xs (Int32.toNatClampNeg ((nI i) + (1 : Int32)))), .int (xs (Int32.toNatClampNeg ((nI i) + (2 : Int32)))), .int (xs (Int32.toNatClampNeg ((nI i) + (3 : Int32))))]) (st := []) rfl (Nat.le_of_ble_eq_true rfl) (dOk_at dt_L_law_7 5 rfl) (fun v_35 h_36 _ => ?_)
  refine j_aload_n hC 2 rfl rfl (dOk_at dt_L_law_7 6 rfl) ?_
  refine j_xaload_n hC 0 rfl rfl (dOk_at dt_L_law_7 7 rfl) ?_
  refine j_iload hC 4 rfl (dOk_at dt_L_law_7 8 rfl) ?_
  refine j_iconst hC (v := (1 : Int32)) rfl (dOk_at dt_L_law_7 9 rfl) ?_
  refine j_iadd hC (dOk_at dt_L_law_7 10 rfl) ?_
  refine j_xiald hC (f := xs) hT (dOk_at dt_L_law_7 11 rfl) ?_
  refine j_xaload_n hC 0 rfl rfl (dOk_at dt_L_law_7 12 rfl) ?_
  refine j_iload hC 4 rfl (dOk_at dt_L_law_7 13 rfl) ?_
  refine j_iconst hC (v := (2 : Int32)) rfl (dOk_at dt_L_law_7 14 rfl) ?_
  refine j_iadd hC (dOk_at dt_L_law_7 15 rfl) ?_
  refine j_xiald hC (f := xs) hT (dOk_at dt_L_law_7 16 rfl) ?_
  refine j_xaload_n hC 0 rfl rfl (dOk_at dt_L_law_7 17 rfl) ?_
  refine j_iload hC 4 rfl (dOk_at dt_L_law_7 18 rfl) ?_
  refine j_iconst hC (v := (3 : Int32)) rfl (dOk_at dt_L_law_7 19 rfl) ?_
  refine j_iadd hC (dOk_at dt_L_law_7 20 rfl) ?_
  refine j_xiald hC (f := xs) hT (dOk_at dt_L_law_7 21 rfl) ?_
  refine j_callVl hC clL_65 (fun r0 hr0 => c_X10_law (by decide) _ _ _ _ r0 hr0) (show shp 107 = (10, 88) from rfl) (Nat.le_of_ble_eq_true rfl) (by decide) rfl rfl ⟨Nat.le_of_ble_eq_true rfl, Nat.le_of_ble_eq_true rfl⟩ ⟨by show _ ≤ 601024; omega, by show _ ≤ 7293033; omega⟩ (As := [.int (xs (Int32.toNatClampNeg ((nI i) + (1 : Int32)))), .int (xs (Int32.toNatClampNeg ((nI i) + (2 : Int32)))), .int (xs (Int32.toNatClampNeg ((nI i) + (3 : Int32))))]) (st := [.long v_35]) rfl (Nat.le_of_ble_eq_true rfl) (dOk_at dt_L_law_7 22 rfl) (fun v_37 h_38 _ => ?_)
  refine j_lcmp hC (dOk_at dt_L_law_7 23 rfl) ?_
  refine j_if_eq hC (tgt := 1601) (by decide) (dOk_at dt_L_law_7 24 rfl) (fun _ => ?_) (fun _ => ?_)
  · refine j_widen (kc' := 200 + 20 * (i + 6)) (ks' := 20000 + 300 * (i + 6)) (by omega) (by omega) ?_
    exact hk h_38
  · refine j_iconst hC (v := (0 : Int32)) rfl (dOk_at dt_L_law_7 25 rfl) ?_
    exact j_none
def fLc_9 (L : Nat) (xs : Nat → Int32) (k : Hp → Option Unit) (h : Hp) (i : Nat) : Option Unit := if inb ((nI i) + (1 : Int32)) L then (if inb ((nI i) + (2 : Int32)) L then (bnd (fX9_debate h (xs (Int32.toNatClampNeg ((nI i) + (1 : Int32)))) (xs (Int32.toNatClampNeg ((nI i) + (2 : Int32))))) (fun v_39 h_40 => if inb ((nI i) + (1 : Int32)) L then (if inb ((nI i) + (2 : Int32)) L then (bnd (fX10_debate h_40 (xs (Int32.toNatClampNeg ((nI i) + (1 : Int32)))) (xs (Int32.toNatClampNeg ((nI i) + (2 : Int32))))) (fun v_41 h_42 => if v_39 = v_41 then (k h_42) else none)) else none) else none)) else none) else none
set_option maxRecDepth 100000 in
set_option maxHeartbeats 4000000 in
theorem cLc_9 {p : Program} {l : Launch} {e : Env} {s : State} {m : MethodId} {below : List Frame} {meth : Method} {c : Code} {D : va_G} {ids : Nat → ClassId} {b L : Nat} {xs : Nat → Int32} (hC : jC p s m #[Value.ref b] meth c code RL 7 s D ids) (hG : jG s) (hT : va_T .int b L (fun j => .int (xs j)) (jA s) s s.heap) (k : Hp → Option Unit) (h : Hp) (i : Nat) (hi : i ≤ 3072) (hk : ∀ h : Hp, jJ p l e room_1 s m #[Value.ref b] below meth c 7 s D ids shp St (fun (_ : Unit) => lw_Z below #[Value.ref b] s) 153 (200 + 20 * (i + 6)) (20000 + 300 * (i + 6)) h 1601 [(0, .retAddr b), (1, .ref 0), (2, .ref 107), (3, .ref 152), (4, .int (nI i))] [] (k h)) : jJ p l e room_1 s m #[Value.ref b] below meth c 7 s D ids shp St (fun (_ : Unit) => lw_Z below #[Value.ref b] s) 153 (200 + 20 * i) (20000 + 300 * i) h 605 [(0, .retAddr b), (1, .ref 0), (2, .ref 107), (3, .ref 152), (4, .int (nI i))] [] (fLc_9 L xs k h i) := by
  unfold fLc_9
  refine j_aload_n hC 1 rfl rfl (dOk_at dt_L_law_7 27 rfl) ?_
  refine j_xaload_n hC 0 rfl rfl (dOk_at dt_L_law_7 28 rfl) ?_
  refine j_iload hC 4 rfl (dOk_at dt_L_law_7 29 rfl) ?_
  refine j_iconst hC (v := (1 : Int32)) rfl (dOk_at dt_L_law_7 30 rfl) ?_
  refine j_iadd hC (dOk_at dt_L_law_7 31 rfl) ?_
  refine j_xiald hC (f := xs) hT (dOk_at dt_L_law_7 32 rfl) ?_
  refine j_xaload_n hC 0 rfl rfl (dOk_at dt_L_law_7 33 rfl) ?_
  refine j_iload hC 4 rfl (dOk_at dt_L_law_7 34 rfl) ?_
  refine j_iconst hC (v := (2 : Int32)) rfl (dOk_at dt_L_law_7 35 rfl) ?_
  refine j_iadd hC (dOk_at dt_L_law_7 36 rfl) ?_
  refine j_xiald hC (f := xs) hT (dOk_at dt_L_law_7 37 rfl) ?_
  refine j_callVi hC clL_66 (fun r0 hr0 => c_X9_debate (by decide) _ _ _ r0 hr0) (show shp 0 = (9, 12) from rfl) (Nat.le_of_ble_eq_true rfl) (by decide) rfl rfl ⟨Nat.le_of_ble_eq_true rfl, Nat.le_of_ble_eq_true rfl⟩ ⟨by show _ ≤ 601024; omega, by show _ ≤ 7293033; omega⟩ (As := [.int (xs (Int32.toNatClampNeg ((nI i) + (1 : Int32)))), .int (xs (Int32.toNatClampNeg ((nI i) + (2 : Int32))))]) (st := []) rfl (Nat.le_of_ble_eq_true rfl) (dOk_at dt_L_law_7 38 rfl) (fun v_39 h_40 _ => ?_)
  refine j_aload_n hC 2 rfl rfl (dOk_at dt_L_law_7 39 rfl) ?_
  refine j_xaload_n hC 0 rfl rfl (dOk_at dt_L_law_8 0 rfl) ?_
  refine j_iload hC 4 rfl (dOk_at dt_L_law_8 1 rfl) ?_
  refine j_iconst hC (v := (1 : Int32)) rfl (dOk_at dt_L_law_8 2 rfl) ?_
  refine j_iadd hC (dOk_at dt_L_law_8 3 rfl) ?_
  refine j_xiald hC (f := xs) hT (dOk_at dt_L_law_8 4 rfl) ?_
  refine j_xaload_n hC 0 rfl rfl (dOk_at dt_L_law_8 5 rfl) ?_
  refine j_iload hC 4 rfl (dOk_at dt_L_law_8 6 rfl) ?_
  refine j_iconst hC (v := (2 : Int32)) rfl (dOk_at dt_L_law_8 7 rfl) ?_
  refine j_iadd hC (dOk_at dt_L_law_8 8 rfl) ?_
  refine j_xiald hC (f := xs) hT (dOk_at dt_L_law_8 9 rfl) ?_
  refine j_callVi hC clL_69 (fun r0 hr0 => c_X10_debate (by decide) _ _ _ r0 hr0) (show shp 107 = (10, 88) from rfl) (Nat.le_of_ble_eq_true rfl) (by decide) rfl rfl ⟨Nat.le_of_ble_eq_true rfl, Nat.le_of_ble_eq_true rfl⟩ ⟨by show _ ≤ 601024; omega, by show _ ≤ 7293033; omega⟩ (As := [.int (xs (Int32.toNatClampNeg ((nI i) + (1 : Int32)))), .int (xs (Int32.toNatClampNeg ((nI i) + (2 : Int32))))]) (st := [.int v_39]) rfl (Nat.le_of_ble_eq_true rfl) (dOk_at dt_L_law_8 10 rfl) (fun v_41 h_42 _ => ?_)
  refine j_icmp_eq hC (tgt := 1601) (by decide) (dOk_at dt_L_law_8 11 rfl) (fun _ => ?_) (fun _ => ?_)
  · refine j_widen (kc' := 200 + 20 * (i + 6)) (ks' := 20000 + 300 * (i + 6)) (by omega) (by omega) ?_
    exact hk h_42
  · refine j_iconst hC (v := (0 : Int32)) rfl (dOk_at dt_L_law_8 12 rfl) ?_
    exact j_none
def fLc_10 (L : Nat) (xs : Nat → Int32) (k : Hp → Option Unit) (h : Hp) (i : Nat) : Option Unit := if inb ((nI i) + (1 : Int32)) L then (if inb ((nI i) + (2 : Int32)) L then (bnd (fX9_take h (xs (Int32.toNatClampNeg ((nI i) + (1 : Int32)))) (xs (Int32.toNatClampNeg ((nI i) + (2 : Int32))))) (fun v_43 h_44 => if inb ((nI i) + (1 : Int32)) L then (if inb ((nI i) + (2 : Int32)) L then (bnd (fX10_take h_44 (xs (Int32.toNatClampNeg ((nI i) + (1 : Int32)))) (xs (Int32.toNatClampNeg ((nI i) + (2 : Int32))))) (fun v_45 h_46 => if v_43 = v_45 then (k h_46) else none)) else none) else none)) else none) else none
set_option maxRecDepth 100000 in
set_option maxHeartbeats 4000000 in
theorem cLc_10 {p : Program} {l : Launch} {e : Env} {s : State} {m : MethodId} {below : List Frame} {meth : Method} {c : Code} {D : va_G} {ids : Nat → ClassId} {b L : Nat} {xs : Nat → Int32} (hC : jC p s m #[Value.ref b] meth c code RL 7 s D ids) (hG : jG s) (hT : va_T .int b L (fun j => .int (xs j)) (jA s) s s.heap) (k : Hp → Option Unit) (h : Hp) (i : Nat) (hi : i ≤ 3072) (hk : ∀ h : Hp, jJ p l e room_1 s m #[Value.ref b] below meth c 7 s D ids shp St (fun (_ : Unit) => lw_Z below #[Value.ref b] s) 153 (200 + 20 * (i + 6)) (20000 + 300 * (i + 6)) h 1601 [(0, .retAddr b), (1, .ref 0), (2, .ref 107), (3, .ref 152), (4, .int (nI i))] [] (k h)) : jJ p l e room_1 s m #[Value.ref b] below meth c 7 s D ids shp St (fun (_ : Unit) => lw_Z below #[Value.ref b] s) 153 (200 + 20 * i) (20000 + 300 * i) h 642 [(0, .retAddr b), (1, .ref 0), (2, .ref 107), (3, .ref 152), (4, .int (nI i))] [] (fLc_10 L xs k h i) := by
  unfold fLc_10
  refine j_aload_n hC 1 rfl rfl (dOk_at dt_L_law_8 14 rfl) ?_
  refine j_xaload_n hC 0 rfl rfl (dOk_at dt_L_law_8 15 rfl) ?_
  refine j_iload hC 4 rfl (dOk_at dt_L_law_8 16 rfl) ?_
  refine j_iconst hC (v := (1 : Int32)) rfl (dOk_at dt_L_law_8 17 rfl) ?_
  refine j_iadd hC (dOk_at dt_L_law_8 18 rfl) ?_
  refine j_xiald hC (f := xs) hT (dOk_at dt_L_law_8 19 rfl) ?_
  refine j_xaload_n hC 0 rfl rfl (dOk_at dt_L_law_8 20 rfl) ?_
  refine j_iload hC 4 rfl (dOk_at dt_L_law_8 21 rfl) ?_
  refine j_iconst hC (v := (2 : Int32)) rfl (dOk_at dt_L_law_8 22 rfl) ?_
  refine j_iadd hC (dOk_at dt_L_law_8 23 rfl) ?_
  refine j_xiald hC (f := xs) hT (dOk_at dt_L_law_8 24 rfl) ?_
  refine j_callVi hC clL_70 (fun r0 hr0 => c_X9_take (by decide) _ _ _ r0 hr0) (show shp 0 = (9, 12) from rfl) (Nat.le_of_ble_eq_true rfl) (by decide) rfl rfl ⟨Nat.le_of_ble_eq_true rfl, Nat.le_of_ble_eq_true rfl⟩ ⟨by show _ ≤ 601024; omega, by show _ ≤ 7293033; omega⟩ (As := [.int (xs (Int32.toNatClampNeg ((nI i) + (1 : Int32)))), .int (xs (Int32.toNatClampNeg ((nI i) + (2 : Int32))))]) (st := []) rfl (Nat.le_of_ble_eq_true rfl) (dOk_at dt_L_law_8 25 rfl) (fun v_43 h_44 _ => ?_)
  refine j_aload_n hC 2 rfl rfl (dOk_at dt_L_law_8 26 rfl) ?_
  refine j_xaload_n hC 0 rfl rfl (dOk_at dt_L_law_8 27 rfl) ?_
  refine j_iload hC 4 rfl (dOk_at dt_L_law_8 28 rfl) ?_
  refine j_iconst hC (v := (1 : Int32)) rfl (dOk_at dt_L_law_8 29 rfl) ?_
  refine j_iadd hC (dOk_at dt_L_law_8 30 rfl) ?_
  refine j_xiald hC (f := xs) hT (dOk_at dt_L_law_8 31 rfl) ?_
  refine j_xaload_n hC 0 rfl rfl (dOk_at dt_L_law_8 32 rfl) ?_
  refine j_iload hC 4 rfl (dOk_at dt_L_law_8 33 rfl) ?_
  refine j_iconst hC (v := (2 : Int32)) rfl (dOk_at dt_L_law_8 34 rfl) ?_
  refine j_iadd hC (dOk_at dt_L_law_8 35 rfl) ?_
  refine j_xiald hC (f := xs) hT (dOk_at dt_L_law_8 36 rfl) ?_
  refine j_callVi hC clL_73 (fun r0 hr0 => c_X10_take (by decide) _ _ _ r0 hr0) (show shp 107 = (10, 88) from rfl) (Nat.le_of_ble_eq_true rfl) (by decide) rfl rfl ⟨Nat.le_of_ble_eq_true rfl, Nat.le_of_ble_eq_true rfl⟩ ⟨by show _ ≤ 601024; omega, by show _ ≤ 7293033; omega⟩ (As := [.int (xs (Int32.toNatClampNeg ((nI i) + (1 : Int32)))), .int (xs (Int32.toNatClampNeg ((nI i) + (2 : Int32))))]) (st := [.int v_43]) rfl (Nat.le_of_ble_eq_true rfl) (dOk_at dt_L_law_8 37 rfl) (fun v_45 h_46 _ => ?_)
  refine j_icmp_eq hC (tgt := 1601) (by decide) (dOk_at dt_L_law_8 38 rfl) (fun _ => ?_) (fun _ => ?_)
  · refine j_widen (kc' := 200 + 20 * (i + 6)) (ks' := 20000 + 300 * (i + 6)) (by omega) (by omega) ?_
    exact hk h_46
  · refine j_iconst hC (v := (0 : Int32)) rfl (dOk_at dt_L_law_8 39 rfl) ?_
    exact j_none
def fLc_11 (L : Nat) (xs : Nat → Int32) (k : Hp → Option Unit) (h : Hp) (i : Nat) : Option Unit := if inb ((nI i) + (1 : Int32)) L then (if inb ((nI i) + (2 : Int32)) L then (bnd (fX9_drop h (xs (Int32.toNatClampNeg ((nI i) + (1 : Int32)))) (xs (Int32.toNatClampNeg ((nI i) + (2 : Int32))))) (fun v_47 h_48 => if inb ((nI i) + (1 : Int32)) L then (if inb ((nI i) + (2 : Int32)) L then (bnd (fX10_drop h_48 (xs (Int32.toNatClampNeg ((nI i) + (1 : Int32)))) (xs (Int32.toNatClampNeg ((nI i) + (2 : Int32))))) (fun v_49 h_50 => if v_47 = v_49 then (k h_50) else none)) else none) else none)) else none) else none
set_option maxRecDepth 100000 in
set_option maxHeartbeats 4000000 in
theorem cLc_11 {p : Program} {l : Launch} {e : Env} {s : State} {m : MethodId} {below : List Frame} {meth : Method} {c : Code} {D : va_G} {ids : Nat → ClassId} {b L : Nat} {xs : Nat → Int32} (hC : jC p s m #[Value.ref b] meth c code RL 7 s D ids) (hG : jG s) (hT : va_T .int b L (fun j => .int (xs j)) (jA s) s s.heap) (k : Hp → Option Unit) (h : Hp) (i : Nat) (hi : i ≤ 3072) (hk : ∀ h : Hp, jJ p l e room_1 s m #[Value.ref b] below meth c 7 s D ids shp St (fun (_ : Unit) => lw_Z below #[Value.ref b] s) 153 (200 + 20 * (i + 6)) (20000 + 300 * (i + 6)) h 1601 [(0, .retAddr b), (1, .ref 0), (2, .ref 107), (3, .ref 152), (4, .int (nI i))] [] (k h)) : jJ p l e room_1 s m #[Value.ref b] below meth c 7 s D ids shp St (fun (_ : Unit) => lw_Z below #[Value.ref b] s) 153 (200 + 20 * i) (20000 + 300 * i) h 679 [(0, .retAddr b), (1, .ref 0), (2, .ref 107), (3, .ref 152), (4, .int (nI i))] [] (fLc_11 L xs k h i) := by
  unfold fLc_11
  refine j_aload_n hC 1 rfl rfl (dOk_at dt_L_law_9 1 rfl) ?_
  refine j_xaload_n hC 0 rfl rfl (dOk_at dt_L_law_9 2 rfl) ?_
  refine j_iload hC 4 rfl (dOk_at dt_L_law_9 3 rfl) ?_
  refine j_iconst hC (v := (1 : Int32)) rfl (dOk_at dt_L_law_9 4 rfl) ?_
  refine j_iadd hC (dOk_at dt_L_law_9 5 rfl) ?_
  refine j_xiald hC (f := xs) hT (dOk_at dt_L_law_9 6 rfl) ?_
  refine j_xaload_n hC 0 rfl rfl (dOk_at dt_L_law_9 7 rfl) ?_
  refine j_iload hC 4 rfl (dOk_at dt_L_law_9 8 rfl) ?_
  refine j_iconst hC (v := (2 : Int32)) rfl (dOk_at dt_L_law_9 9 rfl) ?_
  refine j_iadd hC (dOk_at dt_L_law_9 10 rfl) ?_
  refine j_xiald hC (f := xs) hT (dOk_at dt_L_law_9 11 rfl) ?_
  refine j_callVi hC clL_74 (fun r0 hr0 => c_X9_drop (by decide) _ _ _ r0 hr0) (show shp 0 = (9, 12) from rfl) (Nat.le_of_ble_eq_true rfl) (by decide) rfl rfl ⟨Nat.le_of_ble_eq_true rfl, Nat.le_of_ble_eq_true rfl⟩ ⟨by show _ ≤ 601024; omega, by show _ ≤ 7293033; omega⟩ (As := [.int (xs (Int32.toNatClampNeg ((nI i) + (1 : Int32)))), .int (xs (Int32.toNatClampNeg ((nI i) + (2 : Int32))))]) (st := []) rfl (Nat.le_of_ble_eq_true rfl) (dOk_at dt_L_law_9 12 rfl) (fun v_47 h_48 _ => ?_)
  refine j_aload_n hC 2 rfl rfl (dOk_at dt_L_law_9 13 rfl) ?_
  refine j_xaload_n hC 0 rfl rfl (dOk_at dt_L_law_9 14 rfl) ?_
  refine j_iload hC 4 rfl (dOk_at dt_L_law_9 15 rfl) ?_
  refine j_iconst hC (v := (1 : Int32)) rfl (dOk_at dt_L_law_9 16 rfl) ?_
  refine j_iadd hC (dOk_at dt_L_law_9 17 rfl) ?_
  refine j_xiald hC (f := xs) hT (dOk_at dt_L_law_9 18 rfl) ?_
  refine j_xaload_n hC 0 rfl rfl (dOk_at dt_L_law_9 19 rfl) ?_
  refine j_iload hC 4 rfl (dOk_at dt_L_law_9 20 rfl) ?_
  refine j_iconst hC (v := (2 : Int32)) rfl (dOk_at dt_L_law_9 21 rfl) ?_
  refine j_iadd hC (dOk_at dt_L_law_9 22 rfl) ?_
  refine j_xiald hC (f := xs) hT (dOk_at dt_L_law_9 23 rfl) ?_
  refine j_callVi hC clL_78 (fun r0 hr0 => c_X10_drop (by decide) _ _ _ r0 hr0) (show shp 107 = (10, 88) from rfl) (Nat.le_of_ble_eq_true rfl) (by decide) rfl rfl ⟨Nat.le_of_ble_eq_true rfl, Nat.le_of_ble_eq_true rfl⟩ ⟨by show _ ≤ 601024; omega, by show _ ≤ 7293033; omega⟩ (As := [.int (xs (Int32.toNatClampNeg ((nI i) + (1 : Int32)))), .int (xs (Int32.toNatClampNeg ((nI i) + (2 : Int32))))]) (st := [.int v_47]) rfl (Nat.le_of_ble_eq_true rfl) (dOk_at dt_L_law_9 24 rfl) (fun v_49 h_50 _ => ?_)
  refine j_icmp_eq hC (tgt := 1601) (by decide) (dOk_at dt_L_law_9 25 rfl) (fun _ => ?_) (fun _ => ?_)
  · refine j_widen (kc' := 200 + 20 * (i + 6)) (ks' := 20000 + 300 * (i + 6)) (by omega) (by omega) ?_
    exact hk h_50
  · refine j_iconst hC (v := (0 : Int32)) rfl (dOk_at dt_L_law_9 26 rfl) ?_
    exact j_none
def fLc_12 (L : Nat) (xs : Nat → Int32) (k : Hp → Option Unit) (h : Hp) (i : Nat) : Option Unit := if inb ((nI i) + (1 : Int32)) L then (bnd (fX9_go h (xs (Int32.toNatClampNeg ((nI i) + (1 : Int32))))) (fun v_51 h_52 => if inb ((nI i) + (1 : Int32)) L then (bnd (fX10_go h_52 (xs (Int32.toNatClampNeg ((nI i) + (1 : Int32))))) (fun v_53 h_54 => if v_51 = v_53 then (k h_54) else none)) else none)) else none
set_option maxRecDepth 100000 in
set_option maxHeartbeats 4000000 in
theorem cLc_12 {p : Program} {l : Launch} {e : Env} {s : State} {m : MethodId} {below : List Frame} {meth : Method} {c : Code} {D : va_G} {ids : Nat → ClassId} {b L : Nat} {xs : Nat → Int32} (hC : jC p s m #[Value.ref b] meth c code RL 7 s D ids) (hG : jG s) (hT : va_T .int b L (fun j => .int (xs j)) (jA s) s s.heap) (k : Hp → Option Unit) (h : Hp) (i : Nat) (hi : i ≤ 3072) (hk : ∀ h : Hp, jJ p l e room_1 s m #[Value.ref b] below meth c 7 s D ids shp St (fun (_ : Unit) => lw_Z below #[Value.ref b] s) 153 (200 + 20 * (i + 6)) (20000 + 300 * (i + 6)) h 1601 [(0, .retAddr b), (1, .ref 0), (2, .ref 107), (3, .ref 152), (4, .int (nI i))] [] (k h)) : jJ p l e room_1 s m #[Value.ref b] below meth c 7 s D ids shp St (fun (_ : Unit) => lw_Z below #[Value.ref b] s) 153 (200 + 20 * i) (20000 + 300 * i) h 716 [(0, .retAddr b), (1, .ref 0), (2, .ref 107), (3, .ref 152), (4, .int (nI i))] [] (fLc_12 L xs k h i) := by
  unfold fLc_12
  refine j_aload_n hC 1 rfl rfl (dOk_at dt_L_law_9 28 rfl) ?_
  refine j_xaload_n hC 0 rfl rfl (dOk_at dt_L_law_9 29 rfl) ?_
  refine j_iload hC 4 rfl (dOk_at dt_L_law_9 30 rfl) ?_
  refine j_iconst hC (v := (1 : Int32)) rfl (dOk_at dt_L_law_9 31 rfl) ?_
  refine j_iadd hC (dOk_at dt_L_law_9 32 rfl) ?_
  refine j_xiald hC (f := xs) hT (dOk_at dt_L_law_9 33 rfl) ?_
  refine j_callVi hC clL_79 (fun r0 hr0 => c_X9_go (by decide) _ _ r0 hr0) (show shp 0 = (9, 12) from rfl) (Nat.le_of_ble_eq_true rfl) (by decide) rfl rfl ⟨Nat.le_of_ble_eq_true rfl, Nat.le_of_ble_eq_true rfl⟩ ⟨by show _ ≤ 601024; omega, by show _ ≤ 7293033; omega⟩ (As := [.int (xs (Int32.toNatClampNeg ((nI i) + (1 : Int32))))]) (st := []) rfl (Nat.le_of_ble_eq_true rfl) (dOk_at dt_L_law_9 34 rfl) (fun v_51 h_52 _ => ?_)
  refine j_aload_n hC 2 rfl rfl (dOk_at dt_L_law_9 35 rfl) ?_
  refine j_xaload_n hC 0 rfl rfl (dOk_at dt_L_law_9 36 rfl) ?_
  refine j_iload hC 4 rfl (dOk_at dt_L_law_9 37 rfl) ?_
  refine j_iconst hC (v := (1 : Int32)) rfl (dOk_at dt_L_law_9 38 rfl) ?_
  refine j_iadd hC (dOk_at dt_L_law_9 39 rfl) ?_
  refine j_xiald hC (f := xs) hT (dOk_at dt_L_law_10 0 rfl) ?_
  refine j_callVi hC clL_82 (fun r0 hr0 => c_X10_go (by decide) _ _ r0 hr0) (show shp 107 = (10, 88) from rfl) (Nat.le_of_ble_eq_true rfl) (by decide) rfl rfl ⟨Nat.le_of_ble_eq_true rfl, Nat.le_of_ble_eq_true rfl⟩ ⟨by show _ ≤ 601024; omega, by show _ ≤ 7293033; omega⟩ (As := [.int (xs (Int32.toNatClampNeg ((nI i) + (1 : Int32))))]) (st := [.int v_51]) rfl (Nat.le_of_ble_eq_true rfl) (dOk_at dt_L_law_10 1 rfl) (fun v_53 h_54 _ => ?_)
  refine j_icmp_eq hC (tgt := 1601) (by decide) (dOk_at dt_L_law_10 2 rfl) (fun _ => ?_) (fun _ => ?_)
  · refine j_widen (kc' := 200 + 20 * (i + 6)) (ks' := 20000 + 300 * (i + 6)) (by omega) (by omega) ?_
    exact hk h_54
  · refine j_iconst hC (v := (0 : Int32)) rfl (dOk_at dt_L_law_10 3 rfl) ?_
    exact j_none
def fLc_13 (L : Nat) (xs : Nat → Int32) (k : Hp → Option Unit) (h : Hp) (i : Nat) : Option Unit := if inb ((nI i) + (1 : Int32)) L then (if inb ((nI i) + (2 : Int32)) L then (if inb ((nI i) + (3 : Int32)) L then (bnd (fX9_ahead h (xs (Int32.toNatClampNeg ((nI i) + (1 : Int32)))) (xs (Int32.toNatClampNeg ((nI i) + (2 : Int32)))) (xs (Int32.toNatClampNeg ((nI i) + (3 : Int32))))) (fun v_55 h_56 => if inb ((nI i) + (1 : Int32)) L then (if inb ((nI i) + (2 : Int32)) L then (if inb ((nI i) + (3 : Int32)) L then (bnd (fX10_ahead h_56 (xs (Int32.toNatClampNeg ((nI i) + (1 : Int32)))) (xs (Int32.toNatClampNeg ((nI i) + (2 : Int32)))) (xs (Int32.toNatClampNeg ((nI i) + (3 : Int32))))) (fun v_57 h_58 => if v_55 = v_57 then (k h_58) else none)) else none) else none) else none)) else none) else none) else none
set_option maxRecDepth 100000 in
set_option maxHeartbeats 4000000 in
theorem cLc_13 {p : Program} {l : Launch} {e : Env} {s : State} {m : MethodId} {below : List Frame} {meth : Method} {c : Code} {D : va_G} {ids : Nat → ClassId} {b L : Nat} {xs : Nat → Int32} (hC : jC p s m #[Value.ref b] meth c code RL 7 s D ids) (hG : jG s) (hT : va_T .int b L (fun j => .int (xs j)) (jA s) s s.heap) (k : Hp → Option Unit) (h : Hp) (i : Nat) (hi : i ≤ 3072) (hk : ∀ h : Hp, jJ p l e room_1 s m #[Value.ref b] below meth c 7 s D ids shp St (fun (_ : Unit) => lw_Z below #[Value.ref b] s) 153 (200 + 20 * (i + 6)) (20000 + 300 * (i + 6)) h 1601 [(0, .retAddr b), (1, .ref 0), (2, .ref 107), (3, .ref 152), (4, .int (nI i))] [] (k h)) : jJ p l e room_1 s m #[Value.ref b] below meth c 7 s D ids shp St (fun (_ : Unit) => lw_Z below #[Value.ref b] s) 153 (200 + 20 * i) (20000 + 300 * i) h 741 [(0, .retAddr b), (1, .ref 0), (2, .ref 107), (3, .ref 152), (4, .int (nI i))] [] (fLc_13 L xs k h i) := by
  unfold fLc_13
  refine j_aload_n hC 1 rfl rfl (dOk_at dt_L_law_10 5 rfl) ?_
  refine j_xaload_n hC 0 rfl rfl (dOk_at dt_L_law_10 6 rfl) ?_
  refine j_iload hC 4 rfl (dOk_at dt_L_law_10 7 rfl) ?_
  refine j_iconst hC (v := (1 : Int32)) rfl (dOk_at dt_L_law_10 8 rfl) ?_
  refine j_iadd hC (dOk_at dt_L_law_10 9 rfl) ?_
  refine j_xiald hC (f := xs) hT (dOk_at dt_L_law_10 10 rfl) ?_
  refine j_xaload_n hC 0 rfl rfl (dOk_at dt_L_law_10 11 rfl) ?_
  refine j_iload hC 4 rfl (dOk_at dt_L_law_10 12 rfl) ?_
  refine j_iconst hC (v := (2 : Int32)) rfl (dOk_at dt_L_law_10 13 rfl) ?_
  refine j_iadd hC (dOk_at dt_L_law_10 14 rfl) ?_
  refine j_xiald hC (f := xs) hT (dOk_at dt_L_law_10 15 rfl) ?_
  refine j_xaload_n hC 0 rfl rfl (dOk_at dt_L_law_10 16 rfl) ?_
  refine j_iload hC 4 rfl (dOk_at dt_L_law_10 17 rfl) ?_
  refine j_iconst hC (v := (3 : Int32)) rfl (dOk_at dt_L_law_10 18 rfl) ?_
  refine j_iadd hC (dOk_at dt_L_law_10 19 rfl) ?_
  refine j_xiald hC (f := xs) hT (dOk_at dt_L_law_10 20 rfl) ?_
  refine j_callVi hC clL_83 (fun r0 hr0 => c_X9_ahead (by decide) _ _ _ _ r0 hr0) (show shp 0 = (9, 12) from rfl) (Nat.le_of_ble_eq_true rfl) (by decide) rfl rfl ⟨Nat.le_of_ble_eq_true rfl, Nat.le_of_ble_eq_true rfl⟩ ⟨by show _ ≤ 601024; omega, by show _ ≤ 7293033; omega⟩ (As := [.int (xs (Int32.toNatClampNeg ((nI i) + (1 : Int32)))), .int (xs (Int32.toNatClampNeg ((nI i) + (2 : Int32)))), .int (xs (Int32.toNatClampNeg ((nI i) + (3 : Int32))))]) (st := []) rfl (Nat.le_of_ble_eq_true rfl) (dOk_at dt_L_law_10 21 rfl) (fun v_55 h_56 _ => ?_)
  refine j_aload_n hC 2 rfl rfl (dOk_at dt_L_law_10 22 rfl) ?_
  refine j_xaload_n hC 0 rfl rfl (dOk_at dt_L_law_10 23 rfl) ?_
  refine j_iload hC 4 rfl (dOk_at dt_L_law_10 24 rfl) ?_
  refine j_iconst hC (v := (1 : Int32)) rfl (dOk_at dt_L_law_10 25 rfl) ?_
  refine j_iadd hC (dOk_at dt_L_law_10 26 rfl) ?_
  refine j_xiald hC (f := xs) hT (dOk_at dt_L_law_10 27 rfl) ?_
  refine j_xaload_n hC 0 rfl rfl (dOk_at dt_L_law_10 28 rfl) ?_
  refine j_iload hC 4 rfl (dOk_at dt_L_law_10 29 rfl) ?_
  refine j_iconst hC (v := (2 : Int32)) rfl (dOk_at dt_L_law_10 30 rfl) ?_
  refine j_iadd hC (dOk_at dt_L_law_10 31 rfl) ?_
  refine j_xiald hC (f := xs) hT (dOk_at dt_L_law_10 32 rfl) ?_
  refine j_xaload_n hC 0 rfl rfl (dOk_at dt_L_law_10 33 rfl) ?_
  refine j_iload hC 4 rfl (dOk_at dt_L_law_10 34 rfl) ?_
  refine j_iconst hC (v := (3 : Int32)) rfl (dOk_at dt_L_law_10 35 rfl) ?_
  refine j_iadd hC (dOk_at dt_L_law_10 36 rfl) ?_
  refine j_xiald hC (f := xs) hT (dOk_at dt_L_law_10 37 rfl) ?_
  refine j_callVi hC clL_87 (fun r0 hr0 => c_X10_ahead (by decide) _ _ _ _ r0 hr0) (show shp 107 = (10, 88) from rfl) (Nat.le_of_ble_eq_true rfl) (by decide) rfl rfl ⟨Nat.le_of_ble_eq_true rfl, Nat.le_of_ble_eq_true rfl⟩ ⟨by show _ ≤ 601024; omega, by show _ ≤ 7293033; omega⟩ (As := [.int (xs (Int32.toNatClampNeg ((nI i) + (1 : Int32)))), .int (xs (Int32.toNatClampNeg ((nI i) + (2 : Int32)))), .int (xs (Int32.toNatClampNeg ((nI i) + (3 : Int32))))]) (st := [.int v_55]) rfl (Nat.le_of_ble_eq_true rfl) (dOk_at dt_L_law_10 38 rfl) (fun v_57 h_58 _ => ?_)
  refine j_icmp_eq hC (tgt := 1601) (by decide) (dOk_at dt_L_law_10 39 rfl) (fun _ => ?_) (fun _ => ?_)
  · refine j_widen (kc' := 200 + 20 * (i + 6)) (ks' := 20000 + 300 * (i + 6)) (by omega) (by omega) ?_
    exact hk h_58
  · refine j_iconst hC (v := (0 : Int32)) rfl (dOk_at dt_L_law_11 0 rfl) ?_
    exact j_none
def fLc_14 (L : Nat) (xs : Nat → Int32) (k : Hp → Option Unit) (h : Hp) (i : Nat) : Option Unit := if inb ((nI i) + (1 : Int32)) L then (bnd (fX9_sheds h (xs (Int32.toNatClampNeg ((nI i) + (1 : Int32))))) (fun v_59 h_60 => if inb ((nI i) + (1 : Int32)) L then (bnd (fX10_sheds h_60 (xs (Int32.toNatClampNeg ((nI i) + (1 : Int32))))) (fun v_61 h_62 => if v_59 = v_61 then (k h_62) else none)) else none)) else none
set_option maxRecDepth 100000 in
set_option maxHeartbeats 4000000 in
theorem cLc_14 {p : Program} {l : Launch} {e : Env} {s : State} {m : MethodId} {below : List Frame} {meth : Method} {c : Code} {D : va_G} {ids : Nat → ClassId} {b L : Nat} {xs : Nat → Int32} (hC : jC p s m #[Value.ref b] meth c code RL 7 s D ids) (hG : jG s) (hT : va_T .int b L (fun j => .int (xs j)) (jA s) s s.heap) (k : Hp → Option Unit) (h : Hp) (i : Nat) (hi : i ≤ 3072) (hk : ∀ h : Hp, jJ p l e room_1 s m #[Value.ref b] below meth c 7 s D ids shp St (fun (_ : Unit) => lw_Z below #[Value.ref b] s) 153 (200 + 20 * (i + 6)) (20000 + 300 * (i + 6)) h 1601 [(0, .retAddr b), (1, .ref 0), (2, .ref 107), (3, .ref 152), (4, .int (nI i))] [] (k h)) : jJ p l e room_1 s m #[Value.ref b] below meth c 7 s D ids shp St (fun (_ : Unit) => lw_Z below #[Value.ref b] s) 153 (200 + 20 * i) (20000 + 300 * i) h 790 [(0, .retAddr b), (1, .ref 0), (2, .ref 107), (3, .ref 152), (4, .int (nI i))] [] (fLc_14 L xs k h i) := by
  unfold fLc_14
  refine j_aload_n hC 1 rfl rfl (dOk_at dt_L_law_11 2 rfl) ?_
  refine j_xaload_n hC 0 rfl rfl (dOk_at dt_L_law_11 3 rfl) ?_
  refine j_iload hC 4 rfl (dOk_at dt_L_law_11 4 rfl) ?_
  refine j_iconst hC (v := (1 : Int32)) rfl (dOk_at dt_L_law_11 5 rfl) ?_
  refine j_iadd hC (dOk_at dt_L_law_11 6 rfl) ?_
  refine j_xiald hC (f := xs) hT (dOk_at dt_L_law_11 7 rfl) ?_
  refine j_callVi hC clL_88 (fun r0 hr0 => c_X9_sheds (by decide) _ _ r0 hr0) (show shp 0 = (9, 12) from rfl) (Nat.le_of_ble_eq_true rfl) (by decide) rfl rfl ⟨Nat.le_of_ble_eq_true rfl, Nat.le_of_ble_eq_true rfl⟩ ⟨by show _ ≤ 601024; omega, by show _ ≤ 7293033; omega⟩ (As := [.int (xs (Int32.toNatClampNeg ((nI i) + (1 : Int32))))]) (st := []) rfl (Nat.le_of_ble_eq_true rfl) (dOk_at dt_L_law_11 8 rfl) (fun v_59 h_60 _ => ?_)
  refine j_aload_n hC 2 rfl rfl (dOk_at dt_L_law_11 9 rfl) ?_
  refine j_xaload_n hC 0 rfl rfl (dOk_at dt_L_law_11 10 rfl) ?_
  refine j_iload hC 4 rfl (dOk_at dt_L_law_11 11 rfl) ?_
  refine j_iconst hC (v := (1 : Int32)) rfl (dOk_at dt_L_law_11 12 rfl) ?_
  refine j_iadd hC (dOk_at dt_L_law_11 13 rfl) ?_
  refine j_xiald hC (f := xs) hT (dOk_at dt_L_law_11 14 rfl) ?_
  refine j_callVi hC clL_91 (fun r0 hr0 => c_X10_sheds (by decide) _ _ r0 hr0) (show shp 107 = (10, 88) from rfl) (Nat.le_of_ble_eq_true rfl) (by decide) rfl rfl ⟨Nat.le_of_ble_eq_true rfl, Nat.le_of_ble_eq_true rfl⟩ ⟨by show _ ≤ 601024; omega, by show _ ≤ 7293033; omega⟩ (As := [.int (xs (Int32.toNatClampNeg ((nI i) + (1 : Int32))))]) (st := [.int v_59]) rfl (Nat.le_of_ble_eq_true rfl) (dOk_at dt_L_law_11 15 rfl) (fun v_61 h_62 _ => ?_)
  refine j_icmp_eq hC (tgt := 1601) (by decide) (dOk_at dt_L_law_11 16 rfl) (fun _ => ?_) (fun _ => ?_)
  · refine j_widen (kc' := 200 + 20 * (i + 6)) (ks' := 20000 + 300 * (i + 6)) (by omega) (by omega) ?_
    exact hk h_62
  · refine j_iconst hC (v := (0 : Int32)) rfl (dOk_at dt_L_law_11 17 rfl) ?_
    exact j_none
def fLc_15 (L : Nat) (xs : Nat → Int32) (k : Hp → Option Unit) (h : Hp) (i : Nat) : Option Unit := if inb ((nI i) + (1 : Int32)) L then (if inb ((nI i) + (2 : Int32)) L then (bnd (fX9_set h (xs (Int32.toNatClampNeg ((nI i) + (1 : Int32)))) (xs (Int32.toNatClampNeg ((nI i) + (2 : Int32))))) (fun v_63 h_64 => if inb ((nI i) + (1 : Int32)) L then (if inb ((nI i) + (2 : Int32)) L then (bnd (fX10_set h_64 (xs (Int32.toNatClampNeg ((nI i) + (1 : Int32)))) (xs (Int32.toNatClampNeg ((nI i) + (2 : Int32))))) (fun v_65 h_66 => if v_63 = v_65 then (k h_66) else none)) else none) else none)) else none) else none
set_option maxRecDepth 100000 in
set_option maxHeartbeats 4000000 in
theorem cLc_15 {p : Program} {l : Launch} {e : Env} {s : State} {m : MethodId} {below : List Frame} {meth : Method} {c : Code} {D : va_G} {ids : Nat → ClassId} {b L : Nat} {xs : Nat → Int32} (hC : jC p s m #[Value.ref b] meth c code RL 7 s D ids) (hG : jG s) (hT : va_T .int b L (fun j => .int (xs j)) (jA s) s s.heap) (k : Hp → Option Unit) (h : Hp) (i : Nat) (hi : i ≤ 3072) (hk : ∀ h : Hp, jJ p l e room_1 s m #[Value.ref b] below meth c 7 s D ids shp St (fun (_ : Unit) => lw_Z below #[Value.ref b] s) 153 (200 + 20 * (i + 6)) (20000 + 300 * (i + 6)) h 1601 [(0, .retAddr b), (1, .ref 0), (2, .ref 107), (3, .ref 152), (4, .int (nI i))] [] (k h)) : jJ p l e room_1 s m #[Value.ref b] below meth c 7 s D ids shp St (fun (_ : Unit) => lw_Z below #[Value.ref b] s) 153 (200 + 20 * i) (20000 + 300 * i) h 815 [(0, .retAddr b), (1, .ref 0), (2, .ref 107), (3, .ref 152), (4, .int (nI i))] [] (fLc_15 L xs k h i) := by
  unfold fLc_15
  refine j_aload_n hC 1 rfl rfl (dOk_at dt_L_law_11 19 rfl) ?_
  refine j_xaload_n hC 0 rfl rfl (dOk_at dt_L_law_11 20 rfl) ?_
  refine j_iload hC 4 rfl (dOk_at dt_L_law_11 21 rfl) ?_
  refine j_iconst hC (v := (1 : Int32)) rfl (dOk_at dt_L_law_11 22 rfl) ?_
  refine j_iadd hC (dOk_at dt_L_law_11 23 rfl) ?_
  refine j_xiald hC (f := xs) hT (dOk_at dt_L_law_11 24 rfl) ?_
  refine j_xaload_n hC 0 rfl rfl (dOk_at dt_L_law_11 25 rfl) ?_
  refine j_iload hC 4 rfl (dOk_at dt_L_law_11 26 rfl) ?_
  refine j_iconst hC (v := (2 : Int32)) rfl (dOk_at dt_L_law_11 27 rfl) ?_
  refine j_iadd hC (dOk_at dt_L_law_11 28 rfl) ?_
  refine j_xiald hC (f := xs) hT (dOk_at dt_L_law_11 29 rfl) ?_
  refine j_callVi hC clL_92 (fun r0 hr0 => c_X9_set (by decide) _ _ _ r0 hr0) (show shp 0 = (9, 12) from rfl) (Nat.le_of_ble_eq_true rfl) (by decide) rfl rfl ⟨Nat.le_of_ble_eq_true rfl, Nat.le_of_ble_eq_true rfl⟩ ⟨by show _ ≤ 601024; omega, by show _ ≤ 7293033; omega⟩ (As := [.int (xs (Int32.toNatClampNeg ((nI i) + (1 : Int32)))), .int (xs (Int32.toNatClampNeg ((nI i) + (2 : Int32))))]) (st := []) rfl (Nat.le_of_ble_eq_true rfl) (dOk_at dt_L_law_11 30 rfl) (fun v_63 h_64 _ => ?_)
  refine j_aload_n hC 2 rfl rfl (dOk_at dt_L_law_11 31 rfl) ?_
  refine j_xaload_n hC 0 rfl rfl (dOk_at dt_L_law_11 32 rfl) ?_
  refine j_iload hC 4 rfl (dOk_at dt_L_law_11 33 rfl) ?_
  refine j_iconst hC (v := (1 : Int32)) rfl (dOk_at dt_L_law_11 34 rfl) ?_
  refine j_iadd hC (dOk_at dt_L_law_11 35 rfl) ?_
  refine j_xiald hC (f := xs) hT (dOk_at dt_L_law_11 36 rfl) ?_
  refine j_xaload_n hC 0 rfl rfl (dOk_at dt_L_law_11 37 rfl) ?_
  refine j_iload hC 4 rfl (dOk_at dt_L_law_11 38 rfl) ?_
  refine j_iconst hC (v := (2 : Int32)) rfl (dOk_at dt_L_law_11 39 rfl) ?_
  refine j_iadd hC (dOk_at dt_L_law_12 0 rfl) ?_
  refine j_xiald hC (f := xs) hT (dOk_at dt_L_law_12 1 rfl) ?_
  refine j_callVi hC clL_95 (fun r0 hr0 => c_X10_set (by decide) _ _ _ r0 hr0) (show shp 107 = (10, 88) from rfl) (Nat.le_of_ble_eq_true rfl) (by decide) rfl rfl ⟨Nat.le_of_ble_eq_true rfl, Nat.le_of_ble_eq_true rfl⟩ ⟨by show _ ≤ 601024; omega, by show _ ≤ 7293033; omega⟩ (As := [.int (xs (Int32.toNatClampNeg ((nI i) + (1 : Int32)))), .int (xs (Int32.toNatClampNeg ((nI i) + (2 : Int32))))]) (st := [.int v_63]) rfl (Nat.le_of_ble_eq_true rfl) (dOk_at dt_L_law_12 2 rfl) (fun v_65 h_66 _ => ?_)
  refine j_icmp_eq hC (tgt := 1601) (by decide) (dOk_at dt_L_law_12 3 rfl) (fun _ => ?_) (fun _ => ?_)
  · refine j_widen (kc' := 200 + 20 * (i + 6)) (ks' := 20000 + 300 * (i + 6)) (by omega) (by omega) ?_
    exact hk h_66
  · refine j_iconst hC (v := (0 : Int32)) rfl (dOk_at dt_L_law_12 4 rfl) ?_
    exact j_none
def fLc_16 (L : Nat) (xs : Nat → Int32) (k : Hp → Option Unit) (h : Hp) (i : Nat) : Option Unit := if inb ((nI i) + (1 : Int32)) L then (bnd (fX9_standing h (xs (Int32.toNatClampNeg ((nI i) + (1 : Int32))))) (fun v_67 h_68 => if inb ((nI i) + (1 : Int32)) L then (bnd (fX10_standing h_68 (xs (Int32.toNatClampNeg ((nI i) + (1 : Int32))))) (fun v_69 h_70 => if v_67 = v_69 then (k h_70) else none)) else none)) else none
set_option maxRecDepth 100000 in
set_option maxHeartbeats 4000000 in
theorem cLc_16 {p : Program} {l : Launch} {e : Env} {s : State} {m : MethodId} {below : List Frame} {meth : Method} {c : Code} {D : va_G} {ids : Nat → ClassId} {b L : Nat} {xs : Nat → Int32} (hC : jC p s m #[Value.ref b] meth c code RL 7 s D ids) (hG : jG s) (hT : va_T .int b L (fun j => .int (xs j)) (jA s) s s.heap) (k : Hp → Option Unit) (h : Hp) (i : Nat) (hi : i ≤ 3072) (hk : ∀ h : Hp, jJ p l e room_1 s m #[Value.ref b] below meth c 7 s D ids shp St (fun (_ : Unit) => lw_Z below #[Value.ref b] s) 153 (200 + 20 * (i + 6)) (20000 + 300 * (i + 6)) h 1601 [(0, .retAddr b), (1, .ref 0), (2, .ref 107), (3, .ref 152), (4, .int (nI i))] [] (k h)) : jJ p l e room_1 s m #[Value.ref b] below meth c 7 s D ids shp St (fun (_ : Unit) => lw_Z below #[Value.ref b] s) 153 (200 + 20 * i) (20000 + 300 * i) h 852 [(0, .retAddr b), (1, .ref 0), (2, .ref 107), (3, .ref 152), (4, .int (nI i))] [] (fLc_16 L xs k h i) := by
  unfold fLc_16
  refine j_aload_n hC 1 rfl rfl (dOk_at dt_L_law_12 6 rfl) ?_
  refine j_xaload_n hC 0 rfl rfl (dOk_at dt_L_law_12 7 rfl) ?_
  refine j_iload hC 4 rfl (dOk_at dt_L_law_12 8 rfl) ?_
  refine j_iconst hC (v := (1 : Int32)) rfl (dOk_at dt_L_law_12 9 rfl) ?_
  refine j_iadd hC (dOk_at dt_L_law_12 10 rfl) ?_
  refine j_xiald hC (f := xs) hT (dOk_at dt_L_law_12 11 rfl) ?_
  refine j_callVi hC clL_96 (fun r0 hr0 => c_X9_standing (by decide) _ _ r0 hr0) (show shp 0 = (9, 12) from rfl) (Nat.le_of_ble_eq_true rfl) (by decide) rfl rfl ⟨Nat.le_of_ble_eq_true rfl, Nat.le_of_ble_eq_true rfl⟩ ⟨by show _ ≤ 601024; omega, by show _ ≤ 7293033; omega⟩ (As := [.int (xs (Int32.toNatClampNeg ((nI i) + (1 : Int32))))]) (st := []) rfl (Nat.le_of_ble_eq_true rfl) (dOk_at dt_L_law_12 12 rfl) (fun v_67 h_68 _ => ?_)
  refine j_aload_n hC 2 rfl rfl (dOk_at dt_L_law_12 13 rfl) ?_
  refine j_xaload_n hC 0 rfl rfl (dOk_at dt_L_law_12 14 rfl) ?_
  refine j_iload hC 4 rfl (dOk_at dt_L_law_12 15 rfl) ?_
  refine j_iconst hC (v := (1 : Int32)) rfl (dOk_at dt_L_law_12 16 rfl) ?_
  refine j_iadd hC (dOk_at dt_L_law_12 17 rfl) ?_
  refine j_xiald hC (f := xs) hT (dOk_at dt_L_law_12 18 rfl) ?_
  refine j_callVi hC clL_99 (fun r0 hr0 => c_X10_standing (by decide) _ _ r0 hr0) (show shp 107 = (10, 88) from rfl) (Nat.le_of_ble_eq_true rfl) (by decide) rfl rfl ⟨Nat.le_of_ble_eq_true rfl, Nat.le_of_ble_eq_true rfl⟩ ⟨by show _ ≤ 601024; omega, by show _ ≤ 7293033; omega⟩ (As := [.int (xs (Int32.toNatClampNeg ((nI i) + (1 : Int32))))]) (st := [.int v_67]) rfl (Nat.le_of_ble_eq_true rfl) (dOk_at dt_L_law_12 19 rfl) (fun v_69 h_70 _ => ?_)
  refine j_icmp_eq hC (tgt := 1601) (by decide) (dOk_at dt_L_law_12 20 rfl) (fun _ => ?_) (fun _ => ?_)
  · refine j_widen (kc' := 200 + 20 * (i + 6)) (ks' := 20000 + 300 * (i + 6)) (by omega) (by omega) ?_
    exact hk h_70
  · refine j_iconst hC (v := (0 : Int32)) rfl (dOk_at dt_L_law_12 21 rfl) ?_
    exact j_none
def fLc_17 (L : Nat) (xs : Nat → Int32) (k : Hp → Option Unit) (h : Hp) (i : Nat) : Option Unit := if inb ((nI i) + (1 : Int32)) L then (bnd (fX9_stand h (xs (Int32.toNatClampNeg ((nI i) + (1 : Int32))))) (fun v_71 h_72 => if inb ((nI i) + (1 : Int32)) L then (bnd (fX10_stand h_72 (xs (Int32.toNatClampNeg ((nI i) + (1 : Int32))))) (fun v_73 h_74 => if v_71 = v_73 then (k h_74) else none)) else none)) else none
set_option maxRecDepth 100000 in
set_option maxHeartbeats 4000000 in
theorem cLc_17 {p : Program} {l : Launch} {e : Env} {s : State} {m : MethodId} {below : List Frame} {meth : Method} {c : Code} {D : va_G} {ids : Nat → ClassId} {b L : Nat} {xs : Nat → Int32} (hC : jC p s m #[Value.ref b] meth c code RL 7 s D ids) (hG : jG s) (hT : va_T .int b L (fun j => .int (xs j)) (jA s) s s.heap) (k : Hp → Option Unit) (h : Hp) (i : Nat) (hi : i ≤ 3072) (hk : ∀ h : Hp, jJ p l e room_1 s m #[Value.ref b] below meth c 7 s D ids shp St (fun (_ : Unit) => lw_Z below #[Value.ref b] s) 153 (200 + 20 * (i + 6)) (20000 + 300 * (i + 6)) h 1601 [(0, .retAddr b), (1, .ref 0), (2, .ref 107), (3, .ref 152), (4, .int (nI i))] [] (k h)) : jJ p l e room_1 s m #[Value.ref b] below meth c 7 s D ids shp St (fun (_ : Unit) => lw_Z below #[Value.ref b] s) 153 (200 + 20 * i) (20000 + 300 * i) h 877 [(0, .retAddr b), (1, .ref 0), (2, .ref 107), (3, .ref 152), (4, .int (nI i))] [] (fLc_17 L xs k h i) := by
  unfold fLc_17
  refine j_aload_n hC 1 rfl rfl (dOk_at dt_L_law_12 23 rfl) ?_
  refine j_xaload_n hC 0 rfl rfl (dOk_at dt_L_law_12 24 rfl) ?_
  refine j_iload hC 4 rfl (dOk_at dt_L_law_12 25 rfl) ?_
  refine j_iconst hC (v := (1 : Int32)) rfl (dOk_at dt_L_law_12 26 rfl) ?_
  refine j_iadd hC (dOk_at dt_L_law_12 27 rfl) ?_
  refine j_xiald hC (f := xs) hT (dOk_at dt_L_law_12 28 rfl) ?_
  refine j_callVi hC clL_100 (fun r0 hr0 => c_X9_stand (by decide) _ _ r0 hr0) (show shp 0 = (9, 12) from rfl) (Nat.le_of_ble_eq_true rfl) (by decide) rfl rfl ⟨Nat.le_of_ble_eq_true rfl, Nat.le_of_ble_eq_true rfl⟩ ⟨by show _ ≤ 601024; omega, by show _ ≤ 7293033; omega⟩ (As := [.int (xs (Int32.toNatClampNeg ((nI i) + (1 : Int32))))]) (st := []) rfl (Nat.le_of_ble_eq_true rfl) (dOk_at dt_L_law_12 29 rfl) (fun v_71 h_72 _ => ?_)
  refine j_aload_n hC 2 rfl rfl (dOk_at dt_L_law_12 30 rfl) ?_
  refine j_xaload_n hC 0 rfl rfl (dOk_at dt_L_law_12 31 rfl) ?_
  refine j_iload hC 4 rfl (dOk_at dt_L_law_12 32 rfl) ?_
  refine j_iconst hC (v := (1 : Int32)) rfl (dOk_at dt_L_law_12 33 rfl) ?_
  refine j_iadd hC (dOk_at dt_L_law_12 34 rfl) ?_
  refine j_xiald hC (f := xs) hT (dOk_at dt_L_law_12 35 rfl) ?_
  refine j_callVi hC clL_103 (fun r0 hr0 => c_X10_stand (by decide) _ _ r0 hr0) (show shp 107 = (10, 88) from rfl) (Nat.le_of_ble_eq_true rfl) (by decide) rfl rfl ⟨Nat.le_of_ble_eq_true rfl, Nat.le_of_ble_eq_true rfl⟩ ⟨by show _ ≤ 601024; omega, by show _ ≤ 7293033; omega⟩ (As := [.int (xs (Int32.toNatClampNeg ((nI i) + (1 : Int32))))]) (st := [.int v_71]) rfl (Nat.le_of_ble_eq_true rfl) (dOk_at dt_L_law_12 36 rfl) (fun v_73 h_74 _ => ?_)
  refine j_icmp_eq hC (tgt := 1601) (by decide) (dOk_at dt_L_law_12 37 rfl) (fun _ => ?_) (fun _ => ?_)
  · refine j_widen (kc' := 200 + 20 * (i + 6)) (ks' := 20000 + 300 * (i + 6)) (by omega) (by omega) ?_
    exact hk h_74
  · refine j_iconst hC (v := (0 : Int32)) rfl (dOk_at dt_L_law_12 38 rfl) ?_
    exact j_none
def fLc_18 (L : Nat) (xs : Nat → Int32) (k : Hp → Option Unit) (h : Hp) (i : Nat) : Option Unit := bnd (fX9_ground h ) (fun v_75 h_76 => bnd (fX10_ground h_76 ) (fun v_77 h_78 => if v_75 = v_77 then (k h_78) else none))
set_option maxRecDepth 100000 in
set_option maxHeartbeats 4000000 in
theorem cLc_18 {p : Program} {l : Launch} {e : Env} {s : State} {m : MethodId} {below : List Frame} {meth : Method} {c : Code} {D : va_G} {ids : Nat → ClassId} {b L : Nat} {xs : Nat → Int32} (hC : jC p s m #[Value.ref b] meth c code RL 7 s D ids) (hG : jG s) (hT : va_T .int b L (fun j => .int (xs j)) (jA s) s s.heap) (k : Hp → Option Unit) (h : Hp) (i : Nat) (hi : i ≤ 3072) (hk : ∀ h : Hp, jJ p l e room_1 s m #[Value.ref b] below meth c 7 s D ids shp St (fun (_ : Unit) => lw_Z below #[Value.ref b] s) 153 (200 + 20 * (i + 6)) (20000 + 300 * (i + 6)) h 1601 [(0, .retAddr b), (1, .ref 0), (2, .ref 107), (3, .ref 152), (4, .int (nI i))] [] (k h)) : jJ p l e room_1 s m #[Value.ref b] below meth c 7 s D ids shp St (fun (_ : Unit) => lw_Z below #[Value.ref b] s) 153 (200 + 20 * i) (20000 + 300 * i) h 902 [(0, .retAddr b), (1, .ref 0), (2, .ref 107), (3, .ref 152), (4, .int (nI i))] [] (fLc_18 L xs k h i) := by
  unfold fLc_18
  refine j_aload_n hC 1 rfl rfl (dOk_at dt_L_law_13 0 rfl) ?_
  refine j_callVi hC clL_104 (fun r0 hr0 => c_X9_ground (by decide) _ r0 hr0) (show shp 0 = (9, 12) from rfl) (Nat.le_of_ble_eq_true rfl) (by decide) rfl rfl ⟨Nat.le_of_ble_eq_true rfl, Nat.le_of_ble_eq_true rfl⟩ ⟨by show _ ≤ 601024; omega, by show _ ≤ 7293033; omega⟩ (As := []) (st := []) rfl (Nat.le_of_ble_eq_true rfl) (dOk_at dt_L_law_13 1 rfl) (fun v_75 h_76 _ => ?_)
  refine j_aload_n hC 2 rfl rfl (dOk_at dt_L_law_13 2 rfl) ?_
  refine j_callVi hC clL_107 (fun r0 hr0 => c_X10_ground (by decide) _ r0 hr0) (show shp 107 = (10, 88) from rfl) (Nat.le_of_ble_eq_true rfl) (by decide) rfl rfl ⟨Nat.le_of_ble_eq_true rfl, Nat.le_of_ble_eq_true rfl⟩ ⟨by show _ ≤ 601024; omega, by show _ ≤ 7293033; omega⟩ (As := []) (st := [.int v_75]) rfl (Nat.le_of_ble_eq_true rfl) (dOk_at dt_L_law_13 3 rfl) (fun v_77 h_78 _ => ?_)
  refine j_icmp_eq hC (tgt := 1601) (by decide) (dOk_at dt_L_law_13 4 rfl) (fun _ => ?_) (fun _ => ?_)
  · refine j_widen (kc' := 200 + 20 * (i + 6)) (ks' := 20000 + 300 * (i + 6)) (by omega) (by omega) ?_
    exact hk h_78
  · refine j_iconst hC (v := (0 : Int32)) rfl (dOk_at dt_L_law_13 5 rfl) ?_
    exact j_none
def fLc_19 (L : Nat) (xs : Nat → Int32) (k : Hp → Option Unit) (h : Hp) (i : Nat) : Option Unit := bnd (fX9_largest h ) (fun v_79 h_80 => bnd (fX10_largest h_80 ) (fun v_81 h_82 => if v_79 = v_81 then (k h_82) else none))
set_option maxRecDepth 100000 in
set_option maxHeartbeats 4000000 in
theorem cLc_19 {p : Program} {l : Launch} {e : Env} {s : State} {m : MethodId} {below : List Frame} {meth : Method} {c : Code} {D : va_G} {ids : Nat → ClassId} {b L : Nat} {xs : Nat → Int32} (hC : jC p s m #[Value.ref b] meth c code RL 7 s D ids) (hG : jG s) (hT : va_T .int b L (fun j => .int (xs j)) (jA s) s s.heap) (k : Hp → Option Unit) (h : Hp) (i : Nat) (hi : i ≤ 3072) (hk : ∀ h : Hp, jJ p l e room_1 s m #[Value.ref b] below meth c 7 s D ids shp St (fun (_ : Unit) => lw_Z below #[Value.ref b] s) 153 (200 + 20 * (i + 6)) (20000 + 300 * (i + 6)) h 1601 [(0, .retAddr b), (1, .ref 0), (2, .ref 107), (3, .ref 152), (4, .int (nI i))] [] (k h)) : jJ p l e room_1 s m #[Value.ref b] below meth c 7 s D ids shp St (fun (_ : Unit) => lw_Z below #[Value.ref b] s) 153 (200 + 20 * i) (20000 + 300 * i) h 915 [(0, .retAddr b), (1, .ref 0), (2, .ref 107), (3, .ref 152), (4, .int (nI i))] [] (fLc_19 L xs k h i) := by
  unfold fLc_19
  refine j_aload_n hC 1 rfl rfl (dOk_at dt_L_law_13 7 rfl) ?_
  refine j_callVi hC clL_108 (fun r0 hr0 => c_X9_largest (by decide) _ r0 hr0) (show shp 0 = (9, 12) from rfl) (Nat.le_of_ble_eq_true rfl) (by decide) rfl rfl ⟨Nat.le_of_ble_eq_true rfl, Nat.le_of_ble_eq_true rfl⟩ ⟨by show _ ≤ 601024; omega, by show _ ≤ 7293033; omega⟩ (As := []) (st := []) rfl (Nat.le_of_ble_eq_true rfl) (dOk_at dt_L_law_13 8 rfl) (fun v_79 h_80 _ => ?_)
  refine j_aload_n hC 2 rfl rfl (dOk_at dt_L_law_13 9 rfl) ?_
  refine j_callVi hC clL_111 (fun r0 hr0 => c_X10_largest (by decide) _ r0 hr0) (show shp 107 = (10, 88) from rfl) (Nat.le_of_ble_eq_true rfl) (by decide) rfl rfl ⟨Nat.le_of_ble_eq_true rfl, Nat.le_of_ble_eq_true rfl⟩ ⟨by show _ ≤ 601024; omega, by show _ ≤ 7293033; omega⟩ (As := []) (st := [.int v_79]) rfl (Nat.le_of_ble_eq_true rfl) (dOk_at dt_L_law_13 10 rfl) (fun v_81 h_82 _ => ?_)
  refine j_icmp_eq hC (tgt := 1601) (by decide) (dOk_at dt_L_law_13 11 rfl) (fun _ => ?_) (fun _ => ?_)
  · refine j_widen (kc' := 200 + 20 * (i + 6)) (ks' := 20000 + 300 * (i + 6)) (by omega) (by omega) ?_
    exact hk h_82
  · refine j_iconst hC (v := (0 : Int32)) rfl (dOk_at dt_L_law_13 12 rfl) ?_
    exact j_none
def fLc_20 (L : Nat) (xs : Nat → Int32) (k : Hp → Option Unit) (h : Hp) (i : Nat) : Option Unit := if inb ((nI i) + (1 : Int32)) L then (if inb ((nI i) + (2 : Int32)) L then (bnd (fX9_replies h (xs (Int32.toNatClampNeg ((nI i) + (1 : Int32)))) (xs (Int32.toNatClampNeg ((nI i) + (2 : Int32))))) (fun v_83 h_84 => if inb ((nI i) + (1 : Int32)) L then (if inb ((nI i) + (2 : Int32)) L then (bnd (fX10_replies h_84 (xs (Int32.toNatClampNeg ((nI i) + (1 : Int32)))) (xs (Int32.toNatClampNeg ((nI i) + (2 : Int32))))) (fun v_85 h_86 => if v_83 = v_85 then (k h_86) else none)) else none) else none)) else none) else none
set_option maxRecDepth 100000 in
set_option maxHeartbeats 4000000 in
theorem cLc_20 {p : Program} {l : Launch} {e : Env} {s : State} {m : MethodId} {below : List Frame} {meth : Method} {c : Code} {D : va_G} {ids : Nat → ClassId} {b L : Nat} {xs : Nat → Int32} (hC : jC p s m #[Value.ref b] meth c code RL 7 s D ids) (hG : jG s) (hT : va_T .int b L (fun j => .int (xs j)) (jA s) s s.heap) (k : Hp → Option Unit) (h : Hp) (i : Nat) (hi : i ≤ 3072) (hk : ∀ h : Hp, jJ p l e room_1 s m #[Value.ref b] below meth c 7 s D ids shp St (fun (_ : Unit) => lw_Z below #[Value.ref b] s) 153 (200 + 20 * (i + 6)) (20000 + 300 * (i + 6)) h 1601 [(0, .retAddr b), (1, .ref 0), (2, .ref 107), (3, .ref 152), (4, .int (nI i))] [] (k h)) : jJ p l e room_1 s m #[Value.ref b] below meth c 7 s D ids shp St (fun (_ : Unit) => lw_Z below #[Value.ref b] s) 153 (200 + 20 * i) (20000 + 300 * i) h 928 [(0, .retAddr b), (1, .ref 0), (2, .ref 107), (3, .ref 152), (4, .int (nI i))] [] (fLc_20 L xs k h i) := by
  unfold fLc_20
  refine j_aload_n hC 1 rfl rfl (dOk_at dt_L_law_13 14 rfl) ?_
  refine j_xaload_n hC 0 rfl rfl (dOk_at dt_L_law_13 15 rfl) ?_
  refine j_iload hC 4 rfl (dOk_at dt_L_law_13 16 rfl) ?_
  refine j_iconst hC (v := (1 : Int32)) rfl (dOk_at dt_L_law_13 17 rfl) ?_
  refine j_iadd hC (dOk_at dt_L_law_13 18 rfl) ?_
  refine j_xiald hC (f := xs) hT (dOk_at dt_L_law_13 19 rfl) ?_
  refine j_xaload_n hC 0 rfl rfl (dOk_at dt_L_law_13 20 rfl) ?_
  refine j_iload hC 4 rfl (dOk_at dt_L_law_13 21 rfl) ?_
  refine j_iconst hC (v := (2 : Int32)) rfl (dOk_at dt_L_law_13 22 rfl) ?_
  refine j_iadd hC (dOk_at dt_L_law_13 23 rfl) ?_
  refine j_xiald hC (f := xs) hT (dOk_at dt_L_law_13 24 rfl) ?_
  refine j_callVi hC clL_112 (fun r0 hr0 => c_X9_replies (by decide) _ _ _ r0 hr0) (show shp 0 = (9, 12) from rfl) (Nat.le_of_ble_eq_true rfl) (by decide) rfl rfl ⟨Nat.le_of_ble_eq_true rfl, Nat.le_of_ble_eq_true rfl⟩ ⟨by show _ ≤ 601024; omega, by show _ ≤ 7293033; omega⟩ (As := [.int (xs (Int32.toNatClampNeg ((nI i) + (1 : Int32)))), .int (xs (Int32.toNatClampNeg ((nI i) + (2 : Int32))))]) (st := []) rfl (Nat.le_of_ble_eq_true rfl) (dOk_at dt_L_law_13 25 rfl) (fun v_83 h_84 _ => ?_)
  refine j_aload_n hC 2 rfl rfl (dOk_at dt_L_law_13 26 rfl) ?_
  refine j_xaload_n hC 0 rfl rfl (dOk_at dt_L_law_13 27 rfl) ?_
  refine j_iload hC 4 rfl (dOk_at dt_L_law_13 28 rfl) ?_
  refine j_iconst hC (v := (1 : Int32)) rfl (dOk_at dt_L_law_13 29 rfl) ?_
  refine j_iadd hC (dOk_at dt_L_law_13 30 rfl) ?_
  refine j_xiald hC (f := xs) hT (dOk_at dt_L_law_13 31 rfl) ?_
  refine j_xaload_n hC 0 rfl rfl (dOk_at dt_L_law_13 32 rfl) ?_
  refine j_iload hC 4 rfl (dOk_at dt_L_law_13 33 rfl) ?_
  refine j_iconst hC (v := (2 : Int32)) rfl (dOk_at dt_L_law_13 34 rfl) ?_
  refine j_iadd hC (dOk_at dt_L_law_13 35 rfl) ?_
  refine j_xiald hC (f := xs) hT (dOk_at dt_L_law_13 36 rfl) ?_
  refine j_callVi hC clL_115 (fun r0 hr0 => c_X10_replies (by decide) _ _ _ r0 hr0) (show shp 107 = (10, 88) from rfl) (Nat.le_of_ble_eq_true rfl) (by decide) rfl rfl ⟨Nat.le_of_ble_eq_true rfl, Nat.le_of_ble_eq_true rfl⟩ ⟨by show _ ≤ 601024; omega, by show _ ≤ 7293033; omega⟩ (As := [.int (xs (Int32.toNatClampNeg ((nI i) + (1 : Int32)))), .int (xs (Int32.toNatClampNeg ((nI i) + (2 : Int32))))]) (st := [.int v_83]) rfl (Nat.le_of_ble_eq_true rfl) (dOk_at dt_L_law_13 37 rfl) (fun v_85 h_86 _ => ?_)
  refine j_icmp_eq hC (tgt := 1601) (by decide) (dOk_at dt_L_law_13 38 rfl) (fun _ => ?_) (fun _ => ?_)
  · refine j_widen (kc' := 200 + 20 * (i + 6)) (ks' := 20000 + 300 * (i + 6)) (by omega) (by omega) ?_
    exact hk h_86
  · refine j_iconst hC (v := (0 : Int32)) rfl (dOk_at dt_L_law_13 39 rfl) ?_
    exact j_none
def fLc_21 (L : Nat) (xs : Nat → Int32) (k : Hp → Option Unit) (h : Hp) (i : Nat) : Option Unit := if inb ((nI i) + (1 : Int32)) L then (bnd (fX9_weaker h (xs (Int32.toNatClampNeg ((nI i) + (1 : Int32))))) (fun v_87 h_88 => if inb ((nI i) + (1 : Int32)) L then (bnd (fX10_weaker h_88 (xs (Int32.toNatClampNeg ((nI i) + (1 : Int32))))) (fun v_89 h_90 => if v_87 = v_89 then (k h_90) else none)) else none)) else none
set_option maxRecDepth 100000 in
set_option maxHeartbeats 4000000 in
theorem cLc_21 {p : Program} {l : Launch} {e : Env} {s : State} {m : MethodId} {below : List Frame} {meth : Method} {c : Code} {D : va_G} {ids : Nat → ClassId} {b L : Nat} {xs : Nat → Int32} (hC : jC p s m #[Value.ref b] meth c code RL 7 s D ids) (hG : jG s) (hT : va_T .int b L (fun j => .int (xs j)) (jA s) s s.heap) (k : Hp → Option Unit) (h : Hp) (i : Nat) (hi : i ≤ 3072) (hk : ∀ h : Hp, jJ p l e room_1 s m #[Value.ref b] below meth c 7 s D ids shp St (fun (_ : Unit) => lw_Z below #[Value.ref b] s) 153 (200 + 20 * (i + 6)) (20000 + 300 * (i + 6)) h 1601 [(0, .retAddr b), (1, .ref 0), (2, .ref 107), (3, .ref 152), (4, .int (nI i))] [] (k h)) : jJ p l e room_1 s m #[Value.ref b] below meth c 7 s D ids shp St (fun (_ : Unit) => lw_Z below #[Value.ref b] s) 153 (200 + 20 * i) (20000 + 300 * i) h 965 [(0, .retAddr b), (1, .ref 0), (2, .ref 107), (3, .ref 152), (4, .int (nI i))] [] (fLc_21 L xs k h i) := by
  unfold fLc_21
  refine j_aload_n hC 1 rfl rfl (dOk_at dt_L_law_14 1 rfl) ?_
  refine j_xaload_n hC 0 rfl rfl (dOk_at dt_L_law_14 2 rfl) ?_
  refine j_iload hC 4 rfl (dOk_at dt_L_law_14 3 rfl) ?_
  refine j_iconst hC (v := (1 : Int32)) rfl (dOk_at dt_L_law_14 4 rfl) ?_
  refine j_iadd hC (dOk_at dt_L_law_14 5 rfl) ?_
  refine j_xiald hC (f := xs) hT (dOk_at dt_L_law_14 6 rfl) ?_
  refine j_callVi hC clL_116 (fun r0 hr0 => c_X9_weaker (by decide) _ _ r0 hr0) (show shp 0 = (9, 12) from rfl) (Nat.le_of_ble_eq_true rfl) (by decide) rfl rfl ⟨Nat.le_of_ble_eq_true rfl, Nat.le_of_ble_eq_true rfl⟩ ⟨by show _ ≤ 601024; omega, by show _ ≤ 7293033; omega⟩ (As := [.int (xs (Int32.toNatClampNeg ((nI i) + (1 : Int32))))]) (st := []) rfl (Nat.le_of_ble_eq_true rfl) (dOk_at dt_L_law_14 7 rfl) (fun v_87 h_88 _ => ?_)
  refine j_aload_n hC 2 rfl rfl (dOk_at dt_L_law_14 8 rfl) ?_
  refine j_xaload_n hC 0 rfl rfl (dOk_at dt_L_law_14 9 rfl) ?_
  refine j_iload hC 4 rfl (dOk_at dt_L_law_14 10 rfl) ?_
  refine j_iconst hC (v := (1 : Int32)) rfl (dOk_at dt_L_law_14 11 rfl) ?_
  refine j_iadd hC (dOk_at dt_L_law_14 12 rfl) ?_
  refine j_xiald hC (f := xs) hT (dOk_at dt_L_law_14 13 rfl) ?_
  refine j_callVi hC clL_119 (fun r0 hr0 => c_X10_weaker (by decide) _ _ r0 hr0) (show shp 107 = (10, 88) from rfl) (Nat.le_of_ble_eq_true rfl) (by decide) rfl rfl ⟨Nat.le_of_ble_eq_true rfl, Nat.le_of_ble_eq_true rfl⟩ ⟨by show _ ≤ 601024; omega, by show _ ≤ 7293033; omega⟩ (As := [.int (xs (Int32.toNatClampNeg ((nI i) + (1 : Int32))))]) (st := [.int v_87]) rfl (Nat.le_of_ble_eq_true rfl) (dOk_at dt_L_law_14 14 rfl) (fun v_89 h_90 _ => ?_)
  refine j_icmp_eq hC (tgt := 1601) (by decide) (dOk_at dt_L_law_14 15 rfl) (fun _ => ?_) (fun _ => ?_)
  · refine j_widen (kc' := 200 + 20 * (i + 6)) (ks' := 20000 + 300 * (i + 6)) (by omega) (by omega) ?_
    exact hk h_90
  · refine j_iconst hC (v := (0 : Int32)) rfl (dOk_at dt_L_law_14 16 rfl) ?_
    exact j_none
def fLc_22 (L : Nat) (xs : Nat → Int32) (k : Hp → Option Unit) (h : Hp) (i : Nat) : Option Unit := if inb ((nI i) + (1 : Int32)) L then (if inb ((nI i) + (2 : Int32)) L then (bnd (fX9_dropFor h (xs (Int32.toNatClampNeg ((nI i) + (1 : Int32)))) (xs (Int32.toNatClampNeg ((nI i) + (2 : Int32))))) (fun v_91 h_92 => if inb ((nI i) + (1 : Int32)) L then (if inb ((nI i) + (2 : Int32)) L then (bnd (fX10_dropFor h_92 (xs (Int32.toNatClampNeg ((nI i) + (1 : Int32)))) (xs (Int32.toNatClampNeg ((nI i) + (2 : Int32))))) (fun v_93 h_94 => if v_91 = v_93 then (k h_94) else none)) else none) else none)) else none) else none
set_option maxRecDepth 100000 in
set_option maxHeartbeats 4000000 in
theorem cLc_22 {p : Program} {l : Launch} {e : Env} {s : State} {m : MethodId} {below : List Frame} {meth : Method} {c : Code} {D : va_G} {ids : Nat → ClassId} {b L : Nat} {xs : Nat → Int32} (hC : jC p s m #[Value.ref b] meth c code RL 7 s D ids) (hG : jG s) (hT : va_T .int b L (fun j => .int (xs j)) (jA s) s s.heap) (k : Hp → Option Unit) (h : Hp) (i : Nat) (hi : i ≤ 3072) (hk : ∀ h : Hp, jJ p l e room_1 s m #[Value.ref b] below meth c 7 s D ids shp St (fun (_ : Unit) => lw_Z below #[Value.ref b] s) 153 (200 + 20 * (i + 6)) (20000 + 300 * (i + 6)) h 1601 [(0, .retAddr b), (1, .ref 0), (2, .ref 107), (3, .ref 152), (4, .int (nI i))] [] (k h)) : jJ p l e room_1 s m #[Value.ref b] below meth c 7 s D ids shp St (fun (_ : Unit) => lw_Z below #[Value.ref b] s) 153 (200 + 20 * i) (20000 + 300 * i) h 990 [(0, .retAddr b), (1, .ref 0), (2, .ref 107), (3, .ref 152), (4, .int (nI i))] [] (fLc_22 L xs k h i) := by
  unfold fLc_22
  refine j_aload_n hC 1 rfl rfl (dOk_at dt_L_law_14 18 rfl) ?_
  refine j_xaload_n hC 0 rfl rfl (dOk_at dt_L_law_14 19 rfl) ?_
  refine j_iload hC 4 rfl (dOk_at dt_L_law_14 20 rfl) ?_
  refine j_iconst hC (v := (1 : Int32)) rfl (dOk_at dt_L_law_14 21 rfl) ?_
  refine j_iadd hC (dOk_at dt_L_law_14 22 rfl) ?_
  refine j_xiald hC (f := xs) hT (dOk_at dt_L_law_14 23 rfl) ?_
  refine j_xaload_n hC 0 rfl rfl (dOk_at dt_L_law_14 24 rfl) ?_
  refine j_iload hC 4 rfl (dOk_at dt_L_law_14 25 rfl) ?_
  refine j_iconst hC (v := (2 : Int32)) rfl (dOk_at dt_L_law_14 26 rfl) ?_
  refine j_iadd hC (dOk_at dt_L_law_14 27 rfl) ?_
  refine j_xiald hC (f := xs) hT (dOk_at dt_L_law_14 28 rfl) ?_
  refine j_callVi hC clL_120 (fun r0 hr0 => c_X9_dropFor (by decide) _ _ _ r0 hr0) (show shp 0 = (9, 12) from rfl) (Nat.le_of_ble_eq_true rfl) (by decide) rfl rfl ⟨Nat.le_of_ble_eq_true rfl, Nat.le_of_ble_eq_true rfl⟩ ⟨by show _ ≤ 601024; omega, by show _ ≤ 7293033; omega⟩ (As := [.int (xs (Int32.toNatClampNeg ((nI i) + (1 : Int32)))), .int (xs (Int32.toNatClampNeg ((nI i) + (2 : Int32))))]) (st := []) rfl (Nat.le_of_ble_eq_true rfl) (dOk_at dt_L_law_14 29 rfl) (fun v_91 h_92 _ => ?_)
  refine j_aload_n hC 2 rfl rfl (dOk_at dt_L_law_14 30 rfl) ?_
  refine j_xaload_n hC 0 rfl rfl (dOk_at dt_L_law_14 31 rfl) ?_
  refine j_iload hC 4 rfl (dOk_at dt_L_law_14 32 rfl) ?_
  refine j_iconst hC (v := (1 : Int32)) rfl (dOk_at dt_L_law_14 33 rfl) ?_
  refine j_iadd hC (dOk_at dt_L_law_14 34 rfl) ?_
  refine j_xiald hC (f := xs) hT (dOk_at dt_L_law_14 35 rfl) ?_
  refine j_xaload_n hC 0 rfl rfl (dOk_at dt_L_law_14 36 rfl) ?_
  refine j_iload hC 4 rfl (dOk_at dt_L_law_14 37 rfl) ?_
  refine j_iconst hC (v := (2 : Int32)) rfl (dOk_at dt_L_law_14 38 rfl) ?_
  refine j_iadd hC (dOk_at dt_L_law_14 39 rfl) ?_
  refine j_xiald hC (f := xs) hT (dOk_at dt_L_law_15 0 rfl) ?_
  refine j_callVi hC clL_123 (fun r0 hr0 => c_X10_dropFor (by decide) _ _ _ r0 hr0) (show shp 107 = (10, 88) from rfl) (Nat.le_of_ble_eq_true rfl) (by decide) rfl rfl ⟨Nat.le_of_ble_eq_true rfl, Nat.le_of_ble_eq_true rfl⟩ ⟨by show _ ≤ 601024; omega, by show _ ≤ 7293033; omega⟩ (As := [.int (xs (Int32.toNatClampNeg ((nI i) + (1 : Int32)))), .int (xs (Int32.toNatClampNeg ((nI i) + (2 : Int32))))]) (st := [.int v_91]) rfl (Nat.le_of_ble_eq_true rfl) (dOk_at dt_L_law_15 1 rfl) (fun v_93 h_94 _ => ?_)
  refine j_icmp_eq hC (tgt := 1601) (by decide) (dOk_at dt_L_law_15 2 rfl) (fun _ => ?_) (fun _ => ?_)
  · refine j_widen (kc' := 200 + 20 * (i + 6)) (ks' := 20000 + 300 * (i + 6)) (by omega) (by omega) ?_
    exact hk h_94
  · refine j_iconst hC (v := (0 : Int32)) rfl (dOk_at dt_L_law_15 3 rfl) ?_
    exact j_none
def fLc_23 (L : Nat) (xs : Nat → Int32) (k : Hp → Option Unit) (h : Hp) (i : Nat) : Option Unit := if inb ((nI i) + (1 : Int32)) L then (if inb ((nI i) + (2 : Int32)) L then (bnd (fX9_points h (xs (Int32.toNatClampNeg ((nI i) + (1 : Int32)))) (xs (Int32.toNatClampNeg ((nI i) + (2 : Int32))))) (fun v_95 h_96 => if inb ((nI i) + (1 : Int32)) L then (if inb ((nI i) + (2 : Int32)) L then (bnd (fX10_points h_96 (xs (Int32.toNatClampNeg ((nI i) + (1 : Int32)))) (xs (Int32.toNatClampNeg ((nI i) + (2 : Int32))))) (fun v_97 h_98 => if v_95 = v_97 then (k h_98) else none)) else none) else none)) else none) else none
set_option maxRecDepth 100000 in
set_option maxHeartbeats 4000000 in
theorem cLc_23 {p : Program} {l : Launch} {e : Env} {s : State} {m : MethodId} {below : List Frame} {meth : Method} {c : Code} {D : va_G} {ids : Nat → ClassId} {b L : Nat} {xs : Nat → Int32} (hC : jC p s m #[Value.ref b] meth c code RL 7 s D ids) (hG : jG s) (hT : va_T .int b L (fun j => .int (xs j)) (jA s) s s.heap) (k : Hp → Option Unit) (h : Hp) (i : Nat) (hi : i ≤ 3072) (hk : ∀ h : Hp, jJ p l e room_1 s m #[Value.ref b] below meth c 7 s D ids shp St (fun (_ : Unit) => lw_Z below #[Value.ref b] s) 153 (200 + 20 * (i + 6)) (20000 + 300 * (i + 6)) h 1601 [(0, .retAddr b), (1, .ref 0), (2, .ref 107), (3, .ref 152), (4, .int (nI i))] [] (k h)) : jJ p l e room_1 s m #[Value.ref b] below meth c 7 s D ids shp St (fun (_ : Unit) => lw_Z below #[Value.ref b] s) 153 (200 + 20 * i) (20000 + 300 * i) h 1027 [(0, .retAddr b), (1, .ref 0), (2, .ref 107), (3, .ref 152), (4, .int (nI i))] [] (fLc_23 L xs k h i) := by
  unfold fLc_23
  refine j_aload_n hC 1 rfl rfl (dOk_at dt_L_law_15 5 rfl) ?_
  refine j_xaload_n hC 0 rfl rfl (dOk_at dt_L_law_15 6 rfl) ?_
  refine j_iload hC 4 rfl (dOk_at dt_L_law_15 7 rfl) ?_
  refine j_iconst hC (v := (1 : Int32)) rfl (dOk_at dt_L_law_15 8 rfl) ?_
  refine j_iadd hC (dOk_at dt_L_law_15 9 rfl) ?_
  refine j_xiald hC (f := xs) hT (dOk_at dt_L_law_15 10 rfl) ?_
  refine j_xaload_n hC 0 rfl rfl (dOk_at dt_L_law_15 11 rfl) ?_
  refine j_iload hC 4 rfl (dOk_at dt_L_law_15 12 rfl) ?_
  refine j_iconst hC (v := (2 : Int32)) rfl (dOk_at dt_L_law_15 13 rfl) ?_
  refine j_iadd hC (dOk_at dt_L_law_15 14 rfl) ?_
  refine j_xiald hC (f := xs) hT (dOk_at dt_L_law_15 15 rfl) ?_
  refine j_callVi hC clL_124 (fun r0 hr0 => c_X9_points (by decide) _ _ _ r0 hr0) (show shp 0 = (9, 12) from rfl) (Nat.le_of_ble_eq_true rfl) (by decide) rfl rfl ⟨Nat.le_of_ble_eq_true rfl, Nat.le_of_ble_eq_true rfl⟩ ⟨by show _ ≤ 601024; omega, by show _ ≤ 7293033; omega⟩ (As := [.int (xs (Int32.toNatClampNeg ((nI i) + (1 : Int32)))), .int (xs (Int32.toNatClampNeg ((nI i) + (2 : Int32))))]) (st := []) rfl (Nat.le_of_ble_eq_true rfl) (dOk_at dt_L_law_15 16 rfl) (fun v_95 h_96 _ => ?_)
  refine j_aload_n hC 2 rfl rfl (dOk_at dt_L_law_15 17 rfl) ?_
  refine j_xaload_n hC 0 rfl rfl (dOk_at dt_L_law_15 18 rfl) ?_
  refine j_iload hC 4 rfl (dOk_at dt_L_law_15 19 rfl) ?_
  refine j_iconst hC (v := (1 : Int32)) rfl (dOk_at dt_L_law_15 20 rfl) ?_
  refine j_iadd hC (dOk_at dt_L_law_15 21 rfl) ?_
  refine j_xiald hC (f := xs) hT (dOk_at dt_L_law_15 22 rfl) ?_
  refine j_xaload_n hC 0 rfl rfl (dOk_at dt_L_law_15 23 rfl) ?_
  refine j_iload hC 4 rfl (dOk_at dt_L_law_15 24 rfl) ?_
  refine j_iconst hC (v := (2 : Int32)) rfl (dOk_at dt_L_law_15 25 rfl) ?_
  refine j_iadd hC (dOk_at dt_L_law_15 26 rfl) ?_
  refine j_xiald hC (f := xs) hT (dOk_at dt_L_law_15 27 rfl) ?_
  refine j_callVi hC clL_127 (fun r0 hr0 => c_X10_points (by decide) _ _ _ r0 hr0) (show shp 107 = (10, 88) from rfl) (Nat.le_of_ble_eq_true rfl) (by decide) rfl rfl ⟨Nat.le_of_ble_eq_true rfl, Nat.le_of_ble_eq_true rfl⟩ ⟨by show _ ≤ 601024; omega, by show _ ≤ 7293033; omega⟩ (As := [.int (xs (Int32.toNatClampNeg ((nI i) + (1 : Int32)))), .int (xs (Int32.toNatClampNeg ((nI i) + (2 : Int32))))]) (st := [.int v_95]) rfl (Nat.le_of_ble_eq_true rfl) (dOk_at dt_L_law_15 28 rfl) (fun v_97 h_98 _ => ?_)
  refine j_icmp_eq hC (tgt := 1601) (by decide) (dOk_at dt_L_law_15 29 rfl) (fun _ => ?_) (fun _ => ?_)
  · refine j_widen (kc' := 200 + 20 * (i + 6)) (ks' := 20000 + 300 * (i + 6)) (by omega) (by omega) ?_
    exact hk h_98
  · refine j_iconst hC (v := (0 : Int32)) rfl (dOk_at dt_L_law_15 30 rfl) ?_
    exact j_none
def fLc_24 (L : Nat) (xs : Nat → Int32) (k : Hp → Option Unit) (h : Hp) (i : Nat) : Option Unit := if inb ((nI i) + (1 : Int32)) L then (if inb ((nI i) + (2 : Int32)) L then (bnd (fX9_agreed h (xs (Int32.toNatClampNeg ((nI i) + (1 : Int32)))) (xs (Int32.toNatClampNeg ((nI i) + (2 : Int32))))) (fun v_99 h_100 => if inb ((nI i) + (1 : Int32)) L then (if inb ((nI i) + (2 : Int32)) L then (bnd (fX10_agreed h_100 (xs (Int32.toNatClampNeg ((nI i) + (1 : Int32)))) (xs (Int32.toNatClampNeg ((nI i) + (2 : Int32))))) (fun v_101 h_102 => if v_99 = v_101 then (k h_102) else none)) else none) else none)) else none) else none
set_option maxRecDepth 100000 in
set_option maxHeartbeats 4000000 in
theorem cLc_24 {p : Program} {l : Launch} {e : Env} {s : State} {m : MethodId} {below : List Frame} {meth : Method} {c : Code} {D : va_G} {ids : Nat → ClassId} {b L : Nat} {xs : Nat → Int32} (hC : jC p s m #[Value.ref b] meth c code RL 7 s D ids) (hG : jG s) (hT : va_T .int b L (fun j => .int (xs j)) (jA s) s s.heap) (k : Hp → Option Unit) (h : Hp) (i : Nat) (hi : i ≤ 3072) (hk : ∀ h : Hp, jJ p l e room_1 s m #[Value.ref b] below meth c 7 s D ids shp St (fun (_ : Unit) => lw_Z below #[Value.ref b] s) 153 (200 + 20 * (i + 6)) (20000 + 300 * (i + 6)) h 1601 [(0, .retAddr b), (1, .ref 0), (2, .ref 107), (3, .ref 152), (4, .int (nI i))] [] (k h)) : jJ p l e room_1 s m #[Value.ref b] below meth c 7 s D ids shp St (fun (_ : Unit) => lw_Z below #[Value.ref b] s) 153 (200 + 20 * i) (20000 + 300 * i) h 1064 [(0, .retAddr b), (1, .ref 0), (2, .ref 107), (3, .ref 152), (4, .int (nI i))] [] (fLc_24 L xs k h i) := by
  unfold fLc_24
  refine j_aload_n hC 1 rfl rfl (dOk_at dt_L_law_15 32 rfl) ?_
  refine j_xaload_n hC 0 rfl rfl (dOk_at dt_L_law_15 33 rfl) ?_
  refine j_iload hC 4 rfl (dOk_at dt_L_law_15 34 rfl) ?_
  refine j_iconst hC (v := (1 : Int32)) rfl (dOk_at dt_L_law_15 35 rfl) ?_
  refine j_iadd hC (dOk_at dt_L_law_15 36 rfl) ?_
  refine j_xiald hC (f := xs) hT (dOk_at dt_L_law_15 37 rfl) ?_
  refine j_xaload_n hC 0 rfl rfl (dOk_at dt_L_law_15 38 rfl) ?_
  refine j_iload hC 4 rfl (dOk_at dt_L_law_15 39 rfl) ?_
  refine j_iconst hC (v := (2 : Int32)) rfl (dOk_at dt_L_law_16 0 rfl) ?_
  refine j_iadd hC (dOk_at dt_L_law_16 1 rfl) ?_
  refine j_xiald hC (f := xs) hT (dOk_at dt_L_law_16 2 rfl) ?_
  refine j_callVi hC clL_128 (fun r0 hr0 => c_X9_agreed (by decide) _ _ _ r0 hr0) (show shp 0 = (9, 12) from rfl) (Nat.le_of_ble_eq_true rfl) (by decide) rfl rfl ⟨Nat.le_of_ble_eq_true rfl, Nat.le_of_ble_eq_true rfl⟩ ⟨by show _ ≤ 601024; omega, by show _ ≤ 7293033; omega⟩ (As := [.int (xs (Int32.toNatClampNeg ((nI i) + (1 : Int32)))), .int (xs (Int32.toNatClampNeg ((nI i) + (2 : Int32))))]) (st := []) rfl (Nat.le_of_ble_eq_true rfl) (dOk_at dt_L_law_16 3 rfl) (fun v_99 h_100 _ => ?_)
  refine j_aload_n hC 2 rfl rfl (dOk_at dt_L_law_16 4 rfl) ?_
  refine j_xaload_n hC 0 rfl rfl (dOk_at dt_L_law_16 5 rfl) ?_
  refine j_iload hC 4 rfl (dOk_at dt_L_law_16 6 rfl) ?_
  refine j_iconst hC (v := (1 : Int32)) rfl (dOk_at dt_L_law_16 7 rfl) ?_
  refine j_iadd hC (dOk_at dt_L_law_16 8 rfl) ?_
  refine j_xiald hC (f := xs) hT (dOk_at dt_L_law_16 9 rfl) ?_
  refine j_xaload_n hC 0 rfl rfl (dOk_at dt_L_law_16 10 rfl) ?_
  refine j_iload hC 4 rfl (dOk_at dt_L_law_16 11 rfl) ?_
  refine j_iconst hC (v := (2 : Int32)) rfl (dOk_at dt_L_law_16 12 rfl) ?_
  refine j_iadd hC (dOk_at dt_L_law_16 13 rfl) ?_
  refine j_xiald hC (f := xs) hT (dOk_at dt_L_law_16 14 rfl) ?_
  refine j_callVi hC clL_131 (fun r0 hr0 => c_X10_agreed (by decide) _ _ _ r0 hr0) (show shp 107 = (10, 88) from rfl) (Nat.le_of_ble_eq_true rfl) (by decide) rfl rfl ⟨Nat.le_of_ble_eq_true rfl, Nat.le_of_ble_eq_true rfl⟩ ⟨by show _ ≤ 601024; omega, by show _ ≤ 7293033; omega⟩ (As := [.int (xs (Int32.toNatClampNeg ((nI i) + (1 : Int32)))), .int (xs (Int32.toNatClampNeg ((nI i) + (2 : Int32))))]) (st := [.int v_99]) rfl (Nat.le_of_ble_eq_true rfl) (dOk_at dt_L_law_16 15 rfl) (fun v_101 h_102 _ => ?_)
  refine j_icmp_eq hC (tgt := 1601) (by decide) (dOk_at dt_L_law_16 16 rfl) (fun _ => ?_) (fun _ => ?_)
  · refine j_widen (kc' := 200 + 20 * (i + 6)) (ks' := 20000 + 300 * (i + 6)) (by omega) (by omega) ?_
    exact hk h_102
  · refine j_iconst hC (v := (0 : Int32)) rfl (dOk_at dt_L_law_16 17 rfl) ?_
    exact j_none
def fLc_25 (L : Nat) (xs : Nat → Int32) (k : Hp → Option Unit) (h : Hp) (i : Nat) : Option Unit := if inb ((nI i) + (1 : Int32)) L then (bnd (fX9_match h (xs (Int32.toNatClampNeg ((nI i) + (1 : Int32))))) (fun v_103 h_104 => if inb ((nI i) + (1 : Int32)) L then (bnd (fX10_match h_104 (xs (Int32.toNatClampNeg ((nI i) + (1 : Int32))))) (fun v_105 h_106 => if v_103 = v_105 then (k h_106) else none)) else none)) else none
set_option maxRecDepth 100000 in
set_option maxHeartbeats 4000000 in
theorem cLc_25 {p : Program} {l : Launch} {e : Env} {s : State} {m : MethodId} {below : List Frame} {meth : Method} {c : Code} {D : va_G} {ids : Nat → ClassId} {b L : Nat} {xs : Nat → Int32} (hC : jC p s m #[Value.ref b] meth c code RL 7 s D ids) (hG : jG s) (hT : va_T .int b L (fun j => .int (xs j)) (jA s) s s.heap) (k : Hp → Option Unit) (h : Hp) (i : Nat) (hi : i ≤ 3072) (hk : ∀ h : Hp, jJ p l e room_1 s m #[Value.ref b] below meth c 7 s D ids shp St (fun (_ : Unit) => lw_Z below #[Value.ref b] s) 153 (200 + 20 * (i + 6)) (20000 + 300 * (i + 6)) h 1601 [(0, .retAddr b), (1, .ref 0), (2, .ref 107), (3, .ref 152), (4, .int (nI i))] [] (k h)) : jJ p l e room_1 s m #[Value.ref b] below meth c 7 s D ids shp St (fun (_ : Unit) => lw_Z below #[Value.ref b] s) 153 (200 + 20 * i) (20000 + 300 * i) h 1101 [(0, .retAddr b), (1, .ref 0), (2, .ref 107), (3, .ref 152), (4, .int (nI i))] [] (fLc_25 L xs k h i) := by
  unfold fLc_25
  refine j_aload_n hC 1 rfl rfl (dOk_at dt_L_law_16 19 rfl) ?_
  refine j_xaload_n hC 0 rfl rfl (dOk_at dt_L_law_16 20 rfl) ?_
  refine j_iload hC 4 rfl (dOk_at dt_L_law_16 21 rfl) ?_
  refine j_iconst hC (v := (1 : Int32)) rfl (dOk_at dt_L_law_16 22 rfl) ?_
  refine j_iadd hC (dOk_at dt_L_law_16 23 rfl) ?_
  refine j_xiald hC (f := xs) hT (dOk_at dt_L_law_16 24 rfl) ?_
  refine j_callVi hC clL_132 (fun r0 hr0 => c_X9_match (by decide) _ _ r0 hr0) (show shp 0 = (9, 12) from rfl) (Nat.le_of_ble_eq_true rfl) (by decide) rfl rfl ⟨Nat.le_of_ble_eq_true rfl, Nat.le_of_ble_eq_true rfl⟩ ⟨by show _ ≤ 601024; omega, by show _ ≤ 7293033; omega⟩ (As := [.int (xs (Int32.toNatClampNeg ((nI i) + (1 : Int32))))]) (st := []) rfl (Nat.le_of_ble_eq_true rfl) (dOk_at dt_L_law_16 25 rfl) (fun v_103 h_104 _ => ?_)
  refine j_aload_n hC 2 rfl rfl (dOk_at dt_L_law_16 26 rfl) ?_
  refine j_xaload_n hC 0 rfl rfl (dOk_at dt_L_law_16 27 rfl) ?_
  refine j_iload hC 4 rfl (dOk_at dt_L_law_16 28 rfl) ?_
  refine j_iconst hC (v := (1 : Int32)) rfl (dOk_at dt_L_law_16 29 rfl) ?_
  refine j_iadd hC (dOk_at dt_L_law_16 30 rfl) ?_
  refine j_xiald hC (f := xs) hT (dOk_at dt_L_law_16 31 rfl) ?_
  refine j_callVi hC clL_135 (fun r0 hr0 => c_X10_match (by decide) _ _ r0 hr0) (show shp 107 = (10, 88) from rfl) (Nat.le_of_ble_eq_true rfl) (by decide) rfl rfl ⟨Nat.le_of_ble_eq_true rfl, Nat.le_of_ble_eq_true rfl⟩ ⟨by show _ ≤ 601024; omega, by show _ ≤ 7293033; omega⟩ (As := [.int (xs (Int32.toNatClampNeg ((nI i) + (1 : Int32))))]) (st := [.int v_103]) rfl (Nat.le_of_ble_eq_true rfl) (dOk_at dt_L_law_16 32 rfl) (fun v_105 h_106 _ => ?_)
  refine j_icmp_eq hC (tgt := 1601) (by decide) (dOk_at dt_L_law_16 33 rfl) (fun _ => ?_) (fun _ => ?_)
  · refine j_widen (kc' := 200 + 20 * (i + 6)) (ks' := 20000 + 300 * (i + 6)) (by omega) (by omega) ?_
    exact hk h_106
  · refine j_iconst hC (v := (0 : Int32)) rfl (dOk_at dt_L_law_16 34 rfl) ?_
    exact j_none
def fLc_26 (L : Nat) (xs : Nat → Int32) (k : Hp → Option Unit) (h : Hp) (i : Nat) : Option Unit := if inb ((nI i) + (1 : Int32)) L then (if inb ((nI i) + (2 : Int32)) L then (bnd (fX9_rests h (xs (Int32.toNatClampNeg ((nI i) + (1 : Int32)))) (xs (Int32.toNatClampNeg ((nI i) + (2 : Int32))))) (fun v_107 h_108 => if inb ((nI i) + (1 : Int32)) L then (if inb ((nI i) + (2 : Int32)) L then (bnd (fX10_rests h_108 (xs (Int32.toNatClampNeg ((nI i) + (1 : Int32)))) (xs (Int32.toNatClampNeg ((nI i) + (2 : Int32))))) (fun v_109 h_110 => if v_107 = v_109 then (k h_110) else none)) else none) else none)) else none) else none
set_option maxRecDepth 100000 in
set_option maxHeartbeats 4000000 in
theorem cLc_26 {p : Program} {l : Launch} {e : Env} {s : State} {m : MethodId} {below : List Frame} {meth : Method} {c : Code} {D : va_G} {ids : Nat → ClassId} {b L : Nat} {xs : Nat → Int32} (hC : jC p s m #[Value.ref b] meth c code RL 7 s D ids) (hG : jG s) (hT : va_T .int b L (fun j => .int (xs j)) (jA s) s s.heap) (k : Hp → Option Unit) (h : Hp) (i : Nat) (hi : i ≤ 3072) (hk : ∀ h : Hp, jJ p l e room_1 s m #[Value.ref b] below meth c 7 s D ids shp St (fun (_ : Unit) => lw_Z below #[Value.ref b] s) 153 (200 + 20 * (i + 6)) (20000 + 300 * (i + 6)) h 1601 [(0, .retAddr b), (1, .ref 0), (2, .ref 107), (3, .ref 152), (4, .int (nI i))] [] (k h)) : jJ p l e room_1 s m #[Value.ref b] below meth c 7 s D ids shp St (fun (_ : Unit) => lw_Z below #[Value.ref b] s) 153 (200 + 20 * i) (20000 + 300 * i) h 1126 [(0, .retAddr b), (1, .ref 0), (2, .ref 107), (3, .ref 152), (4, .int (nI i))] [] (fLc_26 L xs k h i) := by
  unfold fLc_26
  refine j_aload_n hC 1 rfl rfl (dOk_at dt_L_law_16 36 rfl) ?_
  refine j_xaload_n hC 0 rfl rfl (dOk_at dt_L_law_16 37 rfl) ?_
  refine j_iload hC 4 rfl (dOk_at dt_L_law_16 38 rfl) ?_
  refine j_iconst hC (v := (1 : Int32)) rfl (dOk_at dt_L_law_16 39 rfl) ?_
  refine j_iadd hC (dOk_at dt_L_law_17 0 rfl) ?_
  refine j_xiald hC (f := xs) hT (dOk_at dt_L_law_17 1 rfl) ?_
  refine j_xaload_n hC 0 rfl rfl (dOk_at dt_L_law_17 2 rfl) ?_
  refine j_iload hC 4 rfl (dOk_at dt_L_law_17 3 rfl) ?_
  refine j_iconst hC (v := (2 : Int32)) rfl (dOk_at dt_L_law_17 4 rfl) ?_
  refine j_iadd hC (dOk_at dt_L_law_17 5 rfl) ?_
  refine j_xiald hC (f := xs) hT (dOk_at dt_L_law_17 6 rfl) ?_
  refine j_callVi hC clL_136 (fun r0 hr0 => c_X9_rests (by decide) _ _ _ r0 hr0) (show shp 0 = (9, 12) from rfl) (Nat.le_of_ble_eq_true rfl) (by decide) rfl rfl ⟨Nat.le_of_ble_eq_true rfl, Nat.le_of_ble_eq_true rfl⟩ ⟨by show _ ≤ 601024; omega, by show _ ≤ 7293033; omega⟩ (As := [.int (xs (Int32.toNatClampNeg ((nI i) + (1 : Int32)))), .int (xs (Int32.toNatClampNeg ((nI i) + (2 : Int32))))]) (st := []) rfl (Nat.le_of_ble_eq_true rfl) (dOk_at dt_L_law_17 7 rfl) (fun v_107 h_108 _ => ?_)
  refine j_aload_n hC 2 rfl rfl (dOk_at dt_L_law_17 8 rfl) ?_
  refine j_xaload_n hC 0 rfl rfl (dOk_at dt_L_law_17 9 rfl) ?_
  refine j_iload hC 4 rfl (dOk_at dt_L_law_17 10 rfl) ?_
  refine j_iconst hC (v := (1 : Int32)) rfl (dOk_at dt_L_law_17 11 rfl) ?_
  refine j_iadd hC (dOk_at dt_L_law_17 12 rfl) ?_
  refine j_xiald hC (f := xs) hT (dOk_at dt_L_law_17 13 rfl) ?_
  refine j_xaload_n hC 0 rfl rfl (dOk_at dt_L_law_17 14 rfl) ?_
  refine j_iload hC 4 rfl (dOk_at dt_L_law_17 15 rfl) ?_
  refine j_iconst hC (v := (2 : Int32)) rfl (dOk_at dt_L_law_17 16 rfl) ?_
  refine j_iadd hC (dOk_at dt_L_law_17 17 rfl) ?_
  refine j_xiald hC (f := xs) hT (dOk_at dt_L_law_17 18 rfl) ?_
  refine j_callVi hC clL_139 (fun r0 hr0 => c_X10_rests (by decide) _ _ _ r0 hr0) (show shp 107 = (10, 88) from rfl) (Nat.le_of_ble_eq_true rfl) (by decide) rfl rfl ⟨Nat.le_of_ble_eq_true rfl, Nat.le_of_ble_eq_true rfl⟩ ⟨by show _ ≤ 601024; omega, by show _ ≤ 7293033; omega⟩ (As := [.int (xs (Int32.toNatClampNeg ((nI i) + (1 : Int32)))), .int (xs (Int32.toNatClampNeg ((nI i) + (2 : Int32))))]) (st := [.int v_107]) rfl (Nat.le_of_ble_eq_true rfl) (dOk_at dt_L_law_17 19 rfl) (fun v_109 h_110 _ => ?_)
  refine j_icmp_eq hC (tgt := 1601) (by decide) (dOk_at dt_L_law_17 20 rfl) (fun _ => ?_) (fun _ => ?_)
  · refine j_widen (kc' := 200 + 20 * (i + 6)) (ks' := 20000 + 300 * (i + 6)) (by omega) (by omega) ?_
    exact hk h_110
  · refine j_iconst hC (v := (0 : Int32)) rfl (dOk_at dt_L_law_17 21 rfl) ?_
    exact j_none
def fLc_27 (L : Nat) (xs : Nat → Int32) (k : Hp → Option Unit) (h : Hp) (i : Nat) : Option Unit := if inb ((nI i) + (1 : Int32)) L then (if inb ((nI i) + (2 : Int32)) L then (if inb ((nI i) + (3 : Int32)) L then (bnd (fX9_rest h (xs (Int32.toNatClampNeg ((nI i) + (1 : Int32)))) (xs (Int32.toNatClampNeg ((nI i) + (2 : Int32)))) (xs (Int32.toNatClampNeg ((nI i) + (3 : Int32))))) (fun v_111 h_112 => if inb ((nI i) + (1 : Int32)) L then (if inb ((nI i) + (2 : Int32)) L then (if inb ((nI i) + (3 : Int32)) L then (bnd (fX10_rest h_112 (xs (Int32.toNatClampNeg ((nI i) + (1 : Int32)))) (xs (Int32.toNatClampNeg ((nI i) + (2 : Int32)))) (xs (Int32.toNatClampNeg ((nI i) + (3 : Int32))))) (fun v_113 h_114 => if v_111 = v_113 then (k h_114) else none)) else none) else none) else none)) else none) else none) else none
set_option maxRecDepth 100000 in
set_option maxHeartbeats 4000000 in
theorem cLc_27 {p : Program} {l : Launch} {e : Env} {s : State} {m : MethodId} {below : List Frame} {meth : Method} {c : Code} {D : va_G} {ids : Nat → ClassId} {b L : Nat} {xs : Nat → Int32} (hC : jC p s m #[Value.ref b] meth c code RL 7 s D ids) (hG : jG s) (hT : va_T .int b L (fun j => .int (xs j)) (jA s) s s.heap) (k : Hp → Option Unit) (h : Hp) (i : Nat) (hi : i ≤ 3072) (hk : ∀ h : Hp, jJ p l e room_1 s m #[Value.ref b] below meth c 7 s D ids shp St (fun (_ : Unit) => lw_Z below #[Value.ref b] s) 153 (200 + 20 * (i + 6)) (20000 + 300 * (i + 6)) h 1601 [(0, .retAddr b), (1, .ref 0), (2, .ref 107), (3, .ref 152), (4, .int (nI i))] [] (k h)) : jJ p l e room_1 s m #[Value.ref b] below meth c 7 s D ids shp St (fun (_ : Unit) => lw_Z below #[Value.ref b] s) 153 (200 + 20 * i) (20000 + 300 * i) h 1163 [(0, .retAddr b), (1, .ref 0), (2, .ref 107), (3, .ref 152), (4, .int (nI i))] [] (fLc_27 L xs k h i) := by
  unfold fLc_27
  refine j_aload_n hC 1 rfl rfl (dOk_at dt_L_law_17 23 rfl) ?_
  refine j_xaload_n hC 0 rfl rfl (dOk_at dt_L_law_17 24 rfl) ?_
  refine j_iload hC 4 rfl (dOk_at dt_L_law_17 25 rfl) ?_
  refine j_iconst hC (v := (1 : Int32)) rfl (dOk_at dt_L_law_17 26 rfl) ?_
  refine j_iadd hC (dOk_at dt_L_law_17 27 rfl) ?_
  refine j_xiald hC (f := xs) hT (dOk_at dt_L_law_17 28 rfl) ?_
  refine j_xaload_n hC 0 rfl rfl (dOk_at dt_L_law_17 29 rfl) ?_
  refine j_iload hC 4 rfl (dOk_at dt_L_law_17 30 rfl) ?_
  refine j_iconst hC (v := (2 : Int32)) rfl (dOk_at dt_L_law_17 31 rfl) ?_
  refine j_iadd hC (dOk_at dt_L_law_17 32 rfl) ?_
  refine j_xiald hC (f := xs) hT (dOk_at dt_L_law_17 33 rfl) ?_
  refine j_xaload_n hC 0 rfl rfl (dOk_at dt_L_law_17 34 rfl) ?_
  refine j_iload hC 4 rfl (dOk_at dt_L_law_17 35 rfl) ?_
  refine j_iconst hC (v := (3 : Int32)) rfl (dOk_at dt_L_law_17 36 rfl) ?_
  refine j_iadd hC (dOk_at dt_L_law_17 37 rfl) ?_
  refine j_xiald hC (f := xs) hT (dOk_at dt_L_law_17 38 rfl) ?_
  refine j_callVi hC clL_140 (fun r0 hr0 => c_X9_rest (by decide) _ _ _ _ r0 hr0) (show shp 0 = (9, 12) from rfl) (Nat.le_of_ble_eq_true rfl) (by decide) rfl rfl ⟨Nat.le_of_ble_eq_true rfl, Nat.le_of_ble_eq_true rfl⟩ ⟨by show _ ≤ 601024; omega, by show _ ≤ 7293033; omega⟩ (As := [.int (xs (Int32.toNatClampNeg ((nI i) + (1 : Int32)))), .int (xs (Int32.toNatClampNeg ((nI i) + (2 : Int32)))), .int (xs (Int32.toNatClampNeg ((nI i) + (3 : Int32))))]) (st := []) rfl (Nat.le_of_ble_eq_true rfl) (dOk_at dt_L_law_17 39 rfl) (fun v_111 h_112 _ => ?_)
  refine j_aload_n hC 2 rfl rfl (dOk_at dt_L_law_18 0 rfl) ?_
  refine j_xaload_n hC 0 rfl rfl (dOk_at dt_L_law_18 1 rfl) ?_
  refine j_iload hC 4 rfl (dOk_at dt_L_law_18 2 rfl) ?_
  refine j_iconst hC (v := (1 : Int32)) rfl (dOk_at dt_L_law_18 3 rfl) ?_
  refine j_iadd hC (dOk_at dt_L_law_18 4 rfl) ?_
  refine j_xiald hC (f := xs) hT (dOk_at dt_L_law_18 5 rfl) ?_
  refine j_xaload_n hC 0 rfl rfl (dOk_at dt_L_law_18 6 rfl) ?_
  refine j_iload hC 4 rfl (dOk_at dt_L_law_18 7 rfl) ?_
  refine j_iconst hC (v := (2 : Int32)) rfl (dOk_at dt_L_law_18 8 rfl) ?_
  refine j_iadd hC (dOk_at dt_L_law_18 9 rfl) ?_
  refine j_xiald hC (f := xs) hT (dOk_at dt_L_law_18 10 rfl) ?_
  refine j_xaload_n hC 0 rfl rfl (dOk_at dt_L_law_18 11 rfl) ?_
  refine j_iload hC 4 rfl (dOk_at dt_L_law_18 12 rfl) ?_
  refine j_iconst hC (v := (3 : Int32)) rfl (dOk_at dt_L_law_18 13 rfl) ?_
  refine j_iadd hC (dOk_at dt_L_law_18 14 rfl) ?_
  refine j_xiald hC (f := xs) hT (dOk_at dt_L_law_18 15 rfl) ?_
  refine j_callVi hC clL_143 (fun r0 hr0 => c_X10_rest (by decide) _ _ _ _ r0 hr0) (show shp 107 = (10, 88) from rfl) (Nat.le_of_ble_eq_true rfl) (by decide) rfl rfl ⟨Nat.le_of_ble_eq_true rfl, Nat.le_of_ble_eq_true rfl⟩ ⟨by show _ ≤ 601024; omega, by show _ ≤ 7293033; omega⟩ (As := [.int (xs (Int32.toNatClampNeg ((nI i) + (1 : Int32)))), .int (xs (Int32.toNatClampNeg ((nI i) + (2 : Int32)))), .int (xs (Int32.toNatClampNeg ((nI i) + (3 : Int32))))]) (st := [.int v_111]) rfl (Nat.le_of_ble_eq_true rfl) (dOk_at dt_L_law_18 16 rfl) (fun v_113 h_114 _ => ?_)
  refine j_icmp_eq hC (tgt := 1601) (by decide) (dOk_at dt_L_law_18 17 rfl) (fun _ => ?_) (fun _ => ?_)
  · refine j_widen (kc' := 200 + 20 * (i + 6)) (ks' := 20000 + 300 * (i + 6)) (by omega) (by omega) ?_
    exact hk h_114
  · refine j_iconst hC (v := (0 : Int32)) rfl (dOk_at dt_L_law_18 18 rfl) ?_
    exact j_none
def fLc_28 (L : Nat) (xs : Nat → Int32) (k : Hp → Option Unit) (h : Hp) (i : Nat) : Option Unit := if inb ((nI i) + (1 : Int32)) L then (if inb ((nI i) + (2 : Int32)) L then (bnd (fX9_dry h (xs (Int32.toNatClampNeg ((nI i) + (1 : Int32)))) (xs (Int32.toNatClampNeg ((nI i) + (2 : Int32))))) (fun v_115 h_116 => if inb ((nI i) + (1 : Int32)) L then (if inb ((nI i) + (2 : Int32)) L then (bnd (fX10_dry h_116 (xs (Int32.toNatClampNeg ((nI i) + (1 : Int32)))) (xs (Int32.toNatClampNeg ((nI i) + (2 : Int32))))) (fun v_117 h_118 => if (lg_cmp v_115 v_117) = 0 then (k h_118) else none)) else none) else none)) else none) else none
set_option maxRecDepth 100000 in
set_option maxHeartbeats 4000000 in
theorem cLc_28 {p : Program} {l : Launch} {e : Env} {s : State} {m : MethodId} {below : List Frame} {meth : Method} {c : Code} {D : va_G} {ids : Nat → ClassId} {b L : Nat} {xs : Nat → Int32} (hC : jC p s m #[Value.ref b] meth c code RL 7 s D ids) (hG : jG s) (hT : va_T .int b L (fun j => .int (xs j)) (jA s) s s.heap) (k : Hp → Option Unit) (h : Hp) (i : Nat) (hi : i ≤ 3072) (hk : ∀ h : Hp, jJ p l e room_1 s m #[Value.ref b] below meth c 7 s D ids shp St (fun (_ : Unit) => lw_Z below #[Value.ref b] s) 153 (200 + 20 * (i + 6)) (20000 + 300 * (i + 6)) h 1601 [(0, .retAddr b), (1, .ref 0), (2, .ref 107), (3, .ref 152), (4, .int (nI i))] [] (k h)) : jJ p l e room_1 s m #[Value.ref b] below meth c 7 s D ids shp St (fun (_ : Unit) => lw_Z below #[Value.ref b] s) 153 (200 + 20 * i) (20000 + 300 * i) h 1212 [(0, .retAddr b), (1, .ref 0), (2, .ref 107), (3, .ref 152), (4, .int (nI i))] [] (fLc_28 L xs k h i) := by
  unfold fLc_28
  refine j_aload_n hC 1 rfl rfl (dOk_at dt_L_law_18 20 rfl) ?_
  refine j_xaload_n hC 0 rfl rfl (dOk_at dt_L_law_18 21 rfl) ?_
  refine j_iload hC 4 rfl (dOk_at dt_L_law_18 22 rfl) ?_
  refine j_iconst hC (v := (1 : Int32)) rfl (dOk_at dt_L_law_18 23 rfl) ?_
  refine j_iadd hC (dOk_at dt_L_law_18 24 rfl) ?_
  refine j_xiald hC (f := xs) hT (dOk_at dt_L_law_18 25 rfl) ?_
  refine j_xaload_n hC 0 rfl rfl (dOk_at dt_L_law_18 26 rfl) ?_
  refine j_iload hC 4 rfl (dOk_at dt_L_law_18 27 rfl) ?_
  refine j_iconst hC (v := (2 : Int32)) rfl (dOk_at dt_L_law_18 28 rfl) ?_
  refine j_iadd hC (dOk_at dt_L_law_18 29 rfl) ?_
  refine j_xiald hC (f := xs) hT (dOk_at dt_L_law_18 30 rfl) ?_
  refine j_callVl hC clL_144 (fun r0 hr0 => c_X9_dry (by decide) _ _ _ r0 hr0) (show shp 0 = (9, 12) from rfl) (Nat.le_of_ble_eq_true rfl) (by decide) rfl rfl ⟨Nat.le_of_ble_eq_true rfl, Nat.le_of_ble_eq_true rfl⟩ ⟨by show _ ≤ 601024; omega, by show _ ≤ 7293033; omega⟩ (As := [.int (xs (Int32.toNatClampNeg ((nI i) + (1 : Int32)))), .int (xs (Int32.toNatClampNeg ((nI i) + (2 : Int32))))]) (st := []) rfl (Nat.le_of_ble_eq_true rfl) (dOk_at dt_L_law_18 31 rfl) (fun v_115 h_116 _ => ?_)
  refine j_aload_n hC 2 rfl rfl (dOk_at dt_L_law_18 32 rfl) ?_
  refine j_xaload_n hC 0 rfl rfl (dOk_at dt_L_law_18 33 rfl) ?_
  refine j_iload hC 4 rfl (dOk_at dt_L_law_18 34 rfl) ?_
  refine j_iconst hC (v := (1 : Int32)) rfl (dOk_at dt_L_law_18 35 rfl) ?_
  refine j_iadd hC (dOk_at dt_L_law_18 36 rfl) ?_
  refine j_xiald hC (f := xs) hT (dOk_at dt_L_law_18 37 rfl) ?_
  refine j_xaload_n hC 0 rfl rfl (dOk_at dt_L_law_18 38 rfl) ?_
  refine j_iload hC 4 rfl (dOk_at dt_L_law_18 39 rfl) ?_
  refine j_iconst hC (v := (2 : Int32)) rfl (dOk_at dt_L_law_19 0 rfl) ?_
  refine j_iadd hC (dOk_at dt_L_law_19 1 rfl) ?_
  refine j_xiald hC (f := xs) hT (dOk_at dt_L_law_19 2 rfl) ?_
  refine j_callVl hC clL_148 (fun r0 hr0 => c_X10_dry (by decide) _ _ _ r0 hr0) (show shp 107 = (10, 88) from rfl) (Nat.le_of_ble_eq_true rfl) (by decide) rfl rfl ⟨Nat.le_of_ble_eq_true rfl, Nat.le_of_ble_eq_true rfl⟩ ⟨by show _ ≤ 601024; omega, by show _ ≤ 7293033; omega⟩ (As := [.int (xs (Int32.toNatClampNeg ((nI i) + (1 : Int32)))), .int (xs (Int32.toNatClampNeg ((nI i) + (2 : Int32))))]) (st := [.long v_115]) rfl (Nat.le_of_ble_eq_true rfl) (dOk_at dt_L_law_19 3 rfl) (fun v_117 h_118 _ => ?_)
  refine j_lcmp hC (dOk_at dt_L_law_19 4 rfl) ?_
  refine j_if_eq hC (tgt := 1601) (by decide) (dOk_at dt_L_law_19 5 rfl) (fun _ => ?_) (fun _ => ?_)
  · refine j_widen (kc' := 200 + 20 * (i + 6)) (ks' := 20000 + 300 * (i + 6)) (by omega) (by omega) ?_
    exact hk h_118
  · refine j_iconst hC (v := (0 : Int32)) rfl (dOk_at dt_L_law_19 6 rfl) ?_
    exact j_none
def fLc_29 (L : Nat) (xs : Nat → Int32) (k : Hp → Option Unit) (h : Hp) (i : Nat) : Option Unit := if inb ((nI i) + (1 : Int32)) L then (if inb ((nI i) + (2 : Int32)) L then (if inb ((nI i) + (3 : Int32)) L then (if inb ((nI i) + (4 : Int32)) L then (if (xs (Int32.toNatClampNeg ((nI i) + (4 : Int32)))) = 0 then (bnd (fX9_see h (xs (Int32.toNatClampNeg ((nI i) + (1 : Int32)))) (xs (Int32.toNatClampNeg ((nI i) + (2 : Int32)))) (xs (Int32.toNatClampNeg ((nI i) + (3 : Int32)))) (0 : Int32)) (fun v_119 h_120 => if inb ((nI i) + (1 : Int32)) L then (if inb ((nI i) + (2 : Int32)) L then (if inb ((nI i) + (3 : Int32)) L then (if inb ((nI i) + (4 : Int32)) L then (if (xs (Int32.toNatClampNeg ((nI i) + (4 : Int32)))) = 0 then (bnd (fX10_see h_120 (xs (Int32.toNatClampNeg ((nI i) + (1 : Int32)))) (xs (Int32.toNatClampNeg ((nI i) + (2 : Int32)))) (xs (Int32.toNatClampNeg ((nI i) + (3 : Int32)))) (0 : Int32)) (fun v_121 h_122 => if v_119 = v_121 then (k h_122) else none)) else (bnd (fX10_see h_120 (xs (Int32.toNatClampNeg ((nI i) + (1 : Int32)))) (xs (Int32.toNatClampNeg ((nI i) + (2 : Int32)))) (xs (Int32.toNatClampNeg ((nI i) + (3 : Int32)))) (1 : Int32)) (fun v_123 h_124 => if v_119 = v_123 then (k h_124) else none))) else none) else none) else none) else none)) else (bnd (fX9_see h (xs (Int32.toNatClampNeg ((nI i) + (1 : Int32)))) (xs (Int32.toNatClampNeg ((nI i) + (2 : Int32)))) (xs (Int32.toNatClampNeg ((nI i) + (3 : Int32)))) (1 : Int32)) (fun v_125 h_126 => if inb ((nI i) + (1 : Int32)) L then (if inb ((nI i) + (2 : Int32)) L then (if inb ((nI i) + (3 : Int32)) L then (if inb ((nI i) + (4 : Int32)) L then (if (xs (Int32.toNatClampNeg ((nI i) + (4 : Int32)))) = 0 then (bnd (fX10_see h_126 (xs (Int32.toNatClampNeg ((nI i) + (1 : Int32)))) (xs (Int32.toNatClampNeg ((nI i) + (2 : Int32)))) (xs (Int32.toNatClampNeg ((nI i) + (3 : Int32)))) (0 : Int32)) (fun v_127 h_128 => if v_125 = v_127 then (k h_128) else none)) else (bnd (fX10_see h_126 (xs (Int32.toNatClampNeg ((nI i) + (1 : Int32)))) (xs (Int32.toNatClampNeg ((nI i) + (2 : Int32)))) (xs (Int32.toNatClampNeg ((nI i) + (3 : Int32)))) (1 : Int32)) (fun v_129 h_130 => if v_125 = v_129 then (k h_130) else none))) else none) else none) else none) else none))) else none) else none) else none) else none
set_option maxRecDepth 100000 in
set_option maxHeartbeats 4000000 in
theorem cLc_29 {p : Program} {l : Launch} {e : Env} {s : State} {m : MethodId} {below : List Frame} {meth : Method} {c : Code} {D : va_G} {ids : Nat → ClassId} {b L : Nat} {xs : Nat → Int32} (hC : jC p s m #[Value.ref b] meth c code RL 7 s D ids) (hG : jG s) (hT : va_T .int b L (fun j => .int (xs j)) (jA s) s s.heap) (k : Hp → Option Unit) (h : Hp) (i : Nat) (hi : i ≤ 3072) (hk : ∀ h : Hp, jJ p l e room_1 s m #[Value.ref b] below meth c 7 s D ids shp St (fun (_ : Unit) => lw_Z below #[Value.ref b] s) 153 (200 + 20 * (i + 6)) (20000 + 300 * (i + 6)) h 1601 [(0, .retAddr b), (1, .ref 0), (2, .ref 107), (3, .ref 152), (4, .int (nI i))] [] (k h)) : jJ p l e room_1 s m #[Value.ref b] below meth c 7 s D ids shp St (fun (_ : Unit) => lw_Z below #[Value.ref b] s) 153 (200 + 20 * i) (20000 + 300 * i) h 1250 [(0, .retAddr b), (1, .ref 0), (2, .ref 107), (3, .ref 152), (4, .int (nI i))] [] (fLc_29 L xs k h i) := by
  unfold fLc_29
  refine j_aload_n hC 1 rfl rfl (dOk_at dt_L_law_19 8 rfl) ?_
  refine j_xaload_n hC 0 rfl rfl (dOk_at dt_L_law_19 9 rfl) ?_
  refine j_iload hC 4 rfl (dOk_at dt_L_law_19 10 rfl) ?_
  refine j_iconst hC (v := (1 : Int32)) rfl (dOk_at dt_L_law_19 11 rfl) ?_
  refine j_iadd hC (dOk_at dt_L_law_19 12 rfl) ?_
  refine j_xiald hC (f := xs) hT (dOk_at dt_L_law_19 13 rfl) ?_
  refine j_xaload_n hC 0 rfl rfl (dOk_at dt_L_law_19 14 rfl) ?_
  refine j_iload hC 4 rfl (dOk_at dt_L_law_19 15 rfl) ?_
  refine j_iconst hC (v := (2 : Int32)) rfl (dOk_at dt_L_law_19 16 rfl) ?_
  refine j_iadd hC (dOk_at dt_L_law_19 17 rfl) ?_
  refine j_xiald hC (f := xs) hT (dOk_at dt_L_law_19 18 rfl) ?_
  refine j_xaload_n hC 0 rfl rfl (dOk_at dt_L_law_19 19 rfl) ?_
  refine j_iload hC 4 rfl (dOk_at dt_L_law_19 20 rfl) ?_
  refine j_iconst hC (v := (3 : Int32)) rfl (dOk_at dt_L_law_19 21 rfl) ?_
  refine j_iadd hC (dOk_at dt_L_law_19 22 rfl) ?_
  refine j_xiald hC (f := xs) hT (dOk_at dt_L_law_19 23 rfl) ?_
  refine j_xaload_n hC 0 rfl rfl (dOk_at dt_L_law_19 24 rfl) ?_
  refine j_iload hC 4 rfl (dOk_at dt_L_law_19 25 rfl) ?_
  refine j_iconst hC (v := (4 : Int32)) rfl (dOk_at dt_L_law_19 26 rfl) ?_
  refine j_iadd hC (dOk_at dt_L_law_19 27 rfl) ?_
  refine j_xiald hC (f := xs) hT (dOk_at dt_L_law_19 28 rfl) ?_
  refine j_if_eq hC (tgt := 1282) (by decide) (dOk_at dt_L_law_19 29 rfl) (fun _ => ?_) (fun _ => ?_)
  · refine j_iconst hC (v := (0 : Int32)) rfl (dOk_at dt_L_law_19 32 rfl) ?_
    refine j_callVi hC clL_149 (fun r0 hr0 => c_X9_see (by decide) _ _ _ _ _ r0 hr0) (show shp 0 = (9, 12) from rfl) (Nat.le_of_ble_eq_true rfl) (by decide) rfl rfl ⟨Nat.le_of_ble_eq_true rfl, Nat.le_of_ble_eq_true rfl⟩ ⟨by show _ ≤ 601024; omega, by show _ ≤ 7293033; omega⟩ (As := [.int (xs (Int32.toNatClampNeg ((nI i) + (1 : Int32)))), .int (xs (Int32.toNatClampNeg ((nI i) + (2 : Int32)))), .int (xs (Int32.toNatClampNeg ((nI i) + (3 : Int32)))), .int (0 : Int32)]) (st := []) rfl (Nat.le_of_ble_eq_true rfl) (dOk_at dt_L_law_19 33 rfl) (fun v_119 h_120 _ => ?_)
    refine j_aload_n hC 2 rfl rfl (dOk_at dt_L_law_19 34 rfl) ?_
    refine j_xaload_n hC 0 rfl rfl (dOk_at dt_L_law_19 35 rfl) ?_
    refine j_iload hC 4 rfl (dOk_at dt_L_law_19 36 rfl) ?_
    refine j_iconst hC (v := (1 : Int32)) rfl (dOk_at dt_L_law_19 37 rfl) ?_
    refine j_iadd hC (dOk_at dt_L_law_19 38 rfl) ?_
    refine j_xiald hC (f := xs) hT (dOk_at dt_L_law_19 39 rfl) ?_
    refine j_xaload_n hC 0 rfl rfl (dOk_at dt_L_law_20 0 rfl) ?_
    refine j_iload hC 4 rfl (dOk_at dt_L_law_20 1 rfl) ?_
    refine j_iconst hC (v := (2 : Int32)) rfl (dOk_at dt_L_law_20 2 rfl) ?_
    refine j_iadd hC (dOk_at dt_L_law_20 3 rfl) ?_
    refine j_xiald hC (f := xs) hT (dOk_at dt_L_law_20 4 rfl) ?_
    refine j_xaload_n hC 0 rfl rfl (dOk_at dt_L_law_20 5 rfl) ?_
    refine j_iload hC 4 rfl (dOk_at dt_L_law_20 6 rfl) ?_
    refine j_iconst hC (v := (3 : Int32)) rfl (dOk_at dt_L_law_20 7 rfl) ?_
    refine j_iadd hC (dOk_at dt_L_law_20 8 rfl) ?_
    refine j_xiald hC (f := xs) hT (dOk_at dt_L_law_20 9 rfl) ?_
    refine j_xaload_n hC 0 rfl rfl (dOk_at dt_L_law_20 10 rfl) ?_
    refine j_iload hC 4 rfl (dOk_at dt_L_law_20 11 rfl) ?_
    refine j_iconst hC (v := (4 : Int32)) rfl (dOk_at dt_L_law_20 12 rfl) ?_
    refine j_iadd hC (dOk_at dt_L_law_20 13 rfl) ?_
    refine j_xiald hC (f := xs) hT (dOk_at dt_L_law_20 14 rfl) ?_
    refine j_if_eq hC (tgt := 1318) (by decide) (dOk_at dt_L_law_20 15 rfl) (fun _ => ?_) (fun _ => ?_)
    · refine j_iconst hC (v := (0 : Int32)) rfl (dOk_at dt_L_law_20 18 rfl) ?_
      refine j_callVi hC clL_153 (fun r0 hr0 => c_X10_see (by decide) _ _ _ _ _ r0 hr0) (show shp 107 = (10, 88) from rfl) (Nat.le_of_ble_eq_true rfl) (by decide) rfl rfl ⟨Nat.le_of_ble_eq_true rfl, Nat.le_of_ble_eq_true rfl⟩ ⟨by show _ ≤ 601024; omega, by show _ ≤ 7293033; omega⟩ (As := [.int (xs (Int32.toNatClampNeg ((nI i) + (1 : Int32)))), .int (xs (Int32.toNatClampNeg ((nI i) + (2 : Int32)))), .int (xs (Int32.toNatClampNeg ((nI i) + (3 : Int32)))), .int (0 : Int32)]) (st := [.int v_119]) rfl (Nat.le_of_ble_eq_true rfl) (dOk_at dt_L_law_20 19 rfl) (fun v_121 h_122 _ => ?_)
      refine j_icmp_eq hC (tgt := 1601) (by decide) (dOk_at dt_L_law_20 20 rfl) (fun _ => ?_) (fun _ => ?_)
      · refine j_widen (kc' := 200 + 20 * (i + 6)) (ks' := 20000 + 300 * (i + 6)) (by omega) (by omega) ?_
        exact hk h_122
      · refine j_iconst hC (v := (0 : Int32)) rfl (dOk_at dt_L_law_20 21 rfl) ?_
        exact j_none
    · refine j_iconst hC (v := (1 : Int32)) rfl (dOk_at dt_L_law_20 16 rfl) ?_
      refine j_goto hC (tgt := 1319) (by decide) (dOk_at dt_L_law_20 17 rfl) ?_
      refine j_callVi hC clL_153 (fun r0 hr0 => c_X10_see (by decide) _ _ _ _ _ r0 hr0) (show shp 107 = (10, 88) from rfl) (Nat.le_of_ble_eq_true rfl) (by decide) rfl rfl ⟨Nat.le_of_ble_eq_true rfl, Nat.le_of_ble_eq_true rfl⟩ ⟨by show _ ≤ 601024; omega, by show _ ≤ 7293033; omega⟩ (As := [.int (xs (Int32.toNatClampNeg ((nI i) + (1 : Int32)))), .int (xs (Int32.toNatClampNeg ((nI i) + (2 : Int32)))), .int (xs (Int32.toNatClampNeg ((nI i) + (3 : Int32)))), .int (1 : Int32)]) (st := [.int v_119]) rfl (Nat.le_of_ble_eq_true rfl) (dOk_at dt_L_law_20 19 rfl) (fun v_123 h_124 _ => ?_)
      refine j_icmp_eq hC (tgt := 1601) (by decide) (dOk_at dt_L_law_20 20 rfl) (fun _ => ?_) (fun _ => ?_)
      · refine j_widen (kc' := 200 + 20 * (i + 6)) (ks' := 20000 + 300 * (i + 6)) (by omega) (by omega) ?_
        exact hk h_124
      · refine j_iconst hC (v := (0 : Int32)) rfl (dOk_at dt_L_law_20 21 rfl) ?_
        exact j_none
  · refine j_iconst hC (v := (1 : Int32)) rfl (dOk_at dt_L_law_19 30 rfl) ?_
    refine j_goto hC (tgt := 1283) (by decide) (dOk_at dt_L_law_19 31 rfl) ?_
    refine j_callVi hC clL_149 (fun r0 hr0 => c_X9_see (by decide) _ _ _ _ _ r0 hr0) (show shp 0 = (9, 12) from rfl) (Nat.le_of_ble_eq_true rfl) (by decide) rfl rfl ⟨Nat.le_of_ble_eq_true rfl, Nat.le_of_ble_eq_true rfl⟩ ⟨by show _ ≤ 601024; omega, by show _ ≤ 7293033; omega⟩ (As := [.int (xs (Int32.toNatClampNeg ((nI i) + (1 : Int32)))), .int (xs (Int32.toNatClampNeg ((nI i) + (2 : Int32)))), .int (xs (Int32.toNatClampNeg ((nI i) + (3 : Int32)))), .int (1 : Int32)]) (st := []) rfl (Nat.le_of_ble_eq_true rfl) (dOk_at dt_L_law_19 33 rfl) (fun v_125 h_126 _ => ?_)
    refine j_aload_n hC 2 rfl rfl (dOk_at dt_L_law_19 34 rfl) ?_
    refine j_xaload_n hC 0 rfl rfl (dOk_at dt_L_law_19 35 rfl) ?_
    refine j_iload hC 4 rfl (dOk_at dt_L_law_19 36 rfl) ?_
    refine j_iconst hC (v := (1 : Int32)) rfl (dOk_at dt_L_law_19 37 rfl) ?_
    refine j_iadd hC (dOk_at dt_L_law_19 38 rfl) ?_
    refine j_xiald hC (f := xs) hT (dOk_at dt_L_law_19 39 rfl) ?_
    refine j_xaload_n hC 0 rfl rfl (dOk_at dt_L_law_20 0 rfl) ?_
    refine j_iload hC 4 rfl (dOk_at dt_L_law_20 1 rfl) ?_
    refine j_iconst hC (v := (2 : Int32)) rfl (dOk_at dt_L_law_20 2 rfl) ?_
    refine j_iadd hC (dOk_at dt_L_law_20 3 rfl) ?_
    refine j_xiald hC (f := xs) hT (dOk_at dt_L_law_20 4 rfl) ?_
    refine j_xaload_n hC 0 rfl rfl (dOk_at dt_L_law_20 5 rfl) ?_
    refine j_iload hC 4 rfl (dOk_at dt_L_law_20 6 rfl) ?_
    refine j_iconst hC (v := (3 : Int32)) rfl (dOk_at dt_L_law_20 7 rfl) ?_
    refine j_iadd hC (dOk_at dt_L_law_20 8 rfl) ?_
    refine j_xiald hC (f := xs) hT (dOk_at dt_L_law_20 9 rfl) ?_
    refine j_xaload_n hC 0 rfl rfl (dOk_at dt_L_law_20 10 rfl) ?_
    refine j_iload hC 4 rfl (dOk_at dt_L_law_20 11 rfl) ?_
    refine j_iconst hC (v := (4 : Int32)) rfl (dOk_at dt_L_law_20 12 rfl) ?_
    refine j_iadd hC (dOk_at dt_L_law_20 13 rfl) ?_
    refine j_xiald hC (f := xs) hT (dOk_at dt_L_law_20 14 rfl) ?_
    refine j_if_eq hC (tgt := 1318) (by decide) (dOk_at dt_L_law_20 15 rfl) (fun _ => ?_) (fun _ => ?_)
    · refine j_iconst hC (v := (0 : Int32)) rfl (dOk_at dt_L_law_20 18 rfl) ?_
      refine j_callVi hC clL_153 (fun r0 hr0 => c_X10_see (by decide) _ _ _ _ _ r0 hr0) (show shp 107 = (10, 88) from rfl) (Nat.le_of_ble_eq_true rfl) (by decide) rfl rfl ⟨Nat.le_of_ble_eq_true rfl, Nat.le_of_ble_eq_true rfl⟩ ⟨by show _ ≤ 601024; omega, by show _ ≤ 7293033; omega⟩ (As := [.int (xs (Int32.toNatClampNeg ((nI i) + (1 : Int32)))), .int (xs (Int32.toNatClampNeg ((nI i) + (2 : Int32)))), .int (xs (Int32.toNatClampNeg ((nI i) + (3 : Int32)))), .int (0 : Int32)]) (st := [.int v_125]) rfl (Nat.le_of_ble_eq_true rfl) (dOk_at dt_L_law_20 19 rfl) (fun v_127 h_128 _ => ?_)
      refine j_icmp_eq hC (tgt := 1601) (by decide) (dOk_at dt_L_law_20 20 rfl) (fun _ => ?_) (fun _ => ?_)
      · refine j_widen (kc' := 200 + 20 * (i + 6)) (ks' := 20000 + 300 * (i + 6)) (by omega) (by omega) ?_
        exact hk h_128
      · refine j_iconst hC (v := (0 : Int32)) rfl (dOk_at dt_L_law_20 21 rfl) ?_
        exact j_none
    · refine j_iconst hC (v := (1 : Int32)) rfl (dOk_at dt_L_law_20 16 rfl) ?_
      refine j_goto hC (tgt := 1319) (by decide) (dOk_at dt_L_law_20 17 rfl) ?_
      refine j_callVi hC clL_153 (fun r0 hr0 => c_X10_see (by decide) _ _ _ _ _ r0 hr0) (show shp 107 = (10, 88) from rfl) (Nat.le_of_ble_eq_true rfl) (by decide) rfl rfl ⟨Nat.le_of_ble_eq_true rfl, Nat.le_of_ble_eq_true rfl⟩ ⟨by show _ ≤ 601024; omega, by show _ ≤ 7293033; omega⟩ (As := [.int (xs (Int32.toNatClampNeg ((nI i) + (1 : Int32)))), .int (xs (Int32.toNatClampNeg ((nI i) + (2 : Int32)))), .int (xs (Int32.toNatClampNeg ((nI i) + (3 : Int32)))), .int (1 : Int32)]) (st := [.int v_125]) rfl (Nat.le_of_ble_eq_true rfl) (dOk_at dt_L_law_20 19 rfl) (fun v_129 h_130 _ => ?_)
      refine j_icmp_eq hC (tgt := 1601) (by decide) (dOk_at dt_L_law_20 20 rfl) (fun _ => ?_) (fun _ => ?_)
      · refine j_widen (kc' := 200 + 20 * (i + 6)) (ks' := 20000 + 300 * (i + 6)) (by omega) (by omega) ?_
        exact hk h_130
      · refine j_iconst hC (v := (0 : Int32)) rfl (dOk_at dt_L_law_20 21 rfl) ?_
        exact j_none
def fLc_30 (L : Nat) (xs : Nat → Int32) (k : Hp → Option Unit) (h : Hp) (i : Nat) : Option Unit := if inb ((nI i) + (1 : Int32)) L then (bnd (fX9_strike h (xs (Int32.toNatClampNeg ((nI i) + (1 : Int32))))) (fun v_131 h_132 => if inb ((nI i) + (1 : Int32)) L then (bnd (fX10_strike h_132 (xs (Int32.toNatClampNeg ((nI i) + (1 : Int32))))) (fun v_133 h_134 => if v_131 = v_133 then (k h_134) else none)) else none)) else none
set_option maxRecDepth 100000 in
set_option maxHeartbeats 4000000 in
theorem cLc_30 {p : Program} {l : Launch} {e : Env} {s : State} {m : MethodId} {below : List Frame} {meth : Method} {c : Code} {D : va_G} {ids : Nat → ClassId} {b L : Nat} {xs : Nat → Int32} (hC : jC p s m #[Value.ref b] meth c code RL 7 s D ids) (hG : jG s) (hT : va_T .int b L (fun j => .int (xs j)) (jA s) s s.heap) (k : Hp → Option Unit) (h : Hp) (i : Nat) (hi : i ≤ 3072) (hk : ∀ h : Hp, jJ p l e room_1 s m #[Value.ref b] below meth c 7 s D ids shp St (fun (_ : Unit) => lw_Z below #[Value.ref b] s) 153 (200 + 20 * (i + 6)) (20000 + 300 * (i + 6)) h 1601 [(0, .retAddr b), (1, .ref 0), (2, .ref 107), (3, .ref 152), (4, .int (nI i))] [] (k h)) : jJ p l e room_1 s m #[Value.ref b] below meth c 7 s D ids shp St (fun (_ : Unit) => lw_Z below #[Value.ref b] s) 153 (200 + 20 * i) (20000 + 300 * i) h 1327 [(0, .retAddr b), (1, .ref 0), (2, .ref 107), (3, .ref 152), (4, .int (nI i))] [] (fLc_30 L xs k h i) := by
  unfold fLc_30
  refine j_aload_n hC 1 rfl rfl (dOk_at dt_L_law_20 23 rfl) ?_
  refine j_xaload_n hC 0 rfl rfl (dOk_at dt_L_law_20 24 rfl) ?_
  refine j_iload hC 4 rfl (dOk_at dt_L_law_20 25 rfl) ?_
  refine j_iconst hC (v := (1 : Int32)) rfl (dOk_at dt_L_law_20 26 rfl) ?_
  refine j_iadd hC (dOk_at dt_L_law_20 27 rfl) ?_
  refine j_xiald hC (f := xs) hT (dOk_at dt_L_law_20 28 rfl) ?_
  refine j_callVi hC clL_154 (fun r0 hr0 => c_X9_strike (by decide) _ _ r0 hr0) (show shp 0 = (9, 12) from rfl) (Nat.le_of_ble_eq_true rfl) (by decide) rfl rfl ⟨Nat.le_of_ble_eq_true rfl, Nat.le_of_ble_eq_true rfl⟩ ⟨by show _ ≤ 601024; omega, by show _ ≤ 7293033; omega⟩ (As := [.int (xs (Int32.toNatClampNeg ((nI i) + (1 : Int32))))]) (st := []) rfl (Nat.le_of_ble_eq_true rfl) (dOk_at dt_L_law_20 29 rfl) (fun v_131 h_132 _ => ?_)
  refine j_aload_n hC 2 rfl rfl (dOk_at dt_L_law_20 30 rfl) ?_
  refine j_xaload_n hC 0 rfl rfl (dOk_at dt_L_law_20 31 rfl) ?_
  refine j_iload hC 4 rfl (dOk_at dt_L_law_20 32 rfl) ?_
  refine j_iconst hC (v := (1 : Int32)) rfl (dOk_at dt_L_law_20 33 rfl) ?_
  refine j_iadd hC (dOk_at dt_L_law_20 34 rfl) ?_
  refine j_xiald hC (f := xs) hT (dOk_at dt_L_law_20 35 rfl) ?_
  refine j_callVi hC clL_157 (fun r0 hr0 => c_X10_strike (by decide) _ _ r0 hr0) (show shp 107 = (10, 88) from rfl) (Nat.le_of_ble_eq_true rfl) (by decide) rfl rfl ⟨Nat.le_of_ble_eq_true rfl, Nat.le_of_ble_eq_true rfl⟩ ⟨by show _ ≤ 601024; omega, by show _ ≤ 7293033; omega⟩ (As := [.int (xs (Int32.toNatClampNeg ((nI i) + (1 : Int32))))]) (st := [.int v_131]) rfl (Nat.le_of_ble_eq_true rfl) (dOk_at dt_L_law_20 36 rfl) (fun v_133 h_134 _ => ?_)
  refine j_icmp_eq hC (tgt := 1601) (by decide) (dOk_at dt_L_law_20 37 rfl) (fun _ => ?_) (fun _ => ?_)
  · refine j_widen (kc' := 200 + 20 * (i + 6)) (ks' := 20000 + 300 * (i + 6)) (by omega) (by omega) ?_
    exact hk h_134
  · refine j_iconst hC (v := (0 : Int32)) rfl (dOk_at dt_L_law_20 38 rfl) ?_
    exact j_none
def fLc_31 (L : Nat) (xs : Nat → Int32) (k : Hp → Option Unit) (h : Hp) (i : Nat) : Option Unit := if inb ((nI i) + (1 : Int32)) L then (bnd (fX9_known h (xs (Int32.toNatClampNeg ((nI i) + (1 : Int32))))) (fun v_135 h_136 => if inb ((nI i) + (1 : Int32)) L then (bnd (fX10_known h_136 (xs (Int32.toNatClampNeg ((nI i) + (1 : Int32))))) (fun v_137 h_138 => if v_135 = v_137 then (k h_138) else none)) else none)) else none
set_option maxRecDepth 100000 in
set_option maxHeartbeats 4000000 in
theorem cLc_31 {p : Program} {l : Launch} {e : Env} {s : State} {m : MethodId} {below : List Frame} {meth : Method} {c : Code} {D : va_G} {ids : Nat → ClassId} {b L : Nat} {xs : Nat → Int32} (hC : jC p s m #[Value.ref b] meth c code RL 7 s D ids) (hG : jG s) (hT : va_T .int b L (fun j => .int (xs j)) (jA s) s s.heap) (k : Hp → Option Unit) (h : Hp) (i : Nat) (hi : i ≤ 3072) (hk : ∀ h : Hp, jJ p l e room_1 s m #[Value.ref b] below meth c 7 s D ids shp St (fun (_ : Unit) => lw_Z below #[Value.ref b] s) 153 (200 + 20 * (i + 6)) (20000 + 300 * (i + 6)) h 1601 [(0, .retAddr b), (1, .ref 0), (2, .ref 107), (3, .ref 152), (4, .int (nI i))] [] (k h)) : jJ p l e room_1 s m #[Value.ref b] below meth c 7 s D ids shp St (fun (_ : Unit) => lw_Z below #[Value.ref b] s) 153 (200 + 20 * i) (20000 + 300 * i) h 1352 [(0, .retAddr b), (1, .ref 0), (2, .ref 107), (3, .ref 152), (4, .int (nI i))] [] (fLc_31 L xs k h i) := by
  unfold fLc_31
  refine j_aload_n hC 1 rfl rfl (dOk_at dt_L_law_21 0 rfl) ?_
  refine j_xaload_n hC 0 rfl rfl (dOk_at dt_L_law_21 1 rfl) ?_
  refine j_iload hC 4 rfl (dOk_at dt_L_law_21 2 rfl) ?_
  refine j_iconst hC (v := (1 : Int32)) rfl (dOk_at dt_L_law_21 3 rfl) ?_
  refine j_iadd hC (dOk_at dt_L_law_21 4 rfl) ?_
  refine j_xiald hC (f := xs) hT (dOk_at dt_L_law_21 5 rfl) ?_
  refine j_callVi hC clL_158 (fun r0 hr0 => c_X9_known (by decide) _ _ r0 hr0) (show shp 0 = (9, 12) from rfl) (Nat.le_of_ble_eq_true rfl) (by decide) rfl rfl ⟨Nat.le_of_ble_eq_true rfl, Nat.le_of_ble_eq_true rfl⟩ ⟨by show _ ≤ 601024; omega, by show _ ≤ 7293033; omega⟩ (As := [.int (xs (Int32.toNatClampNeg ((nI i) + (1 : Int32))))]) (st := []) rfl (Nat.le_of_ble_eq_true rfl) (dOk_at dt_L_law_21 6 rfl) (fun v_135 h_136 _ => ?_)
  refine j_aload_n hC 2 rfl rfl (dOk_at dt_L_law_21 7 rfl) ?_
  refine j_xaload_n hC 0 rfl rfl (dOk_at dt_L_law_21 8 rfl) ?_
  refine j_iload hC 4 rfl (dOk_at dt_L_law_21 9 rfl) ?_
  refine j_iconst hC (v := (1 : Int32)) rfl (dOk_at dt_L_law_21 10 rfl) ?_
  refine j_iadd hC (dOk_at dt_L_law_21 11 rfl) ?_
  refine j_xiald hC (f := xs) hT (dOk_at dt_L_law_21 12 rfl) ?_
  refine j_callVi hC clL_162 (fun r0 hr0 => c_X10_known (by decide) _ _ r0 hr0) (show shp 107 = (10, 88) from rfl) (Nat.le_of_ble_eq_true rfl) (by decide) rfl rfl ⟨Nat.le_of_ble_eq_true rfl, Nat.le_of_ble_eq_true rfl⟩ ⟨by show _ ≤ 601024; omega, by show _ ≤ 7293033; omega⟩ (As := [.int (xs (Int32.toNatClampNeg ((nI i) + (1 : Int32))))]) (st := [.int v_135]) rfl (Nat.le_of_ble_eq_true rfl) (dOk_at dt_L_law_21 13 rfl) (fun v_137 h_138 _ => ?_)
  refine j_icmp_eq hC (tgt := 1601) (by decide) (dOk_at dt_L_law_21 14 rfl) (fun _ => ?_) (fun _ => ?_)
  · refine j_widen (kc' := 200 + 20 * (i + 6)) (ks' := 20000 + 300 * (i + 6)) (by omega) (by omega) ?_
    exact hk h_138
  · refine j_iconst hC (v := (0 : Int32)) rfl (dOk_at dt_L_law_21 15 rfl) ?_
    exact j_none
def fLc_32 (L : Nat) (xs : Nat → Int32) (k : Hp → Option Unit) (h : Hp) (i : Nat) : Option Unit := if inb ((nI i) + (1 : Int32)) L then (bnd (fX9_held h (xs (Int32.toNatClampNeg ((nI i) + (1 : Int32))))) (fun v_139 h_140 => if inb ((nI i) + (1 : Int32)) L then (bnd (fX10_held h_140 (xs (Int32.toNatClampNeg ((nI i) + (1 : Int32))))) (fun v_141 h_142 => if v_139 = v_141 then (k h_142) else none)) else none)) else none
set_option maxRecDepth 100000 in
set_option maxHeartbeats 4000000 in
theorem cLc_32 {p : Program} {l : Launch} {e : Env} {s : State} {m : MethodId} {below : List Frame} {meth : Method} {c : Code} {D : va_G} {ids : Nat → ClassId} {b L : Nat} {xs : Nat → Int32} (hC : jC p s m #[Value.ref b] meth c code RL 7 s D ids) (hG : jG s) (hT : va_T .int b L (fun j => .int (xs j)) (jA s) s s.heap) (k : Hp → Option Unit) (h : Hp) (i : Nat) (hi : i ≤ 3072) (hk : ∀ h : Hp, jJ p l e room_1 s m #[Value.ref b] below meth c 7 s D ids shp St (fun (_ : Unit) => lw_Z below #[Value.ref b] s) 153 (200 + 20 * (i + 6)) (20000 + 300 * (i + 6)) h 1601 [(0, .retAddr b), (1, .ref 0), (2, .ref 107), (3, .ref 152), (4, .int (nI i))] [] (k h)) : jJ p l e room_1 s m #[Value.ref b] below meth c 7 s D ids shp St (fun (_ : Unit) => lw_Z below #[Value.ref b] s) 153 (200 + 20 * i) (20000 + 300 * i) h 1377 [(0, .retAddr b), (1, .ref 0), (2, .ref 107), (3, .ref 152), (4, .int (nI i))] [] (fLc_32 L xs k h i) := by
  unfold fLc_32
  refine j_aload_n hC 1 rfl rfl (dOk_at dt_L_law_21 17 rfl) ?_
  refine j_xaload_n hC 0 rfl rfl (dOk_at dt_L_law_21 18 rfl) ?_
  refine j_iload hC 4 rfl (dOk_at dt_L_law_21 19 rfl) ?_
  refine j_iconst hC (v := (1 : Int32)) rfl (dOk_at dt_L_law_21 20 rfl) ?_
  refine j_iadd hC (dOk_at dt_L_law_21 21 rfl) ?_
  refine j_xiald hC (f := xs) hT (dOk_at dt_L_law_21 22 rfl) ?_
  refine j_callVi hC clL_163 (fun r0 hr0 => c_X9_held (by decide) _ _ r0 hr0) (show shp 0 = (9, 12) from rfl) (Nat.le_of_ble_eq_true rfl) (by decide) rfl rfl ⟨Nat.le_of_ble_eq_true rfl, Nat.le_of_ble_eq_true rfl⟩ ⟨by show _ ≤ 601024; omega, by show _ ≤ 7293033; omega⟩ (As := [.int (xs (Int32.toNatClampNeg ((nI i) + (1 : Int32))))]) (st := []) rfl (Nat.le_of_ble_eq_true rfl) (dOk_at dt_L_law_21 23 rfl) (fun v_139 h_140 _ => ?_)
  refine j_aload_n hC 2 rfl rfl (dOk_at dt_L_law_21 24 rfl) ?_
  refine j_xaload_n hC 0 rfl rfl (dOk_at dt_L_law_21 25 rfl) ?_
  refine j_iload hC 4 rfl (dOk_at dt_L_law_21 26 rfl) ?_
  refine j_iconst hC (v := (1 : Int32)) rfl (dOk_at dt_L_law_21 27 rfl) ?_
  refine j_iadd hC (dOk_at dt_L_law_21 28 rfl) ?_
  refine j_xiald hC (f := xs) hT (dOk_at dt_L_law_21 29 rfl) ?_
  refine j_callVi hC clL_166 (fun r0 hr0 => c_X10_held (by decide) _ _ r0 hr0) (show shp 107 = (10, 88) from rfl) (Nat.le_of_ble_eq_true rfl) (by decide) rfl rfl ⟨Nat.le_of_ble_eq_true rfl, Nat.le_of_ble_eq_true rfl⟩ ⟨by show _ ≤ 601024; omega, by show _ ≤ 7293033; omega⟩ (As := [.int (xs (Int32.toNatClampNeg ((nI i) + (1 : Int32))))]) (st := [.int v_139]) rfl (Nat.le_of_ble_eq_true rfl) (dOk_at dt_L_law_21 30 rfl) (fun v_141 h_142 _ => ?_)
  refine j_icmp_eq hC (tgt := 1601) (by decide) (dOk_at dt_L_law_21 31 rfl) (fun _ => ?_) (fun _ => ?_)
  · refine j_widen (kc' := 200 + 20 * (i + 6)) (ks' := 20000 + 300 * (i + 6)) (by omega) (by omega) ?_
    exact hk h_142
  · refine j_iconst hC (v := (0 : Int32)) rfl (dOk_at dt_L_law_21 32 rfl) ?_
    exact j_none
def fLc_33 (L : Nat) (xs : Nat → Int32) (k : Hp → Option Unit) (h : Hp) (i : Nat) : Option Unit := if inb ((nI i) + (1 : Int32)) L then (if inb ((nI i) + (2 : Int32)) L then (bnd (fX9_ask h (xs (Int32.toNatClampNeg ((nI i) + (1 : Int32)))) (xs (Int32.toNatClampNeg ((nI i) + (2 : Int32))))) (fun v_143 h_144 => if inb ((nI i) + (1 : Int32)) L then (if inb ((nI i) + (2 : Int32)) L then (bnd (fX10_ask h_144 (xs (Int32.toNatClampNeg ((nI i) + (1 : Int32)))) (xs (Int32.toNatClampNeg ((nI i) + (2 : Int32))))) (fun v_145 h_146 => if v_143 = v_145 then (k h_146) else none)) else none) else none)) else none) else none
set_option maxRecDepth 100000 in
set_option maxHeartbeats 4000000 in
theorem cLc_33 {p : Program} {l : Launch} {e : Env} {s : State} {m : MethodId} {below : List Frame} {meth : Method} {c : Code} {D : va_G} {ids : Nat → ClassId} {b L : Nat} {xs : Nat → Int32} (hC : jC p s m #[Value.ref b] meth c code RL 7 s D ids) (hG : jG s) (hT : va_T .int b L (fun j => .int (xs j)) (jA s) s s.heap) (k : Hp → Option Unit) (h : Hp) (i : Nat) (hi : i ≤ 3072) (hk : ∀ h : Hp, jJ p l e room_1 s m #[Value.ref b] below meth c 7 s D ids shp St (fun (_ : Unit) => lw_Z below #[Value.ref b] s) 153 (200 + 20 * (i + 6)) (20000 + 300 * (i + 6)) h 1601 [(0, .retAddr b), (1, .ref 0), (2, .ref 107), (3, .ref 152), (4, .int (nI i))] [] (k h)) : jJ p l e room_1 s m #[Value.ref b] below meth c 7 s D ids shp St (fun (_ : Unit) => lw_Z below #[Value.ref b] s) 153 (200 + 20 * i) (20000 + 300 * i) h 1402 [(0, .retAddr b), (1, .ref 0), (2, .ref 107), (3, .ref 152), (4, .int (nI i))] [] (fLc_33 L xs k h i) := by
  unfold fLc_33
  refine j_aload_n hC 1 rfl rfl (dOk_at dt_L_law_21 34 rfl) ?_
  refine j_xaload_n hC 0 rfl rfl (dOk_at dt_L_law_21 35 rfl) ?_
  refine j_iload hC 4 rfl (dOk_at dt_L_law_21 36 rfl) ?_
  refine j_iconst hC (v := (1 : Int32)) rfl (dOk_at dt_L_law_21 37 rfl) ?_
  refine j_iadd hC (dOk_at dt_L_law_21 38 rfl) ?_
  refine j_xiald hC (f := xs) hT (dOk_at dt_L_law_21 39 rfl) ?_
  refine j_xaload_n hC 0 rfl rfl (dOk_at dt_L_law_22 0 rfl) ?_
  refine j_iload hC 4 rfl (dOk_at dt_L_law_22 1 rfl) ?_
  refine j_iconst hC (v := (2 : Int32)) rfl (dOk_at dt_L_law_22 2 rfl) ?_
  refine j_iadd hC (dOk_at dt_L_law_22 3 rfl) ?_
  refine j_xiald hC (f := xs) hT (dOk_at dt_L_law_22 4 rfl) ?_
  refine j_callVi hC clL_167 (fun r0 hr0 => c_X9_ask (by decide) _ _ _ r0 hr0) (show shp 0 = (9, 12) from rfl) (Nat.le_of_ble_eq_true rfl) (by decide) rfl rfl ⟨Nat.le_of_ble_eq_true rfl, Nat.le_of_ble_eq_true rfl⟩ ⟨by show _ ≤ 601024; omega, by show _ ≤ 7293033; omega⟩ (As := [.int (xs (Int32.toNatClampNeg ((nI i) + (1 : Int32)))), .int (xs (Int32.toNatClampNeg ((nI i) + (2 : Int32))))]) (st := []) rfl (Nat.le_of_ble_eq_true rfl) (dOk_at dt_L_law_22 5 rfl) (fun v_143 h_144 _ => ?_)
  refine j_aload_n hC 2 rfl rfl (dOk_at dt_L_law_22 6 rfl) ?_
  refine j_xaload_n hC 0 rfl rfl (dOk_at dt_L_law_22 7 rfl) ?_
  refine j_iload hC 4 rfl (dOk_at dt_L_law_22 8 rfl) ?_
  refine j_iconst hC (v := (1 : Int32)) rfl (dOk_at dt_L_law_22 9 rfl) ?_
  refine j_iadd hC (dOk_at dt_L_law_22 10 rfl) ?_
  refine j_xiald hC (f := xs) hT (dOk_at dt_L_law_22 11 rfl) ?_
  refine j_xaload_n hC 0 rfl rfl (dOk_at dt_L_law_22 12 rfl) ?_
  refine j_iload hC 4 rfl (dOk_at dt_L_law_22 13 rfl) ?_
  refine j_iconst hC (v := (2 : Int32)) rfl (dOk_at dt_L_law_22 14 rfl) ?_
  refine j_iadd hC (dOk_at dt_L_law_22 15 rfl) ?_
  refine j_xiald hC (f := xs) hT (dOk_at dt_L_law_22 16 rfl) ?_
  refine j_callVi hC clL_170 (fun r0 hr0 => c_X10_ask (by decide) _ _ _ r0 hr0) (show shp 107 = (10, 88) from rfl) (Nat.le_of_ble_eq_true rfl) (by decide) rfl rfl ⟨Nat.le_of_ble_eq_true rfl, Nat.le_of_ble_eq_true rfl⟩ ⟨by show _ ≤ 601024; omega, by show _ ≤ 7293033; omega⟩ (As := [.int (xs (Int32.toNatClampNeg ((nI i) + (1 : Int32)))), .int (xs (Int32.toNatClampNeg ((nI i) + (2 : Int32))))]) (st := [.int v_143]) rfl (Nat.le_of_ble_eq_true rfl) (dOk_at dt_L_law_22 17 rfl) (fun v_145 h_146 _ => ?_)
  refine j_icmp_eq hC (tgt := 1601) (by decide) (dOk_at dt_L_law_22 18 rfl) (fun _ => ?_) (fun _ => ?_)
  · refine j_widen (kc' := 200 + 20 * (i + 6)) (ks' := 20000 + 300 * (i + 6)) (by omega) (by omega) ?_
    exact hk h_146
  · refine j_iconst hC (v := (0 : Int32)) rfl (dOk_at dt_L_law_22 19 rfl) ?_
    exact j_none
def fLc_34 (L : Nat) (xs : Nat → Int32) (k : Hp → Option Unit) (h : Hp) (i : Nat) : Option Unit := if inb ((nI i) + (1 : Int32)) L then (if inb ((nI i) + (2 : Int32)) L then (if inb ((nI i) + (3 : Int32)) L then (bnd (fX9_chance h (xs (Int32.toNatClampNeg ((nI i) + (1 : Int32)))) (xs (Int32.toNatClampNeg ((nI i) + (2 : Int32)))) (xs (Int32.toNatClampNeg ((nI i) + (3 : Int32))))) (fun v_147 h_148 => if inb ((nI i) + (1 : Int32)) L then (if inb ((nI i) + (2 : Int32)) L then (if inb ((nI i) + (3 : Int32)) L then (bnd (fX10_chance h_148 (xs (Int32.toNatClampNeg ((nI i) + (1 : Int32)))) (xs (Int32.toNatClampNeg ((nI i) + (2 : Int32)))) (xs (Int32.toNatClampNeg ((nI i) + (3 : Int32))))) (fun v_149 h_150 => if v_147 = v_149 then (k h_150) else none)) else none) else none) else none)) else none) else none) else none
set_option maxRecDepth 100000 in
set_option maxHeartbeats 4000000 in
theorem cLc_34 {p : Program} {l : Launch} {e : Env} {s : State} {m : MethodId} {below : List Frame} {meth : Method} {c : Code} {D : va_G} {ids : Nat → ClassId} {b L : Nat} {xs : Nat → Int32} (hC : jC p s m #[Value.ref b] meth c code RL 7 s D ids) (hG : jG s) (hT : va_T .int b L (fun j => .int (xs j)) (jA s) s s.heap) (k : Hp → Option Unit) (h : Hp) (i : Nat) (hi : i ≤ 3072) (hk : ∀ h : Hp, jJ p l e room_1 s m #[Value.ref b] below meth c 7 s D ids shp St (fun (_ : Unit) => lw_Z below #[Value.ref b] s) 153 (200 + 20 * (i + 6)) (20000 + 300 * (i + 6)) h 1601 [(0, .retAddr b), (1, .ref 0), (2, .ref 107), (3, .ref 152), (4, .int (nI i))] [] (k h)) : jJ p l e room_1 s m #[Value.ref b] below meth c 7 s D ids shp St (fun (_ : Unit) => lw_Z below #[Value.ref b] s) 153 (200 + 20 * i) (20000 + 300 * i) h 1439 [(0, .retAddr b), (1, .ref 0), (2, .ref 107), (3, .ref 152), (4, .int (nI i))] [] (fLc_34 L xs k h i) := by
  unfold fLc_34
  refine j_aload_n hC 1 rfl rfl (dOk_at dt_L_law_22 21 rfl) ?_
  refine j_xaload_n hC 0 rfl rfl (dOk_at dt_L_law_22 22 rfl) ?_
  refine j_iload hC 4 rfl (dOk_at dt_L_law_22 23 rfl) ?_
  refine j_iconst hC (v := (1 : Int32)) rfl (dOk_at dt_L_law_22 24 rfl) ?_
  refine j_iadd hC (dOk_at dt_L_law_22 25 rfl) ?_
  refine j_xiald hC (f := xs) hT (dOk_at dt_L_law_22 26 rfl) ?_
  refine j_xaload_n hC 0 rfl rfl (dOk_at dt_L_law_22 27 rfl) ?_
  refine j_iload hC 4 rfl (dOk_at dt_L_law_22 28 rfl) ?_
  refine j_iconst hC (v := (2 : Int32)) rfl (dOk_at dt_L_law_22 29 rfl) ?_
  refine j_iadd hC (dOk_at dt_L_law_22 30 rfl) ?_
  refine j_xiald hC (f := xs) hT (dOk_at dt_L_law_22 31 rfl) ?_
  refine j_xaload_n hC 0 rfl rfl (dOk_at dt_L_law_22 32 rfl) ?_
  refine j_iload hC 4 rfl (dOk_at dt_L_law_22 33 rfl) ?_
  refine j_iconst hC (v := (3 : Int32)) rfl (dOk_at dt_L_law_22 34 rfl) ?_
  refine j_iadd hC (dOk_at dt_L_law_22 35 rfl) ?_
  refine j_xiald hC (f := xs) hT (dOk_at dt_L_law_22 36 rfl) ?_
  refine j_callVi hC clL_171 (fun r0 hr0 => c_X9_chance (by decide) _ _ _ _ r0 hr0) (show shp 0 = (9, 12) from rfl) (Nat.le_of_ble_eq_true rfl) (by decide) rfl rfl ⟨Nat.le_of_ble_eq_true rfl, Nat.le_of_ble_eq_true rfl⟩ ⟨by show _ ≤ 601024; omega, by show _ ≤ 7293033; omega⟩ (As := [.int (xs (Int32.toNatClampNeg ((nI i) + (1 : Int32)))), .int (xs (Int32.toNatClampNeg ((nI i) + (2 : Int32)))), .int (xs (Int32.toNatClampNeg ((nI i) + (3 : Int32))))]) (st := []) rfl (Nat.le_of_ble_eq_true rfl) (dOk_at dt_L_law_22 37 rfl) (fun v_147 h_148 _ => ?_)
  refine j_aload_n hC 2 rfl rfl (dOk_at dt_L_law_22 38 rfl) ?_
  refine j_xaload_n hC 0 rfl rfl (dOk_at dt_L_law_22 39 rfl) ?_
  refine j_iload hC 4 rfl (dOk_at dt_L_law_23 0 rfl) ?_
  refine j_iconst hC (v := (1 : Int32)) rfl (dOk_at dt_L_law_23 1 rfl) ?_
  refine j_iadd hC (dOk_at dt_L_law_23 2 rfl) ?_
  refine j_xiald hC (f := xs) hT (dOk_at dt_L_law_23 3 rfl) ?_
  refine j_xaload_n hC 0 rfl rfl (dOk_at dt_L_law_23 4 rfl) ?_
  refine j_iload hC 4 rfl (dOk_at dt_L_law_23 5 rfl) ?_
  refine j_iconst hC (v := (2 : Int32)) rfl (dOk_at dt_L_law_23 6 rfl) ?_
  refine j_iadd hC (dOk_at dt_L_law_23 7 rfl) ?_
  refine j_xiald hC (f := xs) hT (dOk_at dt_L_law_23 8 rfl) ?_
  refine j_xaload_n hC 0 rfl rfl (dOk_at dt_L_law_23 9 rfl) ?_
  refine j_iload hC 4 rfl (dOk_at dt_L_law_23 10 rfl) ?_
  refine j_iconst hC (v := (3 : Int32)) rfl (dOk_at dt_L_law_23 11 rfl) ?_
  refine j_iadd hC (dOk_at dt_L_law_23 12 rfl) ?_
  refine j_xiald hC (f := xs) hT (dOk_at dt_L_law_23 13 rfl) ?_
  refine j_callVi hC clL_174 (fun r0 hr0 => c_X10_chance (by decide) _ _ _ _ r0 hr0) (show shp 107 = (10, 88) from rfl) (Nat.le_of_ble_eq_true rfl) (by decide) rfl rfl ⟨Nat.le_of_ble_eq_true rfl, Nat.le_of_ble_eq_true rfl⟩ ⟨by show _ ≤ 601024; omega, by show _ ≤ 7293033; omega⟩ (As := [.int (xs (Int32.toNatClampNeg ((nI i) + (1 : Int32)))), .int (xs (Int32.toNatClampNeg ((nI i) + (2 : Int32)))), .int (xs (Int32.toNatClampNeg ((nI i) + (3 : Int32))))]) (st := [.int v_147]) rfl (Nat.le_of_ble_eq_true rfl) (dOk_at dt_L_law_23 14 rfl) (fun v_149 h_150 _ => ?_)
  refine j_icmp_eq hC (tgt := 1601) (by decide) (dOk_at dt_L_law_23 15 rfl) (fun _ => ?_) (fun _ => ?_)
  · refine j_widen (kc' := 200 + 20 * (i + 6)) (ks' := 20000 + 300 * (i + 6)) (by omega) (by omega) ?_
    exact hk h_150
  · refine j_iconst hC (v := (0 : Int32)) rfl (dOk_at dt_L_law_23 16 rfl) ?_
    exact j_none
def fLc_35 (L : Nat) (xs : Nat → Int32) (k : Hp → Option Unit) (h : Hp) (i : Nat) : Option Unit := if inb ((nI i) + (1 : Int32)) L then (if inb ((nI i) + (2 : Int32)) L then (if inb ((nI i) + (3 : Int32)) L then (bnd (fX9_tried h (xs (Int32.toNatClampNeg ((nI i) + (1 : Int32)))) (xs (Int32.toNatClampNeg ((nI i) + (2 : Int32)))) (xs (Int32.toNatClampNeg ((nI i) + (3 : Int32))))) (fun v_151 h_152 => if inb ((nI i) + (1 : Int32)) L then (if inb ((nI i) + (2 : Int32)) L then (if inb ((nI i) + (3 : Int32)) L then (bnd (fX10_tried h_152 (xs (Int32.toNatClampNeg ((nI i) + (1 : Int32)))) (xs (Int32.toNatClampNeg ((nI i) + (2 : Int32)))) (xs (Int32.toNatClampNeg ((nI i) + (3 : Int32))))) (fun v_153 h_154 => if v_151 = v_153 then (k h_154) else none)) else none) else none) else none)) else none) else none) else none
set_option maxRecDepth 100000 in
set_option maxHeartbeats 4000000 in
theorem cLc_35 {p : Program} {l : Launch} {e : Env} {s : State} {m : MethodId} {below : List Frame} {meth : Method} {c : Code} {D : va_G} {ids : Nat → ClassId} {b L : Nat} {xs : Nat → Int32} (hC : jC p s m #[Value.ref b] meth c code RL 7 s D ids) (hG : jG s) (hT : va_T .int b L (fun j => .int (xs j)) (jA s) s s.heap) (k : Hp → Option Unit) (h : Hp) (i : Nat) (hi : i ≤ 3072) (hk : ∀ h : Hp, jJ p l e room_1 s m #[Value.ref b] below meth c 7 s D ids shp St (fun (_ : Unit) => lw_Z below #[Value.ref b] s) 153 (200 + 20 * (i + 6)) (20000 + 300 * (i + 6)) h 1601 [(0, .retAddr b), (1, .ref 0), (2, .ref 107), (3, .ref 152), (4, .int (nI i))] [] (k h)) : jJ p l e room_1 s m #[Value.ref b] below meth c 7 s D ids shp St (fun (_ : Unit) => lw_Z below #[Value.ref b] s) 153 (200 + 20 * i) (20000 + 300 * i) h 1488 [(0, .retAddr b), (1, .ref 0), (2, .ref 107), (3, .ref 152), (4, .int (nI i))] [] (fLc_35 L xs k h i) := by
  unfold fLc_35
  refine j_aload_n hC 1 rfl rfl (dOk_at dt_L_law_23 18 rfl) ?_
  refine j_xaload_n hC 0 rfl rfl (dOk_at dt_L_law_23 19 rfl) ?_
  refine j_iload hC 4 rfl (dOk_at dt_L_law_23 20 rfl) ?_
  refine j_iconst hC (v := (1 : Int32)) rfl (dOk_at dt_L_law_23 21 rfl) ?_
  refine j_iadd hC (dOk_at dt_L_law_23 22 rfl) ?_
  refine j_xiald hC (f := xs) hT (dOk_at dt_L_law_23 23 rfl) ?_
  refine j_xaload_n hC 0 rfl rfl (dOk_at dt_L_law_23 24 rfl) ?_
  refine j_iload hC 4 rfl (dOk_at dt_L_law_23 25 rfl) ?_
  refine j_iconst hC (v := (2 : Int32)) rfl (dOk_at dt_L_law_23 26 rfl) ?_
  refine j_iadd hC (dOk_at dt_L_law_23 27 rfl) ?_
  refine j_xiald hC (f := xs) hT (dOk_at dt_L_law_23 28 rfl) ?_
  refine j_xaload_n hC 0 rfl rfl (dOk_at dt_L_law_23 29 rfl) ?_
  refine j_iload hC 4 rfl (dOk_at dt_L_law_23 30 rfl) ?_
  refine j_iconst hC (v := (3 : Int32)) rfl (dOk_at dt_L_law_23 31 rfl) ?_
  refine j_iadd hC (dOk_at dt_L_law_23 32 rfl) ?_
  refine j_xiald hC (f := xs) hT (dOk_at dt_L_law_23 33 rfl) ?_
  refine j_callVi hC clL_175 (fun r0 hr0 => c_X9_tried (by decide) _ _ _ _ r0 hr0) (show shp 0 = (9, 12) from rfl) (Nat.le_of_ble_eq_true rfl) (by decide) rfl rfl ⟨Nat.le_of_ble_eq_true rfl, Nat.le_of_ble_eq_true rfl⟩ ⟨by show _ ≤ 601024; omega, by show _ ≤ 7293033; omega⟩ (As := [.int (xs (Int32.toNatClampNeg ((nI i) + (1 : Int32)))), .int (xs (Int32.toNatClampNeg ((nI i) + (2 : Int32)))), .int (xs (Int32.toNatClampNeg ((nI i) + (3 : Int32))))]) (st := []) rfl (Nat.le_of_ble_eq_true rfl) (dOk_at dt_L_law_23 34 rfl) (fun v_151 h_152 _ => ?_)
  refine j_aload_n hC 2 rfl rfl (dOk_at dt_L_law_23 35 rfl) ?_
  refine j_xaload_n hC 0 rfl rfl (dOk_at dt_L_law_23 36 rfl) ?_
  refine j_iload hC 4 rfl (dOk_at dt_L_law_23 37 rfl) ?_
  refine j_iconst hC (v := (1 : Int32)) rfl (dOk_at dt_L_law_23 38 rfl) ?_
  refine j_iadd hC (dOk_at dt_L_law_23 39 rfl) ?_
  refine j_xiald hC (f := xs) hT (dOk_at dt_L_law_24 0 rfl) ?_
  refine j_xaload_n hC 0 rfl rfl (dOk_at dt_L_law_24 1 rfl) ?_
  refine j_iload hC 4 rfl (dOk_at dt_L_law_24 2 rfl) ?_
  refine j_iconst hC (v := (2 : Int32)) rfl (dOk_at dt_L_law_24 3 rfl) ?_
  refine j_iadd hC (dOk_at dt_L_law_24 4 rfl) ?_
  refine j_xiald hC (f := xs) hT (dOk_at dt_L_law_24 5 rfl) ?_
  refine j_xaload_n hC 0 rfl rfl (dOk_at dt_L_law_24 6 rfl) ?_
  refine j_iload hC 4 rfl (dOk_at dt_L_law_24 7 rfl) ?_
  refine j_iconst hC (v := (3 : Int32)) rfl (dOk_at dt_L_law_24 8 rfl) ?_
  refine j_iadd hC (dOk_at dt_L_law_24 9 rfl) ?_
  refine j_xiald hC (f := xs) hT (dOk_at dt_L_law_24 10 rfl) ?_
  refine j_callVi hC clL_178 (fun r0 hr0 => c_X10_tried (by decide) _ _ _ _ r0 hr0) (show shp 107 = (10, 88) from rfl) (Nat.le_of_ble_eq_true rfl) (by decide) rfl rfl ⟨Nat.le_of_ble_eq_true rfl, Nat.le_of_ble_eq_true rfl⟩ ⟨by show _ ≤ 601024; omega, by show _ ≤ 7293033; omega⟩ (As := [.int (xs (Int32.toNatClampNeg ((nI i) + (1 : Int32)))), .int (xs (Int32.toNatClampNeg ((nI i) + (2 : Int32)))), .int (xs (Int32.toNatClampNeg ((nI i) + (3 : Int32))))]) (st := [.int v_151]) rfl (Nat.le_of_ble_eq_true rfl) (dOk_at dt_L_law_24 11 rfl) (fun v_153 h_154 _ => ?_)
  refine j_icmp_eq hC (tgt := 1601) (by decide) (dOk_at dt_L_law_24 12 rfl) (fun _ => ?_) (fun _ => ?_)
  · refine j_widen (kc' := 200 + 20 * (i + 6)) (ks' := 20000 + 300 * (i + 6)) (by omega) (by omega) ?_
    exact hk h_154
  · refine j_iconst hC (v := (0 : Int32)) rfl (dOk_at dt_L_law_24 13 rfl) ?_
    exact j_none
def fLc_36 (L : Nat) (xs : Nat → Int32) (k : Hp → Option Unit) (h : Hp) (i : Nat) : Option Unit := bnd (fX9_undo h ) (fun v_155 h_156 => bnd (fX10_undo h_156 ) (fun v_157 h_158 => if v_155 = v_157 then (k h_158) else none))
set_option maxRecDepth 100000 in
set_option maxHeartbeats 4000000 in
theorem cLc_36 {p : Program} {l : Launch} {e : Env} {s : State} {m : MethodId} {below : List Frame} {meth : Method} {c : Code} {D : va_G} {ids : Nat → ClassId} {b L : Nat} {xs : Nat → Int32} (hC : jC p s m #[Value.ref b] meth c code RL 7 s D ids) (hG : jG s) (hT : va_T .int b L (fun j => .int (xs j)) (jA s) s s.heap) (k : Hp → Option Unit) (h : Hp) (i : Nat) (hi : i ≤ 3072) (hk : ∀ h : Hp, jJ p l e room_1 s m #[Value.ref b] below meth c 7 s D ids shp St (fun (_ : Unit) => lw_Z below #[Value.ref b] s) 153 (200 + 20 * (i + 6)) (20000 + 300 * (i + 6)) h 1601 [(0, .retAddr b), (1, .ref 0), (2, .ref 107), (3, .ref 152), (4, .int (nI i))] [] (k h)) : jJ p l e room_1 s m #[Value.ref b] below meth c 7 s D ids shp St (fun (_ : Unit) => lw_Z below #[Value.ref b] s) 153 (200 + 20 * i) (20000 + 300 * i) h 1537 [(0, .retAddr b), (1, .ref 0), (2, .ref 107), (3, .ref 152), (4, .int (nI i))] [] (fLc_36 L xs k h i) := by
  unfold fLc_36
  refine j_aload_n hC 1 rfl rfl (dOk_at dt_L_law_24 15 rfl) ?_
  refine j_callVi hC clL_179 (fun r0 hr0 => c_X9_undo (by decide) _ r0 hr0) (show shp 0 = (9, 12) from rfl) (Nat.le_of_ble_eq_true rfl) (by decide) rfl rfl ⟨Nat.le_of_ble_eq_true rfl, Nat.le_of_ble_eq_true rfl⟩ ⟨by show _ ≤ 601024; omega, by show _ ≤ 7293033; omega⟩ (As := []) (st := []) rfl (Nat.le_of_ble_eq_true rfl) (dOk_at dt_L_law_24 16 rfl) (fun v_155 h_156 _ => ?_)
  refine j_aload_n hC 2 rfl rfl (dOk_at dt_L_law_24 17 rfl) ?_
  refine j_callVi hC clL_182 (fun r0 hr0 => c_X10_undo (by decide) _ r0 hr0) (show shp 107 = (10, 88) from rfl) (Nat.le_of_ble_eq_true rfl) (by decide) rfl rfl ⟨Nat.le_of_ble_eq_true rfl, Nat.le_of_ble_eq_true rfl⟩ ⟨by show _ ≤ 601024; omega, by show _ ≤ 7293033; omega⟩ (As := []) (st := [.int v_155]) rfl (Nat.le_of_ble_eq_true rfl) (dOk_at dt_L_law_24 18 rfl) (fun v_157 h_158 _ => ?_)
  refine j_icmp_eq hC (tgt := 1601) (by decide) (dOk_at dt_L_law_24 19 rfl) (fun _ => ?_) (fun _ => ?_)
  · refine j_widen (kc' := 200 + 20 * (i + 6)) (ks' := 20000 + 300 * (i + 6)) (by omega) (by omega) ?_
    exact hk h_158
  · refine j_iconst hC (v := (0 : Int32)) rfl (dOk_at dt_L_law_24 20 rfl) ?_
    exact j_none
def fLc_37 (L : Nat) (xs : Nat → Int32) (k : Hp → Option Unit) (h : Hp) (i : Nat) : Option Unit := bnd (fX9_keep h ) (fun v_159 h_160 => bnd (fX10_keep h_160 ) (fun v_161 h_162 => if v_159 = v_161 then (k h_162) else none))
set_option maxRecDepth 100000 in
set_option maxHeartbeats 4000000 in
theorem cLc_37 {p : Program} {l : Launch} {e : Env} {s : State} {m : MethodId} {below : List Frame} {meth : Method} {c : Code} {D : va_G} {ids : Nat → ClassId} {b L : Nat} {xs : Nat → Int32} (hC : jC p s m #[Value.ref b] meth c code RL 7 s D ids) (hG : jG s) (hT : va_T .int b L (fun j => .int (xs j)) (jA s) s s.heap) (k : Hp → Option Unit) (h : Hp) (i : Nat) (hi : i ≤ 3072) (hk : ∀ h : Hp, jJ p l e room_1 s m #[Value.ref b] below meth c 7 s D ids shp St (fun (_ : Unit) => lw_Z below #[Value.ref b] s) 153 (200 + 20 * (i + 6)) (20000 + 300 * (i + 6)) h 1601 [(0, .retAddr b), (1, .ref 0), (2, .ref 107), (3, .ref 152), (4, .int (nI i))] [] (k h)) : jJ p l e room_1 s m #[Value.ref b] below meth c 7 s D ids shp St (fun (_ : Unit) => lw_Z below #[Value.ref b] s) 153 (200 + 20 * i) (20000 + 300 * i) h 1550 [(0, .retAddr b), (1, .ref 0), (2, .ref 107), (3, .ref 152), (4, .int (nI i))] [] (fLc_37 L xs k h i) := by
  unfold fLc_37
  refine j_aload_n hC 1 rfl rfl (dOk_at dt_L_law_24 22 rfl) ?_
  refine j_callVi hC clL_183 (fun r0 hr0 => c_X9_keep (by decide) _ r0 hr0) (show shp 0 = (9, 12) from rfl) (Nat.le_of_ble_eq_true rfl) (by decide) rfl rfl ⟨Nat.le_of_ble_eq_true rfl, Nat.le_of_ble_eq_true rfl⟩ ⟨by show _ ≤ 601024; omega, by show _ ≤ 7293033; omega⟩ (As := []) (st := []) rfl (Nat.le_of_ble_eq_true rfl) (dOk_at dt_L_law_24 23 rfl) (fun v_159 h_160 _ => ?_)
  refine j_aload_n hC 2 rfl rfl (dOk_at dt_L_law_24 24 rfl) ?_
  refine j_callVi hC clL_186 (fun r0 hr0 => c_X10_keep (by decide) _ r0 hr0) (show shp 107 = (10, 88) from rfl) (Nat.le_of_ble_eq_true rfl) (by decide) rfl rfl ⟨Nat.le_of_ble_eq_true rfl, Nat.le_of_ble_eq_true rfl⟩ ⟨by show _ ≤ 601024; omega, by show _ ≤ 7293033; omega⟩ (As := []) (st := [.int v_159]) rfl (Nat.le_of_ble_eq_true rfl) (dOk_at dt_L_law_24 25 rfl) (fun v_161 h_162 _ => ?_)
  refine j_icmp_eq hC (tgt := 1601) (by decide) (dOk_at dt_L_law_24 26 rfl) (fun _ => ?_) (fun _ => ?_)
  · refine j_widen (kc' := 200 + 20 * (i + 6)) (ks' := 20000 + 300 * (i + 6)) (by omega) (by omega) ?_
    exact hk h_162
  · refine j_iconst hC (v := (0 : Int32)) rfl (dOk_at dt_L_law_24 27 rfl) ?_
    exact j_none
def fLc_38 (L : Nat) (xs : Nat → Int32) (k : Hp → Option Unit) (h : Hp) (i : Nat) : Option Unit := bnd (fX9_back h ) (fun v_163 h_164 => bnd (fX10_back h_164 ) (fun v_165 h_166 => if v_163 = v_165 then (k h_166) else none))
set_option maxRecDepth 100000 in
set_option maxHeartbeats 4000000 in
theorem cLc_38 {p : Program} {l : Launch} {e : Env} {s : State} {m : MethodId} {below : List Frame} {meth : Method} {c : Code} {D : va_G} {ids : Nat → ClassId} {b L : Nat} {xs : Nat → Int32} (hC : jC p s m #[Value.ref b] meth c code RL 7 s D ids) (hG : jG s) (hT : va_T .int b L (fun j => .int (xs j)) (jA s) s s.heap) (k : Hp → Option Unit) (h : Hp) (i : Nat) (hi : i ≤ 3072) (hk : ∀ h : Hp, jJ p l e room_1 s m #[Value.ref b] below meth c 7 s D ids shp St (fun (_ : Unit) => lw_Z below #[Value.ref b] s) 153 (200 + 20 * (i + 6)) (20000 + 300 * (i + 6)) h 1601 [(0, .retAddr b), (1, .ref 0), (2, .ref 107), (3, .ref 152), (4, .int (nI i))] [] (k h)) : jJ p l e room_1 s m #[Value.ref b] below meth c 7 s D ids shp St (fun (_ : Unit) => lw_Z below #[Value.ref b] s) 153 (200 + 20 * i) (20000 + 300 * i) h 1563 [(0, .retAddr b), (1, .ref 0), (2, .ref 107), (3, .ref 152), (4, .int (nI i))] [] (fLc_38 L xs k h i) := by
  unfold fLc_38
  refine j_aload_n hC 1 rfl rfl (dOk_at dt_L_law_24 29 rfl) ?_
  refine j_callVi hC clL_187 (fun r0 hr0 => c_X9_back (by decide) _ r0 hr0) (show shp 0 = (9, 12) from rfl) (Nat.le_of_ble_eq_true rfl) (by decide) rfl rfl ⟨Nat.le_of_ble_eq_true rfl, Nat.le_of_ble_eq_true rfl⟩ ⟨by show _ ≤ 601024; omega, by show _ ≤ 7293033; omega⟩ (As := []) (st := []) rfl (Nat.le_of_ble_eq_true rfl) (dOk_at dt_L_law_24 30 rfl) (fun v_163 h_164 _ => ?_)
  refine j_aload_n hC 2 rfl rfl (dOk_at dt_L_law_24 31 rfl) ?_
  refine j_callVi hC clL_190 (fun r0 hr0 => c_X10_back (by decide) _ r0 hr0) (show shp 107 = (10, 88) from rfl) (Nat.le_of_ble_eq_true rfl) (by decide) rfl rfl ⟨Nat.le_of_ble_eq_true rfl, Nat.le_of_ble_eq_true rfl⟩ ⟨by show _ ≤ 601024; omega, by show _ ≤ 7293033; omega⟩ (As := []) (st := [.int v_163]) rfl (Nat.le_of_ble_eq_true rfl) (dOk_at dt_L_law_24 32 rfl) (fun v_165 h_166 _ => ?_)
  refine j_icmp_eq hC (tgt := 1601) (by decide) (dOk_at dt_L_law_24 33 rfl) (fun _ => ?_) (fun _ => ?_)
  · refine j_widen (kc' := 200 + 20 * (i + 6)) (ks' := 20000 + 300 * (i + 6)) (by omega) (by omega) ?_
    exact hk h_166
  · refine j_iconst hC (v := (0 : Int32)) rfl (dOk_at dt_L_law_24 34 rfl) ?_
    exact j_none
def fLc_39 (L : Nat) (xs : Nat → Int32) (k : Hp → Option Unit) (h : Hp) (i : Nat) : Option Unit := if inb ((nI i) + (1 : Int32)) L then (bnd (fX9_count h (xs (Int32.toNatClampNeg ((nI i) + (1 : Int32))))) (fun v_167 h_168 => if inb ((nI i) + (1 : Int32)) L then (bnd (fX10_count h_168 (xs (Int32.toNatClampNeg ((nI i) + (1 : Int32))))) (fun v_169 h_170 => if v_167 = v_169 then (k h_170) else none)) else none)) else none
set_option maxRecDepth 100000 in
set_option maxHeartbeats 4000000 in
theorem cLc_39 {p : Program} {l : Launch} {e : Env} {s : State} {m : MethodId} {below : List Frame} {meth : Method} {c : Code} {D : va_G} {ids : Nat → ClassId} {b L : Nat} {xs : Nat → Int32} (hC : jC p s m #[Value.ref b] meth c code RL 7 s D ids) (hG : jG s) (hT : va_T .int b L (fun j => .int (xs j)) (jA s) s s.heap) (k : Hp → Option Unit) (h : Hp) (i : Nat) (hi : i ≤ 3072) (hk : ∀ h : Hp, jJ p l e room_1 s m #[Value.ref b] below meth c 7 s D ids shp St (fun (_ : Unit) => lw_Z below #[Value.ref b] s) 153 (200 + 20 * (i + 6)) (20000 + 300 * (i + 6)) h 1601 [(0, .retAddr b), (1, .ref 0), (2, .ref 107), (3, .ref 152), (4, .int (nI i))] [] (k h)) : jJ p l e room_1 s m #[Value.ref b] below meth c 7 s D ids shp St (fun (_ : Unit) => lw_Z below #[Value.ref b] s) 153 (200 + 20 * i) (20000 + 300 * i) h 1576 [(0, .retAddr b), (1, .ref 0), (2, .ref 107), (3, .ref 152), (4, .int (nI i))] [] (fLc_39 L xs k h i) := by
  unfold fLc_39
  refine j_aload_n hC 1 rfl rfl (dOk_at dt_L_law_24 36 rfl) ?_
  refine j_xaload_n hC 0 rfl rfl (dOk_at dt_L_law_24 37 rfl) ?_
  refine j_iload hC 4 rfl (dOk_at dt_L_law_24 38 rfl) ?_
  refine j_iconst hC (v := (1 : Int32)) rfl (dOk_at dt_L_law_24 39 rfl) ?_
  refine j_iadd hC (dOk_at dt_L_law_25 0 rfl) ?_
  refine j_xiald hC (f := xs) hT (dOk_at dt_L_law_25 1 rfl) ?_
  refine j_callVi hC clL_191 (fun r0 hr0 => c_X9_count (by decide) _ _ r0 hr0) (show shp 0 = (9, 12) from rfl) (Nat.le_of_ble_eq_true rfl) (by decide) rfl rfl ⟨Nat.le_of_ble_eq_true rfl, Nat.le_of_ble_eq_true rfl⟩ ⟨by show _ ≤ 601024; omega, by show _ ≤ 7293033; omega⟩ (As := [.int (xs (Int32.toNatClampNeg ((nI i) + (1 : Int32))))]) (st := []) rfl (Nat.le_of_ble_eq_true rfl) (dOk_at dt_L_law_25 2 rfl) (fun v_167 h_168 _ => ?_)
  refine j_aload_n hC 2 rfl rfl (dOk_at dt_L_law_25 3 rfl) ?_
  refine j_xaload_n hC 0 rfl rfl (dOk_at dt_L_law_25 4 rfl) ?_
  refine j_iload hC 4 rfl (dOk_at dt_L_law_25 5 rfl) ?_
  refine j_iconst hC (v := (1 : Int32)) rfl (dOk_at dt_L_law_25 6 rfl) ?_
  refine j_iadd hC (dOk_at dt_L_law_25 7 rfl) ?_
  refine j_xiald hC (f := xs) hT (dOk_at dt_L_law_25 8 rfl) ?_
  refine j_callVi hC clL_194 (fun r0 hr0 => c_X10_count (by decide) _ _ r0 hr0) (show shp 107 = (10, 88) from rfl) (Nat.le_of_ble_eq_true rfl) (by decide) rfl rfl ⟨Nat.le_of_ble_eq_true rfl, Nat.le_of_ble_eq_true rfl⟩ ⟨by show _ ≤ 601024; omega, by show _ ≤ 7293033; omega⟩ (As := [.int (xs (Int32.toNatClampNeg ((nI i) + (1 : Int32))))]) (st := [.int v_167]) rfl (Nat.le_of_ble_eq_true rfl) (dOk_at dt_L_law_25 9 rfl) (fun v_169 h_170 _ => ?_)
  refine j_icmp_eq hC (tgt := 1601) (by decide) (dOk_at dt_L_law_25 10 rfl) (fun _ => ?_) (fun _ => ?_)
  · refine j_widen (kc' := 200 + 20 * (i + 6)) (ks' := 20000 + 300 * (i + 6)) (by omega) (by omega) ?_
    exact hk h_170
  · refine j_iconst hC (v := (0 : Int32)) rfl (dOk_at dt_L_law_25 11 rfl) ?_
    exact j_none
