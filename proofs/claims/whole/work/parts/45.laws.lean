/-! The law from its entry to its loop. -/
def h00 : Hp := (fun _ _ => 0, fun _ _ => 0, fun _ _ => none)
theorem h00_Zr : Zr 0 h00 := fun _ _ _ => ⟨rfl, rfl, rfl⟩
/-- the law, as a pure function of its script -/
def fL_law (L : Nat) (xs : Nat → Int32) : Option Unit := (fX9_init_0 h00).bind (fun h1 => (fX10_init_107 h1).bind (fun h2 => fL_loop L xs FU (zo h2 152) 0))
set_option maxRecDepth 100000 in
set_option maxHeartbeats 4000000 in
theorem cL_start {p : Program} {l : Launch} {e : Env} {s : State} {m : MethodId} {below : List Frame} {meth : Method} {c : Code} {D : va_G} {ids : Nat → ClassId} {b L : Nat} {xs : Nat → Int32} (hC : jC p s m #[Value.ref b] meth c code RL 7 s D ids) (hG : jG s) (hT : va_T .int b L (fun j => .int (xs j)) (jA s) s s.heap) (hLc : jLc l s D ids) (hW : jS s) (hAO : va_AO "StrawMen$Law" s) (hr : meth.sig.returnType = ret) (hL : L ≤ 3072) : jJ p l e room_1 s m #[Value.ref b] below meth c 7 s D ids shp (Zr 0) (fun (_ : Unit) => lw_Z below #[Value.ref b] s) 0 0 0 h00 0 [(0, .retAddr b)] [] (fL_law L xs) := by
  unfold fL_law
  refine j_new (n := 0) hC nwL_8 rfl (show shp 0 = (9, 12) from rfl) (by decide) (by decide) (by omega) ⟨Nat.le_of_ble_eq_true rfl, Nat.le_of_ble_eq_true rfl⟩ (dOk_at dt_L_law_0 0 rfl) ?_
  refine j_dupr hC (dOk_at dt_L_law_0 1 rfl) ?_
  refine j_callC (n := 1) hC ciL_17 (fun r0 hr0 => c_X9_init_0 hAO hW _ r0 hr0) rfl ⟨Nat.le_of_ble_eq_true rfl, Nat.le_of_ble_eq_true rfl⟩ ⟨Nat.le_of_ble_eq_true rfl, Nat.le_of_ble_eq_true rfl⟩ (by omega) (As := []) (st := [.ref 0]) rfl (Nat.le_of_ble_eq_true rfl) (dOk_at dt_L_law_0 2 rfl) (fun h1 _ => ?_)
  refine j_astore_n hC rfl (lv' := [(1, .ref 0), (0, .retAddr b)]) (by decide) rfl (dOk_at dt_L_law_0 3 rfl) ?_
  refine j_new (n := 107) hC nwL_18 rfl (show shp 107 = (10, 88) from rfl) (by decide) (by decide) (by omega) ⟨Nat.le_of_ble_eq_true rfl, Nat.le_of_ble_eq_true rfl⟩ (dOk_at dt_L_law_0 4 rfl) ?_
  refine j_dupr hC (dOk_at dt_L_law_0 5 rfl) ?_
  refine j_callC (SP1 := St) (n := 108) hC ciL_20 (fun r0 hr0 => c_X10_init_107 _ r0 hr0) rfl ⟨Nat.le_of_ble_eq_true rfl, Nat.le_of_ble_eq_true rfl⟩ ⟨Nat.le_of_ble_eq_true rfl, Nat.le_of_ble_eq_true rfl⟩ (by omega) (As := []) (st := [.ref 107]) rfl (Nat.le_of_ble_eq_true rfl) (dOk_at dt_L_law_0 6 rfl) (fun h2 _ => ?_)
  refine j_astore_n hC rfl (lv' := [(2, .ref 107), (1, .ref 0), (0, .retAddr b)]) (by decide) rfl (dOk_at dt_L_law_0 7 rfl) ?_
  refine j_iconst hC (v := (1 : Int32)) rfl (dOk_at dt_L_law_0 8 rfl) ?_
  refine j_newOut (n := 152) hC aw_long (show shp 152 = (25, 1) from rfl) (by omega) ⟨Nat.le_of_ble_eq_true rfl, Nat.le_of_ble_eq_true rfl⟩ (dOk_at dt_L_law_0 9 rfl) ?_
  refine j_astore_n hC rfl (lv' := [(3, .ref 152), (2, .ref 107), (1, .ref 0), (0, .retAddr b)]) (by decide) rfl (dOk_at dt_L_law_0 10 rfl) ?_
  refine j_iconst hC (v := nI 0) rfl (dOk_at dt_L_law_0 11 rfl) ?_
  refine j_istore hC (lv' := [(4, .int (nI 0)), (3, .ref 152), (2, .ref 107), (1, .ref 0), (0, .retAddr b)]) (by decide) rfl (dOk_at dt_L_law_0 12 rfl) ?_
  refine j_widen (kc' := 200 + 20 * 0) (ks' := 20000 + 300 * 0) (Nat.le_of_ble_eq_true rfl) (Nat.le_of_ble_eq_true rfl) ?_
  refine j_sub [4, 3, 2, 1, 0] rfl ?_
  exact cL_loop hC hG hT hLc hr hL FU (zo h2 152) 0 (by omega)
