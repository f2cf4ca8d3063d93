def fL_loop (L : Nat) (xs : Nat → Int32) : Nat → Hp → Nat → Option Unit
  | 0, _, _ => none
  | fu + 1, h, i => if (Int32.ofNat L - (6 : Int32)) < nI i then some () else (if inb (nI i) L then (if inT (xs (Int32.toNatClampNeg (nI i)) &&& (63 : Int32)) 0 39 then (if (xs (Int32.toNatClampNeg (nI i)) &&& (63 : Int32)) = (0 : Int32) then fLc_0 L xs (fun h => fL_loop L xs fu h (i + 6)) h i else (if (xs (Int32.toNatClampNeg (nI i)) &&& (63 : Int32)) = (1 : Int32) then fLc_1 L xs (fun h => fL_loop L xs fu h (i + 6)) h i else (if (xs (Int32.toNatClampNeg (nI i)) &&& (63 : Int32)) = (2 : Int32) then fLc_2 L xs (fun h => fL_loop L xs fu h (i + 6)) h i else (if (xs (Int32.toNatClampNeg (nI i)) &&& (63 : Int32)) = (3 : Int32) then fLc_3 L xs (fun h => fL_loop L xs fu h (i + 6)) h i else (if (xs (Int32.toNatClampNeg (nI i)) &&& (63 : Int32)) = (4 : Int32) then fLc_4 L xs (fun h => fL_loop L xs fu h (i + 6)) h i else (if (xs (Int32.toNatClampNeg (nI i)) &&& (63 : Int32)) = (5 : Int32) then fLc_5 L xs (fun h => fL_loop L xs fu h (i + 6)) h i else (if (xs (Int32.toNatClampNeg (nI i)) &&& (63 : Int32)) = (6 : Int32) then fLc_6 L xs (fun h => fL_loop L xs fu h (i + 6)) h i else (if (xs (Int32.toNatClampNeg (nI i)) &&& (63 : Int32)) = (7 : Int32) then fLc_7 L xs (fun h => fL_loop L xs fu h (i + 6)) h i else (if (xs (Int32.toNatClampNeg (nI i)) &&& (63 : Int32)) = (8 : Int32) then fLc_8 L xs (fun h => fL_loop L xs fu h (i + 6)) h i else (if (xs (Int32.toNatClampNeg (nI i)) &&& (63 : Int32)) = (9 : Int32) then fLc_9 L xs (fun h => fL_loop L xs fu h (i + 6)) h i else (if (xs (Int32.toNatClampNeg (nI i)) &&& (63 : Int32)) = (10 : Int32) then fLc_10 L xs (fun h => fL_loop L xs fu h (i + 6)) h i else (if (xs (Int32.toNatClampNeg (nI i)) &&& (63 : Int32)) = (11 : Int32) then fLc_11 L xs (fun h => fL_loop L xs fu h (i + 6)) h i else (if (xs (Int32.toNatClampNeg (nI i)) &&& (63 : Int32)) = (12 : Int32) then fLc_12 L xs (fun h => fL_loop L xs fu h (i + 6)) h i else (if (xs (Int32.toNatClampNeg (nI i)) &&& (63 : Int32)) = (13 : Int32) then fLc_13 L xs (fun h => fL_loop L xs fu h (i + 6)) h i else (if (xs (Int32.toNatClampNeg (nI i)) &&& (63 : Int32)) = (14 : Int32) then fLc_14 L xs (fun h => fL_loop L xs fu h (i + 6)) h i else (if (xs (Int32.toNatClampNeg (nI i)) &&& (63 : Int32)) = (15 : Int32) then fLc_15 L xs (fun h => fL_loop L xs fu h (i + 6)) h i else (if (xs (Int32.toNatClampNeg (nI i)) &&& (63 : Int32)) = (16 : Int32) then fLc_16 L xs (fun h => fL_loop L xs fu h (i + 6)) h i else (if (xs (Int32.toNatClampNeg (nI i)) &&& (63 : Int32)) = (17 : Int32) then fLc_17 L xs (fun h => fL_loop L xs fu h (i + 6)) h i else (if (xs (Int32.toNatClampNeg (nI i)) &&& (63 : Int32)) = (18 : Int32) then fLc_18 L xs (fun h => fL_loop L xs fu h (i + 6)) h i else (if (xs (Int32.toNatClampNeg (nI i)) &&& (63 : Int32)) = (19 : Int32) then fLc_19 L xs (fun h => fL_loop L xs fu h (i + 6)) h i else (if (xs (Int32.toNatClampNeg (nI i)) &&& (63 : Int32)) = (20 : Int32) then fLc_20 L xs (fun h => fL_loop L xs fu h (i + 6)) h i else (if (xs (Int32.toNatClampNeg (nI i)) &&& (63 : Int32)) = (21 : Int32) then fLc_21 L xs (fun h => fL_loop L xs fu h (i + 6)) h i else (if (xs (Int32.toNatClampNeg (nI i)) &&& (63 : Int32)) = (22 : Int32) then fLc_22 L xs (fun h => fL_loop L xs fu h (i + 6)) h i else (if (xs (Int32.toNatClampNeg (nI i)) &&& (63 : Int32)) = (23 : Int32) then fLc_23 L xs (fun h => fL_loop L xs fu h (i + 6)) h i else (if (xs (Int32.toNatClampNeg (nI i)) &&& (63 : Int32)) = (24 : Int32) then fLc_24 L xs (fun h => fL_loop L xs fu h (i + 6)) h i else (if (xs (Int32.toNatClampNeg (nI i)) &&& (63 : Int32)) = (25 : Int32) then fLc_25 L xs (fun h => fL_loop L xs fu h (i + 6)) h i else (if (xs (Int32.toNatClampNeg (nI i)) &&& (63 : Int32)) = (26 : Int32) then fLc_26 L xs (fun h => fL_loop L xs fu h (i + 6)) h i else (if (xs (Int32.toNatClampNeg (nI i)) &&& (63 : Int32)) = (27 : Int32) then fLc_27 L xs (fun h => fL_loop L xs fu h (i + 6)) h i else (if (xs (Int32.toNatClampNeg (nI i)) &&& (63 : Int32)) = (28 : Int32) then fLc_28 L xs (fun h => fL_loop L xs fu h (i + 6)) h i else (if (xs (Int32.toNatClampNeg (nI i)) &&& (63 : Int32)) = (29 : Int32) then fLc_29 L xs (fun h => fL_loop L xs fu h (i + 6)) h i else (if (xs (Int32.toNatClampNeg (nI i)) &&& (63 : Int32)) = (30 : Int32) then fLc_30 L xs (fun h => fL_loop L xs fu h (i + 6)) h i else (if (xs (Int32.toNatClampNeg (nI i)) &&& (63 : Int32)) = (31 : Int32) then fLc_31 L xs (fun h => fL_loop L xs fu h (i + 6)) h i else (if (xs (Int32.toNatClampNeg (nI i)) &&& (63 : Int32)) = (32 : Int32) then fLc_32 L xs (fun h => fL_loop L xs fu h (i + 6)) h i else (if (xs (Int32.toNatClampNeg (nI i)) &&& (63 : Int32)) = (33 : Int32) then fLc_33 L xs (fun h => fL_loop L xs fu h (i + 6)) h i else (if (xs (Int32.toNatClampNeg (nI i)) &&& (63 : Int32)) = (34 : Int32) then fLc_34 L xs (fun h => fL_loop L xs fu h (i + 6)) h i else (if (xs (Int32.toNatClampNeg (nI i)) &&& (63 : Int32)) = (35 : Int32) then fLc_35 L xs (fun h => fL_loop L xs fu h (i + 6)) h i else (if (xs (Int32.toNatClampNeg (nI i)) &&& (63 : Int32)) = (36 : Int32) then fLc_36 L xs (fun h => fL_loop L xs fu h (i + 6)) h i else (if (xs (Int32.toNatClampNeg (nI i)) &&& (63 : Int32)) = (37 : Int32) then fLc_37 L xs (fun h => fL_loop L xs fu h (i + 6)) h i else (if (xs (Int32.toNatClampNeg (nI i)) &&& (63 : Int32)) = (38 : Int32) then fLc_38 L xs (fun h => fL_loop L xs fu h (i + 6)) h i else (if (xs (Int32.toNatClampNeg (nI i)) &&& (63 : Int32)) = (39 : Int32) then fLc_39 L xs (fun h => fL_loop L xs fu h (i + 6)) h i else none)))))))))))))))))))))))))))))))))))))))) else fL_loop L xs fu h (i + 6)) else none)
set_option maxRecDepth 100000 in
set_option maxHeartbeats 8000000 in
theorem cL_loop {p : Program} {l : Launch} {e : Env} {s : State} {m : MethodId} {below : List Frame} {meth : Method} {c : Code} {D : va_G} {ids : Nat → ClassId} {b L : Nat} {xs : Nat → Int32} (hC : jC p s m #[Value.ref b] meth c code RL 7 s D ids) (hG : jG s) (hT : va_T .int b L (fun j => .int (xs j)) (jA s) s s.heap) (hLc : jLc l s D ids) (hr : meth.sig.returnType = ret) (hL : L ≤ 3072) : ∀ (fu : Nat) (h : Hp) (i : Nat) (hi : i ≤ 3078), jJ p l e room_1 s m #[Value.ref b] below meth c 7 s D ids shp St (fun (_ : Unit) => lw_Z below #[Value.ref b] s) 153 (200 + 20 * i) (20000 + 300 * i) h 23 [(0, .retAddr b), (1, .ref 0), (2, .ref 107), (3, .ref 152), (4, .int (nI i))] [] (fL_loop L xs fu h i) := by
  intro fu
  induction fu with
  | zero => intro h i hi; exact j_none
  | succ fu ih =>
  intro h i hi
  rw [fL_loop]
  refine j_iload hC 4 rfl (dOk_at dt_L_law_0 13 rfl) ?_
  refine j_xaload_n hC 0 rfl rfl (dOk_at dt_L_law_0 14 rfl) ?_
  refine j_xlen hC hT rfl (dOk_at dt_L_law_0 15 rfl) ?_
  refine j_bipush hC (v := (6 : Int32)) rfl (dOk_at dt_L_law_0 16 rfl) ?_
  refine j_isub hC (dOk_at dt_L_law_0 17 rfl) ?_
  refine j_icmp_gt hC (tgt := 1607) (by decide) (dOk_at dt_L_law_0 18 rfl) (fun _ => ?_) (fun hq => ?_)
  · refine j_iconst hC (v := (1 : Int32)) rfl (dOk_at dt_L_law_25 15 rfl) ?_
    exact j_lawret hC hr (by omega) (by omega) (dOk_at dt_L_law_25 16 rfl)
  refine j_xaload_n hC 0 rfl rfl (dOk_at dt_L_law_0 19 rfl) ?_
  refine j_iload hC 4 rfl (dOk_at dt_L_law_0 20 rfl) ?_
  by_cases hin : inb (nI i) L = true
  · rw [if_pos hin]
    have hi2 : i ≤ 3072 := by
      have h1 := inb_in hin
      have h2 := (vp_in_iff.mp h1).2
      rw [nI_toInt (by omega)] at h2
      omega
    refine j_xialdK hC (f := xs) hT hin (dOk_at dt_L_law_0 21 rfl) ?_
    refine j_bipush hC (v := (63 : Int32)) rfl (dOk_at dt_L_law_0 22 rfl) ?_
    refine j_iand hC (dOk_at dt_L_law_0 23 rfl) ?_
    have hk : ∀ h : Hp, jJ p l e room_1 s m #[Value.ref b] below meth c 7 s D ids shp St (fun (_ : Unit) => lw_Z below #[Value.ref b] s) 153 (200 + 20 * (i + 6)) (20000 + 300 * (i + 6)) h 1601 [(0, .retAddr b), (1, .ref 0), (2, .ref 107), (3, .ref 152), (4, .int (nI i))] [] ((fun h => fL_loop L xs fu h (i + 6)) h) := by
      intro h
      show jJ p l e room_1 s m #[Value.ref b] below meth c 7 s D ids shp St (fun (_ : Unit) => lw_Z below #[Value.ref b] s) 153 (200 + 20 * (i + 6)) (20000 + 300 * (i + 6)) h 1601 [(0, .retAddr b), (1, .ref 0), (2, .ref 107), (3, .ref 152), (4, .int (nI i))] [] (fL_loop L xs fu h (i + 6))
      refine j_iinc hC (v := nI (i + 6)) (lv' := [(4, .int (nI (i + 6))), (0, .retAddr b), (1, .ref 0), (2, .ref 107), (3, .ref 152)]) 4 rfl (nI_6 i) (by decide) rfl (dOk_at dt_L_law_25 13 rfl) ?_
      refine j_goto hC (tgt := 23) (by decide) (dOk_at dt_L_law_25 14 rfl) ?_
      refine j_sub [1, 2, 3, 4, 0] rfl ?_
      exact ih h (i + 6) (by omega)
    refine j_ite (P := inT (xs (Int32.toNatClampNeg (nI i)) &&& (63 : Int32)) 0 39 = true) (fun _ => ?_) (fun q => ?_)
    · refine j_ite (P := (xs (Int32.toNatClampNeg (nI i)) &&& (63 : Int32)) = (0 : Int32)) (fun q => ?_) (fun _ => ?_)
      · refine j_tswIn hC (tgt := 216) q (by decide) (by decide) rfl (by decide) (dOk_at dt_L_law_0 24 rfl) ?_
        exact cLc_0 hC hG hT _ h i hi2 hk
      refine j_ite (P := (xs (Int32.toNatClampNeg (nI i)) &&& (63 : Int32)) = (1 : Int32)) (fun q => ?_) (fun _ => ?_)
      · refine j_tswIn hC (tgt := 289) q (by decide) (by decide) rfl (by decide) (dOk_at dt_L_law_0 24 rfl) ?_
        exact cLc_1 hC hG hT _ h i hi2 hk
      refine j_ite (P := (xs (Int32.toNatClampNeg (nI i)) &&& (63 : Int32)) = (2 : Int32)) (fun q => ?_) (fun _ => ?_)
      · refine j_tswIn hC (tgt := 314) q (by decide) (by decide) rfl (by decide) (dOk_at dt_L_law_0 24 rfl) ?_
        exact cLc_2 hC hG hT _ h i hi2 hk
      refine j_ite (P := (xs (Int32.toNatClampNeg (nI i)) &&& (63 : Int32)) = (3 : Int32)) (fun q => ?_) (fun _ => ?_)
      · refine j_tswIn hC (tgt := 339) q (by decide) (by decide) rfl (by decide) (dOk_at dt_L_law_0 24 rfl) ?_
        exact cLc_3 hC hG hT _ h i hi2 hk
      refine j_ite (P := (xs (Int32.toNatClampNeg (nI i)) &&& (63 : Int32)) = (4 : Int32)) (fun q => ?_) (fun _ => ?_)
      · refine j_tswIn hC (tgt := 376) q (by decide) (by decide) rfl (by decide) (dOk_at dt_L_law_0 24 rfl) ?_
        exact cLc_4 hC hG hT hLc _ h i hi2 hk
      refine j_ite (P := (xs (Int32.toNatClampNeg (nI i)) &&& (63 : Int32)) = (5 : Int32)) (fun q => ?_) (fun _ => ?_)
      · refine j_tswIn hC (tgt := 444) q (by decide) (by decide) rfl (by decide) (dOk_at dt_L_law_0 24 rfl) ?_
        exact cLc_5 hC hG hT _ h i hi2 hk
      refine j_ite (P := (xs (Int32.toNatClampNeg (nI i)) &&& (63 : Int32)) = (6 : Int32)) (fun q => ?_) (fun _ => ?_)
      · refine j_tswIn hC (tgt := 481) q (by decide) (by decide) rfl (by decide) (dOk_at dt_L_law_0 24 rfl) ?_
        exact cLc_6 hC hG hT _ h i hi2 hk
      refine j_ite (P := (xs (Int32.toNatClampNeg (nI i)) &&& (63 : Int32)) = (7 : Int32)) (fun q => ?_) (fun _ => ?_)
      · refine j_tswIn hC (tgt := 518) q (by decide) (by decide) rfl (by decide) (dOk_at dt_L_law_0 24 rfl) ?_
        exact cLc_7 hC hG hT _ h i hi2 hk
      refine j_ite (P := (xs (Int32.toNatClampNeg (nI i)) &&& (63 : Int32)) = (8 : Int32)) (fun q => ?_) (fun _ => ?_)
      · refine j_tswIn hC (tgt := 555) q (by decide) (by decide) rfl (by decide) (dOk_at dt_L_law_0 24 rfl) ?_
        exact cLc_8 hC hG hT _ h i hi2 hk
      refine j_ite (P := (xs (Int32.toNatClampNeg (nI i)) &&& (63 : Int32)) = (9 : Int32)) (fun q => ?_) (fun _ => ?_)
      · refine j_tswIn hC (tgt := 605) q (by decide) (by decide) rfl (by decide) (dOk_at dt_L_law_0 24 rfl) ?_
        exact cLc_9 hC hG hT _ h i hi2 hk
      refine j_ite (P := (xs (Int32.toNatClampNeg (nI i)) &&& (63 : Int32)) = (10 : Int32)) (fun q => ?_) (fun _ => ?_)
      · refine j_tswIn hC (tgt := 642) q (by decide) (by decide) rfl (by decide) (dOk_at dt_L_law_0 24 rfl) ?_
        exact cLc_10 hC hG hT _ h i hi2 hk
      refine j_ite (P := (xs (Int32.toNatClampNeg (nI i)) &&& (63 : Int32)) = (11 : Int32)) (fun q => ?_) (fun _ => ?_)
      · refine j_tswIn hC (tgt := 679) q (by decide) (by decide) rfl (by decide) (dOk_at dt_L_law_0 24 rfl) ?_
        exact cLc_11 hC hG hT _ h i hi2 hk
      refine j_ite (P := (xs (Int32.toNatClampNeg (nI i)) &&& (63 : Int32)) = (12 : Int32)) (fun q => ?_) (fun _ => ?_)
      · refine j_tswIn hC (tgt := 716) q (by decide) (by decide) rfl (by decide) (dOk_at dt_L_law_0 24 rfl) ?_
        exact cLc_12 hC hG hT _ h i hi2 hk
      refine j_ite (P := (xs (Int32.toNatClampNeg (nI i)) &&& (63 : Int32)) = (13 : Int32)) (fun q => ?_) (fun _ => ?_)
      · refine j_tswIn hC (tgt := 741) q (by decide) (by decide) rfl (by decide) (dOk_at dt_L_law_0 24 rfl) ?_
        exact cLc_13 hC hG hT _ h i hi2 hk
      refine j_ite (P := (xs (Int32.toNatClampNeg (nI i)) &&& (63 : Int32)) = (14 : Int32)) (fun q => ?_) (fun _ => ?_)
      · refine j_tswIn hC (tgt := 790) q (by decide) (by decide) rfl (by decide) (dOk_at dt_L_law_0 24 rfl) ?_
        exact cLc_14 hC hG hT _ h i hi2 hk
      refine j_ite (P := (xs (Int32.toNatClampNeg (nI i)) &&& (63 : Int32)) = (15 : Int32)) (fun q => ?_) (fun _ => ?_)
      · refine j_tswIn hC (tgt := 815) q (by decide) (by decide) rfl (by decide) (dOk_at dt_L_law_0 24 rfl) ?_
        exact cLc_15 hC hG hT _ h i hi2 hk
      refine j_ite (P := (xs (Int32.toNatClampNeg (nI i)) &&& (63 : Int32)) = (16 : Int32)) (fun q => ?_) (fun _ => ?_)
      · refine j_tswIn hC (tgt := 852) q (by decide) (by decide) rfl (by decide) (dOk_at dt_L_law_0 24 rfl) ?_
        exact cLc_16 hC hG hT _ h i hi2 hk
      refine j_ite (P := (xs (Int32.toNatClampNeg (nI i)) &&& (63 : Int32)) = (17 : Int32)) (fun q => ?_) (fun _ => ?_)
      · refine j_tswIn hC (tgt := 877) q (by decide) (by decide) rfl (by decide) (dOk_at dt_L_law_0 24 rfl) ?_
        exact cLc_17 hC hG hT _ h i hi2 hk
      refine j_ite (P := (xs (Int32.toNatClampNeg (nI i)) &&& (63 : Int32)) = (18 : Int32)) (fun q => ?_) (fun _ => ?_)
      · refine j_tswIn hC (tgt := 902) q (by decide) (by decide) rfl (by decide) (dOk_at dt_L_law_0 24 rfl) ?_
        exact cLc_18 hC hG hT _ h i hi2 hk
      refine j_ite (P := (xs (Int32.toNatClampNeg (nI i)) &&& (63 : Int32)) = (19 : Int32)) (fun q => ?_) (fun _ => ?_)
      · refine j_tswIn hC (tgt := 915) q (by decide) (by decide) rfl (by decide) (dOk_at dt_L_law_0 24 rfl) ?_
        exact cLc_19 hC hG hT _ h i hi2 hk
      refine j_ite (P := (xs (Int32.toNatClampNeg (nI i)) &&& (63 : Int32)) = (20 : Int32)) (fun q => ?_) (fun _ => ?_)
      · refine j_tswIn hC (tgt := 928) q (by decide) (by decide) rfl (by decide) (dOk_at dt_L_law_0 24 rfl) ?_
        exact cLc_20 hC hG hT _ h i hi2 hk
      refine j_ite (P := (xs (Int32.toNatClampNeg (nI i)) &&& (63 : Int32)) = (21 : Int32)) (fun q => ?_) (fun _ => ?_)
      · refine j_tswIn hC (tgt := 965) q (by decide) (by decide) rfl (by decide) (dOk_at dt_L_law_0 24 rfl) ?_
        exact cLc_21 hC hG hT _ h i hi2 hk
      refine j_ite (P := (xs (Int32.toNatClampNeg (nI i)) &&& (63 : Int32)) = (22 : Int32)) (fun q => ?_) (fun _ => ?_)
      · refine j_tswIn hC (tgt := 990) q (by decide) (by decide) rfl (by decide) (dOk_at dt_L_law_0 24 rfl) ?_
        exact cLc_22 hC hG hT _ h i hi2 hk
      refine j_ite (P := (xs (Int32.toNatClampNeg (nI i)) &&& (63 : Int32)) = (23 : Int32)) (fun q => ?_) (fun _ => ?_)
      · refine j_tswIn hC (tgt := 1027) q (by decide) (by decide) rfl (by decide) (dOk_at dt_L_law_0 24 rfl) ?_
        exact cLc_23 hC hG hT _ h i hi2 hk
      refine j_ite (P := (xs (Int32.toNatClampNeg (nI i)) &&& (63 : Int32)) = (24 : Int32)) (fun q => ?_) (fun _ => ?_)
      · refine j_tswIn hC (tgt := 1064) q (by decide) (by decide) rfl (by decide) (dOk_at dt_L_law_0 24 rfl) ?_
        exact cLc_24 hC hG hT _ h i hi2 hk
      refine j_ite (P := (xs (Int32.toNatClampNeg (nI i)) &&& (63 : Int32)) = (25 : Int32)) (fun q => ?_) (fun _ => ?_)
      · refine j_tswIn hC (tgt := 1101) q (by decide) (by decide) rfl (by decide) (dOk_at dt_L_law_0 24 rfl) ?_
        exact cLc_25 hC hG hT _ h i hi2 hk
      refine j_ite (P := (xs (Int32.toNatClampNeg (nI i)) &&& (63 : Int32)) = (26 : Int32)) (fun q => ?_) (fun _ => ?_)
      · refine j_tswIn hC (tgt := 1126) q (by decide) (by decide) rfl (by decide) (dOk_at dt_L_law_0 24 rfl) ?_
        exact cLc_26 hC hG hT _ h i hi2 hk
      refine j_ite (P := (xs (Int32.toNatClampNeg (nI i)) &&& (63 : Int32)) = (27 : Int32)) (fun q => ?_) (fun _ => ?_)
      · refine j_tswIn hC (tgt := 1163) q (by decide) (by decide) rfl (by decide) (dOk_at dt_L_law_0 24 rfl) ?_
        exact cLc_27 hC hG hT _ h i hi2 hk
      refine j_ite (P := (xs (Int32.toNatClampNeg (nI i)) &&& (63 : Int32)) = (28 : Int32)) (fun q => ?_) (fun _ => ?_)
      · refine j_tswIn hC (tgt := 1212) q (by decide) (by decide) rfl (by decide) (dOk_at dt_L_law_0 24 rfl) ?_
        exact cLc_28 hC hG hT _ h i hi2 hk
      refine j_ite (P := (xs (Int32.toNatClampNeg (nI i)) &&& (63 : Int32)) = (29 : Int32)) (fun q => ?_) (fun _ => ?_)
      · refine j_tswIn hC (tgt := 1250) q (by decide) (by decide) rfl (by decide) (dOk_at dt_L_law_0 24 rfl) ?_
        exact cLc_29 hC hG hT _ h i hi2 hk
      refine j_ite (P := (xs (Int32.toNatClampNeg (nI i)) &&& (63 : Int32)) = (30 : Int32)) (fun q => ?_) (fun _ => ?_)
      · refine j_tswIn hC (tgt := 1327) q (by decide) (by decide) rfl (by decide) (dOk_at dt_L_law_0 24 rfl) ?_
        exact cLc_30 hC hG hT _ h i hi2 hk
      refine j_ite (P := (xs (Int32.toNatClampNeg (nI i)) &&& (63 : Int32)) = (31 : Int32)) (fun q => ?_) (fun _ => ?_)
      · refine j_tswIn hC (tgt := 1352) q (by decide) (by decide) rfl (by decide) (dOk_at dt_L_law_0 24 rfl) ?_
        exact cLc_31 hC hG hT _ h i hi2 hk
      refine j_ite (P := (xs (Int32.toNatClampNeg (nI i)) &&& (63 : Int32)) = (32 : Int32)) (fun q => ?_) (fun _ => ?_)
      · refine j_tswIn hC (tgt := 1377) q (by decide) (by decide) rfl (by decide) (dOk_at dt_L_law_0 24 rfl) ?_
        exact cLc_32 hC hG hT _ h i hi2 hk
      refine j_ite (P := (xs (Int32.toNatClampNeg (nI i)) &&& (63 : Int32)) = (33 : Int32)) (fun q => ?_) (fun _ => ?_)
      · refine j_tswIn hC (tgt := 1402) q (by decide) (by decide) rfl (by decide) (dOk_at dt_L_law_0 24 rfl) ?_
        exact cLc_33 hC hG hT _ h i hi2 hk
      refine j_ite (P := (xs (Int32.toNatClampNeg (nI i)) &&& (63 : Int32)) = (34 : Int32)) (fun q => ?_) (fun _ => ?_)
      · refine j_tswIn hC (tgt := 1439) q (by decide) (by decide) rfl (by decide) (dOk_at dt_L_law_0 24 rfl) ?_
        exact cLc_34 hC hG hT _ h i hi2 hk
      refine j_ite (P := (xs (Int32.toNatClampNeg (nI i)) &&& (63 : Int32)) = (35 : Int32)) (fun q => ?_) (fun _ => ?_)
      · refine j_tswIn hC (tgt := 1488) q (by decide) (by decide) rfl (by decide) (dOk_at dt_L_law_0 24 rfl) ?_
        exact cLc_35 hC hG hT _ h i hi2 hk
      refine j_ite (P := (xs (Int32.toNatClampNeg (nI i)) &&& (63 : Int32)) = (36 : Int32)) (fun q => ?_) (fun _ => ?_)
      · refine j_tswIn hC (tgt := 1537) q (by decide) (by decide) rfl (by decide) (dOk_at dt_L_law_0 24 rfl) ?_
        exact cLc_36 hC hG hT _ h i hi2 hk
      refine j_ite (P := (xs (Int32.toNatClampNeg (nI i)) &&& (63 : Int32)) = (37 : Int32)) (fun q => ?_) (fun _ => ?_)
      · refine j_tswIn hC (tgt := 1550) q (by decide) (by decide) rfl (by decide) (dOk_at dt_L_law_0 24 rfl) ?_
        exact cLc_37 hC hG hT _ h i hi2 hk
      refine j_ite (P := (xs (Int32.toNatClampNeg (nI i)) &&& (63 : Int32)) = (38 : Int32)) (fun q => ?_) (fun _ => ?_)
      · refine j_tswIn hC (tgt := 1563) q (by decide) (by decide) rfl (by decide) (dOk_at dt_L_law_0 24 rfl) ?_
        exact cLc_38 hC hG hT _ h i hi2 hk
      refine j_ite (P := (xs (Int32.toNatClampNeg (nI i)) &&& (63 : Int32)) = (39 : Int32)) (fun q => ?_) (fun _ => ?_)
      · refine j_tswIn hC (tgt := 1576) q (by decide) (by decide) rfl (by decide) (dOk_at dt_L_law_0 24 rfl) ?_
        exact cLc_39 hC hG hT _ h i hi2 hk
      exact j_none
    · refine j_tswOut hC (tgt := 1601) q (by decide) (dOk_at dt_L_law_0 24 rfl) ?_
      refine j_widen (kc' := 200 + 20 * (i + 6)) (ks' := 20000 + 300 * (i + 6)) (by omega) (by omega) ?_
      exact hk h
  · rw [if_neg hin]; exact j_none
