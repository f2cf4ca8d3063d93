/-! The static row SIGN_LEVELS, and room by depths. -/
def slv (j : Nat) : Int32 := ([0, 1, 2, 3, 3, 3, 3, 3, 3, 4, 4, 5, 5] : List Int32).getD j 0
def jG (sb : State) : Prop := ∃ t : Nat, va_Z "StrawMen" "SIGN_LEVELS" "[I" (.ref t) (jA sb) sb sb.heap ∧ va_T .int t 13 (fun j => .int (slv j)) (jA sb) sb sb.heap
theorem rm_ok {a b ml : Nat} (h : a + 1 ≤ b) (hm : ml + 19 ≤ 64) : a + 1 ≤ (rmD b).frames ∧ 8 + (ml + 11) + 64 * a ≤ (rmD b).locals := by
  refine ⟨h, ?_⟩
  show 8 + (ml + 11) + 64 * a ≤ 64 * b
  omega
section JST
variable {ρ : Type} {p : Program} {l : Launch} {e : Env} {R : Room} {s : State} {m : MethodId} {args : Array Value} {below : List Frame} {meth : Method} {c : Code} {cc : ByteArray} {own : String} {nL index : Nat} {sb : State} {D : va_G} {ids : Nat → ClassId} {sh : Nat → Nat × Nat} {SP : Hp → Prop} {Q : ρ → State → Prop} {n kc ks : Nat} {h : Hp} {pc : Nat} {lv lv' : List (Nat × Value)} {st : List Value} {o : Option ρ} {a k ci N fx : Nat}
theorem jG_at (hC : jC p s m args meth c cc own nL sb D ids) (hG : jG sb) : ∃ t : Nat, va_Z "StrawMen" "SIGN_LEVELS" "[I" (.ref t) (jA sb) s s.heap ∧ va_T .int t 13 (fun j => .int (slv j)) (jA sb) s s.heap := by
  obtain ⟨t, h1, h2⟩ := hG
  obtain ⟨-, -, -, -, -, -, -, hg1, hg2, hg3, -⟩ := hC
  exact ⟨t, (h1.moved hg3).kept (fun q hq _ => hg2 q hq), (h2.moved hg3).kept (fun q hq _ => hg2 q hq)⟩
theorem j_statLen (hC : jC p s m args meth c cc own nL sb D ids) (hG : jG sb) (hw : nestW = Cond.fieldLinkNest own index "StrawMen" "SIGN_LEVELS" "[I" "StrawMen") (hd : decode cc pc = .ok (.getstatic index, 3)) (hd1 : decode cc (pc + 3) = .ok (.arraylength, 1))
    (kk : jJ p l e R s m args below meth c nL sb D ids sh SP Q n kc ks h (pc + 4) lv (.int 13 :: st) o) : jJ p l e R s m args below meth c nL sb D ids sh SP Q n kc ks h pc lv st o := by
  intro r hr hsp H locs ls hP hS hl
  obtain ⟨t, hZ, hT⟩ := jG_at hC hG
  obtain ⟨hx, hb, hml, hown, hts, -, -, -, -, -, hnw0, -⟩ := hC
  have hnw := hnw0
  rw [hw] at hnw
  refine va_getsN hx hb hZ hS hown (va_Nw.use rfl hnw) (fun x hx => hx) hd ?_
  refine va_tlen hx hb hT hS rfl hd1 ?_
  exact kk r hr hsp H locs ls hP hS hl
theorem j_statLd {i : Nat} {kf : Fin 4} (hC : jC p s m args meth c cc own nL sb D ids) (hG : jG sb) (hw : nestW = Cond.fieldLinkNest own index "StrawMen" "SIGN_LEVELS" "[I" "StrawMen") (j : Nat) (hj : lv[j]? = some (i, .ref a)) (hi : (kf : Nat) = i) (hF : jFl own fx ci k) (hs : sh a = (ci, N)) (ha : a < n) (hk : k < N) (hc10 : ci ≤ 10) (hty : ∀ b h a, fvl b h (tyC ci k) a k = .int (hI h a k)) (hd : decode cc pc = .ok (.getstatic index, 3)) (hd1 : decode cc (pc + 3) = .ok (.aload_n kf, 1)) (hd2 : decode cc (pc + 3 + 1) = .ok (.getfield fx, 3)) (hd3 : decode cc (pc + 3 + 1 + 3) = .ok (.iaload, 1))
    (kk : jJ p l e R s m args below meth c nL sb D ids sh SP Q n kc ks h (pc + 8) lv (.int (slv (hI h a k).toNatClampNeg) :: st) o) : jJ p l e R s m args below meth c nL sb D ids sh SP Q n kc ks h pc lv st (if inb (hI h a k) 13 then o else none) := by
  intro r hr hsp H locs ls hP hS hl
  by_cases hin : inb (hI h a k) 13 = true
  · rw [if_pos hin] at hr
    obtain ⟨t, hZ, hT⟩ := jG_at hC hG
    have hC0 := hC
    obtain ⟨hx, hb, hml, hown, hts, -, -, -, -, -, hnw0, -⟩ := hC
    have hnw := hnw0
    rw [hw] at hnw
    refine va_getsN hx hb hZ hS hown (va_Nw.use rfl hnw) (fun x hx => hx) hd ?_
    refine lv_aload_n hx hb hd1 hi (jl_at hl hj) ?_
    refine jget hC0 hF hs ha hk hc10 hP hd2 ?_
    rw [hty]
    refine va_ti hx hb hT hS (inb_in hin) rfl hd3 ?_
    exact kk r hr hsp H locs ls hP hS hl
  · rw [if_neg hin] at hr; cases hr
end JST
