/-! Arrays, returns, switches, calls. -/
section JA
variable {ρ : Type} {p : Program} {l : Launch} {e : Env} {R : Room} {s : State} {m : MethodId} {args : Array Value} {below : List Frame} {meth : Method} {c : Code} {cc : ByteArray} {own : String} {nL : Nat} {sb : State} {D : va_G} {ids : Nat → ClassId} {sh : Nat → Nat × Nat} {SP : Hp → Prop} {Q : ρ → State → Prop} {n kc ks : Nat} {h : Hp} {pc : Nat} {lv lv' : List (Nat × Value)} {st : List Value} {o o1 o2 : Option ρ} {a k ci N index : Nat}
theorem j_iald {i : Int32} (hC : jC p s m args meth c cc own nL sb D ids) (hs : sh a = (21, N)) (ha : a < n) (hd : decode cc pc = .ok (.iaload, 1)) (kk : jJ p l e R s m args below meth c nL sb D ids sh SP Q n kc ks h (pc + 1) lv (.int (hI h a i.toNatClampNeg) :: st) o) : jJ p l e R s m args below meth c nL sb D ids sh SP Q n kc ks h pc lv (.int i :: .ref a :: st) (if inb i N then o else none) := by
  intro r hr hsp H locs ls hP hS hl
  by_cases hi : inb i N = true
  · rw [if_pos hi] at hr
    obtain ⟨hx, hb, -, -, -, -, hK, -⟩ := hC
    refine va_iald hx hb hK hP a 1 (n := N) (f := fun i => hI h a i) (by rw [wls_get ha, cel_int hs (by decide)]) rfl (inb_in hi) hd ?_
    exact kk r hr hsp H locs ls hP hS hl
  · rw [if_neg hi] at hr; cases hr
theorem j_bald {i : Int32} (hC : jC p s m args meth c cc own nL sb D ids) (hs : sh a = (20, N)) (ha : a < n) (hd : decode cc pc = .ok (.baload, 1)) (kk : jJ p l e R s m args below meth c nL sb D ids sh SP Q n kc ks h (pc + 1) lv (.int (hI h a i.toNatClampNeg) :: st) o) : jJ p l e R s m args below meth c nL sb D ids sh SP Q n kc ks h pc lv (.int i :: .ref a :: st) (if inb i N then o else none) := by
  intro r hr hsp H locs ls hP hS hl
  by_cases hi : inb i N = true
  · rw [if_pos hi] at hr
    obtain ⟨hx, hb, -, -, -, -, hK, -⟩ := hC
    refine va_bald hx hb hK hP a 0 (n := N) (f := fun i => hI h a i) (by rw [wls_get ha, cel_int hs (by decide)]) rfl (inb_in hi) hd ?_
    exact kk r hr hsp H locs ls hP hS hl
  · rw [if_neg hi] at hr; cases hr
theorem j_zald {i : Int32} (hC : jC p s m args meth c cc own nL sb D ids) (hs : sh a = (23, N)) (ha : a < n) (hd : decode cc pc = .ok (.baload, 1)) (kk : jJ p l e R s m args below meth c nL sb D ids sh SP Q n kc ks h (pc + 1) lv (.int (hI h a i.toNatClampNeg) :: st) o) : jJ p l e R s m args below meth c nL sb D ids sh SP Q n kc ks h pc lv (.int i :: .ref a :: st) (if inb i N then o else none) := by
  intro r hr hsp H locs ls hP hS hl
  by_cases hi : inb i N = true
  · rw [if_pos hi] at hr
    obtain ⟨hx, hb, -, -, -, -, hK, -⟩ := hC
    refine va_zald hx hb hK hP a 3 (n := N) (f := fun i => hI h a i) (by rw [wls_get ha, cel_int hs (by decide)]) rfl (inb_in hi) hd ?_
    exact kk r hr hsp H locs ls hP hS hl
  · rw [if_neg hi] at hr; cases hr
theorem j_lald {i : Int32} (hC : jC p s m args meth c cc own nL sb D ids) (hs : sh a = (22, N)) (ha : a < n) (hd : decode cc pc = .ok (.laload, 1)) (kk : jJ p l e R s m args below meth c nL sb D ids sh SP Q n kc ks h (pc + 1) lv (.long (hJ h a i.toNatClampNeg) :: st) o) : jJ p l e R s m args below meth c nL sb D ids sh SP Q n kc ks h pc lv (.int i :: .ref a :: st) (if inb i N then o else none) := by
  intro r hr hsp H locs ls hP hS hl
  by_cases hi : inb i N = true
  · rw [if_pos hi] at hr
    obtain ⟨hx, hb, -, -, -, -, hK, -⟩ := hC
    refine va_lald hx hb hK hP a 2 (n := N) (f := fun i => hJ h a i) (by rw [wls_get ha, cel_long hs]) rfl (inb_in hi) hd ?_
    exact kk r hr hsp H locs ls hP hS hl
  · rw [if_neg hi] at hr; cases hr
theorem j_aald {i : Int32} {q : Nat × Nat} {kf : Nat → Option ρ} (hC : jC p s m args meth c cc own nL sb D ids) (hs : sh a = (24, N)) (ha : a < n) (hd : decode cc pc = .ok (.aaload, 1)) (kk : ∀ x, hR h a i.toNatClampNeg = some x → sh x = q → jJ p l e R s m args below meth c nL sb D ids sh SP Q n kc ks h (pc + 1) lv (.ref x :: st) (kf x)) : jJ p l e R s m args below meth c nL sb D ids sh SP Q n kc ks h pc lv (.int i :: .ref a :: st) (if inb i N then (dref sh h a i.toNatClampNeg q).bind kf else none) := by
  intro r hr hsp H locs ls hP hS hl
  by_cases hi : inb i N = true
  · rw [if_pos hi] at hr
    obtain ⟨x, hx1, hr⟩ := Option.bind_eq_some_iff.mp hr
    obtain ⟨h1, h2⟩ := dref_some hx1
    obtain ⟨hx, hb, -, -, -, -, hK, -⟩ := hC
    refine va_aldq hx hb hK hP a 4 (C := "StrawMen$Law") (n := N) (f := fun i => (hR h a i).map (fun x => sb.heap.size + x)) (by rw [wls_get ha, cel_ref hs]) rfl (inb_in hi) hd ?_
    rw [h1]
    exact kk x h1 h2 r hr hsp H locs ls hP hS hl
  · rw [if_neg hi] at hr; cases hr
theorem j_iast {i x : Int32} (hC : jC p s m args meth c cc own nL sb D ids) (hSP : jSP SP) (hs : sh a = (21, N)) (ha : a < n) (hd : decode cc pc = .ok (.iastore, 1)) (kk : jJ p l e R s m args below meth c nL sb D ids sh SP Q n kc ks (uI h a i.toNatClampNeg (x)) (pc + 1) lv st o) : jJ p l e R s m args below meth c nL sb D ids sh SP Q n kc ks h pc lv (.int x :: .int i :: .ref a :: st) (if inb i N then o else none) := by
  intro r hr hsp H locs ls hP hS hl
  by_cases hi : inb i N = true
  · rw [if_pos hi] at hr
    obtain ⟨hx, hb, -, -, -, -, hK, -⟩ := hC
    refine va_iast hx hb hK hP wls_D hS a 1 (n := N) (f := fun i => hI h a i) (by rw [wls_get ha, cel_int hs (by decide)]) rfl (inb_in hi) hd (fun H1 locs1 hP1 hD1 hS1 => ?_)
    refine kk r hr (hSP.1 _ _ _ _ hsp) H1 locs1 ls ?_ hS1 hl
    skip
    rw [wls_set (h' := uI h a i.toNatClampNeg (x)) ?_ (fun y hy => cel_uI_ne hy)] at hP1
    · exact hP1
    · rw [cel_int hs (by decide)]
      congr 4
      funext j
      rw [hI_uI]
      unfold upd
      simp
  · rw [if_neg hi] at hr; cases hr
theorem j_bast {i x : Int32} (hC : jC p s m args meth c cc own nL sb D ids) (hSP : jSP SP) (hs : sh a = (20, N)) (ha : a < n) (hd : decode cc pc = .ok (.bastore, 1)) (kk : jJ p l e R s m args below meth c nL sb D ids sh SP Q n kc ks (uI h a i.toNatClampNeg (x.toInt8.toInt32)) (pc + 1) lv st o) : jJ p l e R s m args below meth c nL sb D ids sh SP Q n kc ks h pc lv (.int x :: .int i :: .ref a :: st) (if inb i N then o else none) := by
  intro r hr hsp H locs ls hP hS hl
  by_cases hi : inb i N = true
  · rw [if_pos hi] at hr
    obtain ⟨hx, hb, -, -, -, -, hK, -⟩ := hC
    refine va_bast hx hb hK hP wls_D hS a 0 (n := N) (f := fun i => hI h a i) (by rw [wls_get ha, cel_int hs (by decide)]) rfl (inb_in hi) hd (fun H1 locs1 hP1 hD1 hS1 => ?_)
    refine kk r hr (hSP.1 _ _ _ _ hsp) H1 locs1 ls ?_ hS1 hl
    rw [vp_nar_byte] at hP1
    rw [wls_set (h' := uI h a i.toNatClampNeg (x.toInt8.toInt32)) ?_ (fun y hy => cel_uI_ne hy)] at hP1
    · exact hP1
    · rw [cel_int hs (by decide)]
      congr 4
      funext j
      rw [hI_uI]
      unfold upd
      simp
  · rw [if_neg hi] at hr; cases hr
theorem j_zast {i x : Int32} (hC : jC p s m args meth c cc own nL sb D ids) (hSP : jSP SP) (hs : sh a = (23, N)) (ha : a < n) (hz : isZ x = true) (hd : decode cc pc = .ok (.bastore, 1)) (kk : jJ p l e R s m args below meth c nL sb D ids sh SP Q n kc ks (uI h a i.toNatClampNeg (x)) (pc + 1) lv st o) : jJ p l e R s m args below meth c nL sb D ids sh SP Q n kc ks h pc lv (.int x :: .int i :: .ref a :: st) (if inb i N then o else none) := by
  intro r hr hsp H locs ls hP hS hl
  by_cases hi : inb i N = true
  · rw [if_pos hi] at hr
    obtain ⟨hx, hb, -, -, -, -, hK, -⟩ := hC
    refine va_zast hx hb hK hP wls_D hS a 3 (n := N) (f := fun i => hI h a i) (by rw [wls_get ha, cel_int hs (by decide)]) rfl (inb_in hi) hd (fun H1 locs1 hP1 hD1 hS1 => ?_)
    refine kk r hr (hSP.1 _ _ _ _ hsp) H1 locs1 ls ?_ hS1 hl
    rw [show vp_nar .boolean x = x by rcases isZ_or hz with rfl | rfl <;> rfl] at hP1
    rw [wls_set (h' := uI h a i.toNatClampNeg (x)) ?_ (fun y hy => cel_uI_ne hy)] at hP1
    · exact hP1
    · rw [cel_int hs (by decide)]
      congr 4
      funext j
      rw [hI_uI]
      unfold upd
      simp
  · rw [if_neg hi] at hr; cases hr
theorem j_last {i : Int32} {x : Int64} (hC : jC p s m args meth c cc own nL sb D ids) (hSP : jSP SP) (hs : sh a = (22, N)) (ha : a < n) (hd : decode cc pc = .ok (.lastore, 1)) (kk : jJ p l e R s m args below meth c nL sb D ids sh SP Q n kc ks (uJ h a i.toNatClampNeg x) (pc + 1) lv st o) : jJ p l e R s m args below meth c nL sb D ids sh SP Q n kc ks h pc lv (.long x :: .int i :: .ref a :: st) (if inb i N then o else none) := by
  intro r hr hsp H locs ls hP hS hl
  by_cases hi : inb i N = true
  · rw [if_pos hi] at hr
    obtain ⟨hx, hb, -, -, -, -, hK, -⟩ := hC
    refine va_last hx hb hK hP wls_D hS a 2 (n := N) (f := fun i => hJ h a i) (by rw [wls_get ha, cel_long hs]) rfl (inb_in hi) hd (fun H1 locs1 hP1 hD1 hS1 => ?_)
    refine kk r hr (hSP.2 _ _ _ _ hsp) H1 locs1 ls ?_ hS1 hl
    rw [wls_set (h' := uJ h a i.toNatClampNeg x) ?_ (fun y hy => cel_uJ_ne hy)] at hP1
    · exact hP1
    · rw [cel_long hs]
      congr 5
      funext j
      rw [hJ_uJ]
      unfold vp_updL
      simp
  · rw [if_neg hi] at hr; cases hr
theorem j_alen {t : Nat} {v : Int32} (hC : jC p s m args meth c cc own nL sb D ids) (hs : sh a = (t, N)) (ha : a < n) (ht : t = 20 ∨ t = 21 ∨ t = 23) (hv : Int32.ofNat N = v) (hd : decode cc pc = .ok (.arraylength, 1)) (kk : jJ p l e R s m args below meth c nL sb D ids sh SP Q n kc ks h (pc + 1) lv (.int v :: st) o) : jJ p l e R s m args below meth c nL sb D ids sh SP Q n kc ks h pc lv (.ref a :: st) o := by
  intro r hr hsp H locs ls hP hS hl
  obtain ⟨hx, hb, -, -, -, -, hK, -⟩ := hC
  rcases ht with rfl | rfl | rfl
  · refine va_alen hx hb hK hP a 0 (x := (N, .inl (fun i => hI h a i))) (by rw [wls_get ha, cel_int hs (by decide)]) rfl hv hd ?_
    exact kk r hr hsp H locs ls hP hS hl
  · refine va_alen hx hb hK hP a 1 (x := (N, .inl (fun i => hI h a i))) (by rw [wls_get ha, cel_int hs (by decide)]) rfl hv hd ?_
    exact kk r hr hsp H locs ls hP hS hl
  · refine va_alen hx hb hK hP a 3 (x := (N, .inl (fun i => hI h a i))) (by rw [wls_get ha, cel_int hs (by decide)]) rfl hv hd ?_
    exact kk r hr hsp H locs ls hP hS hl
theorem j_alenJ {v : Int32} (hC : jC p s m args meth c cc own nL sb D ids) (hs : sh a = (22, N)) (ha : a < n) (hv : Int32.ofNat N = v) (hd : decode cc pc = .ok (.arraylength, 1)) (kk : jJ p l e R s m args below meth c nL sb D ids sh SP Q n kc ks h (pc + 1) lv (.int v :: st) o) : jJ p l e R s m args below meth c nL sb D ids sh SP Q n kc ks h pc lv (.ref a :: st) o := by
  intro r hr hsp H locs ls hP hS hl
  obtain ⟨hx, hb, -, -, -, -, hK, -⟩ := hC
  refine va_alen hx hb hK hP a 2 (x := (N, .inr (.inl (fun i => hJ h a i)))) (by rw [wls_get ha, cel_long hs]) rfl hv hd ?_
  exact kk r hr hsp H locs ls hP hS hl
/-- a number within a switch's rows -/
def inT (x : Int32) (lo hi : Int) : Bool := decide (lo ≤ x.toInt ∧ x.toInt ≤ hi)
theorem j_tswOut {x : Int32} {dflt lo hi : Int} {offs : Array Int} {len tgt : Nat} (hC : jC p s m args meth c cc own nL sb D ids) (hq : ¬ inT x lo hi = true) (ht : (pc : Int) + dflt = (tgt : Int)) (hd : decode cc pc = .ok (.tableswitch dflt lo hi offs, len)) (kk : jJ p l e R s m args below meth c nL sb D ids sh SP Q n kc ks h tgt lv st o) : jJ p l e R s m args below meth c nL sb D ids sh SP Q n kc ks h pc lv (.int x :: st) o := by
  intro r hr hsp H locs ls hP hS hl
  obtain ⟨hx, hb, -⟩ := hC
  refine lv_tableOut hx hb hd ?_ ht ?_
  · have : ¬ (lo ≤ x.toInt ∧ x.toInt ≤ hi) := fun q => hq (decide_eq_true q)
    omega
  · exact kk r hr hsp H locs ls hP hS hl
theorem j_tswIn {x v : Int32} {dflt lo hi off : Int} {offs : Array Int} {len tgt : Nat} (hC : jC p s m args meth c cc own nL sb D ids) (hq : x = v) (h1 : ¬ v.toInt < lo) (h2 : ¬ hi < v.toInt) (ho : offs[(v.toInt - lo).toNat]? = some off) (ht : (pc : Int) + off = (tgt : Int)) (hd : decode cc pc = .ok (.tableswitch dflt lo hi offs, len)) (kk : jJ p l e R s m args below meth c nL sb D ids sh SP Q n kc ks h tgt lv st o) : jJ p l e R s m args below meth c nL sb D ids sh SP Q n kc ks h pc lv (.int x :: st) o := by
  intro r hr hsp H locs ls hP hS hl
  subst hq
  obtain ⟨hx, hb, -⟩ := hC
  refine lv_tableIn hx hb hd h1 h2 ho ht ?_
  exact kk r hr hsp H locs ls hP hS hl
end JA
