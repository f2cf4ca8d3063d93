/-! Rows of the judgement that read and write the heap, return, and call. -/
/-- a field's link: class own, entry index: slot k of the class ci -/
def jFl (own : String) (index ci k : Nat) : Prop := ∃ (C : String) (T : u_T) (N : Nat), vwCl[ci]? = some (C, T, N) ∧ (∀ w ∈ u_ws C T N, w ∈ TW) ∧ k < N ∧ (T k).1 = C ∧ Cond.fieldLink own index C (T k).2.1 (T k).2.2.1 ∈ TW ∧ (∀ a, a < N → ∀ b, b < N → a ≠ b → (T a).2.1 ≠ (T b).2.1) ∧ ∀ k, k < N → parseFieldDescriptor (T k).2.2.1 = some (tyC ci k)
/-- whether a slot is final -/
def jFin (ci k : Nat) : Bool := match vwCl[ci]? with
  | some q => (q.2.1 k).2.2.2
  | none => true
def dref (sh : Nat → Nat × Nat) (h : Hp) (a k : Nat) (q : Nat × Nat) : Option Nat := match hR h a k with
  | some x => if sh x = q then some x else none
  | none => none
theorem dref_some {sh : Nat → Nat × Nat} {h : Hp} {a k x : Nat} {q : Nat × Nat} (hx : dref sh h a k q = some x) : hR h a k = some x ∧ sh x = q := by
  unfold dref at hx
  split at hx
  · split at hx
    · cases hx; exact ⟨by assumption, by assumption⟩
    · cases hx
  · cases hx
section JH
variable {ρ : Type} {p : Program} {l : Launch} {e : Env} {R : Room} {s : State} {m : MethodId} {args : Array Value} {below : List Frame} {meth : Method} {c : Code} {cc : ByteArray} {own : String} {nL : Nat} {sb : State} {D : va_G} {ids : Nat → ClassId} {sh : Nat → Nat × Nat} {SP : Hp → Prop} {Q : ρ → State → Prop} {n kc ks : Nat} {h : Hp} {pc : Nat} {lv lv' : List (Nat × Value)} {st : List Value} {o o1 o2 : Option ρ} {a k ci N index : Nat}
theorem j_ite {P : Prop} [Decidable P] (kt : P → jJ p l e R s m args below meth c nL sb D ids sh SP Q n kc ks h pc lv st o1) (kf : ¬ P → jJ p l e R s m args below meth c nL sb D ids sh SP Q n kc ks h pc lv st o2) : jJ p l e R s m args below meth c nL sb D ids sh SP Q n kc ks h pc lv st (if P then o1 else o2) := by
  by_cases q : P
  · rw [if_pos q]; exact kt q
  · rw [if_neg q]; exact kf q
theorem jget (hC : jC p s m args meth c cc own nL sb D ids) (hF : jFl own index ci k) (hs : sh a = (ci, N)) (ha : a < n) (hk : k < N) (hc10 : ci ≤ 10) {H : Heap} {locs : List Loc} {ls : Array Slot} {rest : List Value} {Qw : State → Prop} (hP : va_P D vwCl (wls ids sh sb.heap.size n h) H) (hd : decode cc pc = .ok (.getfield index, 3))
    (kk : W p l e R s m args below meth c H locs kc ks Qw (F0 m (pc + 3) ls (fvl sb.heap.size h (tyC ci k) a k :: rest))) : W p l e R s m args below meth c H locs kc ks Qw (F0 m pc ls (.ref (sb.heap.size + a) :: rest)) := by
  obtain ⟨hx, hb, hml, hown, hts, hlk, hK, -⟩ := hC
  obtain ⟨C, T, N', h1, h2, h3, h4, h5, -, -⟩ := hF
  refine va_get hx hb hts h2 hown hK hP a (fs := (List.range N).map (fun k => fvl sb.heap.size h (tyC ci k) a k)) ?_ h1 k h3 (ref := C) (hts _ h5) (fun x hx => by rw [h4] at hx; exact hx) (rng_get _ hk) hd kk
  rw [wls_get ha, cel_obj hs hc10]
theorem j_getI (hC : jC p s m args meth c cc own nL sb D ids) (hF : jFl own index ci k) (hs : sh a = (ci, N)) (ha : a < n) (hk : k < N) (hc10 : ci ≤ 10) (hty : ∀ b h a, fvl b h (tyC ci k) a k = .int (hI h a k)) (hd : decode cc pc = .ok (.getfield index, 3))
    (kk : jJ p l e R s m args below meth c nL sb D ids sh SP Q n kc ks h (pc + 3) lv (.int (hI h a k) :: st) o) : jJ p l e R s m args below meth c nL sb D ids sh SP Q n kc ks h pc lv (.ref a :: st) o := by
  intro r hr hsp H locs ls hP hS hl
  refine jget hC hF hs ha hk hc10 hP hd ?_
  rw [hty]
  exact kk r hr hsp H locs ls hP hS hl
theorem j_getJ (hC : jC p s m args meth c cc own nL sb D ids) (hF : jFl own index ci k) (hs : sh a = (ci, N)) (ha : a < n) (hk : k < N) (hc10 : ci ≤ 10) (hty : ∀ b h a, fvl b h (tyC ci k) a k = .long (hJ h a k)) (hd : decode cc pc = .ok (.getfield index, 3))
    (kk : jJ p l e R s m args below meth c nL sb D ids sh SP Q n kc ks h (pc + 3) lv (.long (hJ h a k) :: st) o) : jJ p l e R s m args below meth c nL sb D ids sh SP Q n kc ks h pc lv (.ref a :: st) o := by
  intro r hr hsp H locs ls hP hS hl
  refine jget hC hF hs ha hk hc10 hP hd ?_
  rw [hty]
  exact kk r hr hsp H locs ls hP hS hl
/-- a reference that is known -/
theorem j_getR {x : Nat} (hC : jC p s m args meth c cc own nL sb D ids) (hF : jFl own index ci k) (hs : sh a = (ci, N)) (ha : a < n) (hk : k < N) (hc10 : ci ≤ 10) (hty : ∀ b h a, fvl b h (tyC ci k) a k = jrf b (hR h a k)) (hx : SP h → hR h a k = some x) (hd : decode cc pc = .ok (.getfield index, 3))
    (kk : jJ p l e R s m args below meth c nL sb D ids sh SP Q n kc ks h (pc + 3) lv (.ref x :: st) o) : jJ p l e R s m args below meth c nL sb D ids sh SP Q n kc ks h pc lv (.ref a :: st) o := by
  intro r hr hsp H locs ls hP hS hl
  refine jget hC hF hs ha hk hc10 hP hd ?_
  rw [hty, hx hsp]
  exact kk r hr hsp H locs ls hP hS hl
/-- a reference that is asked: it is there and of the shape q -/
theorem j_getD {q : Nat × Nat} {kf : Nat → Option ρ} (hC : jC p s m args meth c cc own nL sb D ids) (hF : jFl own index ci k) (hs : sh a = (ci, N)) (ha : a < n) (hk : k < N) (hc10 : ci ≤ 10) (hty : ∀ b h a, fvl b h (tyC ci k) a k = jrf b (hR h a k)) (hd : decode cc pc = .ok (.getfield index, 3))
    (kk : ∀ x, hR h a k = some x → sh x = q → jJ p l e R s m args below meth c nL sb D ids sh SP Q n kc ks h (pc + 3) lv (.ref x :: st) (kf x)) : jJ p l e R s m args below meth c nL sb D ids sh SP Q n kc ks h pc lv (.ref a :: st) ((dref sh h a k q).bind kf) := by
  intro r hr hsp H locs ls hP hS hl
  obtain ⟨x, hx, hr⟩ := Option.bind_eq_some_iff.mp hr
  obtain ⟨h1, h2⟩ := dref_some hx
  refine jget hC hF hs ha hk hc10 hP hd ?_
  rw [hty, h1]
  exact kk x h1 h2 r hr hsp H locs ls hP hS hl
theorem jput {v : Value} {h' : Hp} (hC : jC p s m args meth c cc own nL sb D ids) (hF : jFl own index ci k) (hs : sh a = (ci, N)) (ha : a < n) (hk : k < N) (hc10 : ci ≤ 10) (hfin : jFin ci k = false) (hn : narrow (tyC ci k) v = v) (hfit : fits (tyC ci k) v = true)
    (hv : fvl sb.heap.size h' (tyC ci k) a k = v) (ho : ∀ j, j ≠ k → fvl sb.heap.size h' (tyC ci j) a j = fvl sb.heap.size h (tyC ci j) a j) (hoc : ∀ x, x ≠ a → celE ids sb.heap.size (sh x) h' x = celE ids sb.heap.size (sh x) h x) {H : Heap} {locs : List Loc} {ls : Array Slot} {rest : List Value} {Qw : State → Prop} (hP : va_P D vwCl (wls ids sh sb.heap.size n h) H) (hS : va_S (jA sb) s.heap H locs) (hd : decode cc pc = .ok (.putfield index, 3))
    (kk : ∀ (H1 : Heap) (locs1 : List Loc), va_P D vwCl (wls ids sh sb.heap.size n h') H1 → va_S (jA sb) s.heap H1 locs1 → W p l e R s m args below meth c H1 locs1 kc ks Qw (F0 m (pc + 3) ls rest)) : W p l e R s m args below meth c H locs kc ks Qw (F0 m pc ls (v :: .ref (sb.heap.size + a) :: rest)) := by
  obtain ⟨hx, hb, hml, hown, hts, hlk, hK, -⟩ := hC
  obtain ⟨C, T, N', h1, h2, h3, h4, h5, h6, h7⟩ := hF
  refine va_put hx hb hts h2 (tyC ci) h7 h6 hown hK hP wls_D hS a (fs := (List.range N).map (fun k => fvl sb.heap.size h (tyC ci k) a k)) (by rw [wls_get ha, cel_obj hs hc10]) h1 k h3 (ref := C) (hts _ h5) (fun x hx => by rw [h4] at hx; exact hx) ?_ (h7 k h3) hn hfit (by simpa using hk) hd ?_
  · simpa [jFin, h1] using hfin
  · intro H1 locs1 hP1 hD1 hS1
    refine kk H1 locs1 ?_ hS1
    rw [wls_set (h' := h') (e := .inr (ci, ((List.range N).map (fun k => fvl sb.heap.size h (tyC ci k) a k)).set k v)) ?_ hoc] at hP1
    · exact hP1
    · rw [cel_obj hs hc10, rng_set N k _ (fun k => fvl sb.heap.size h' (tyC ci k) a k) v hv ho]
theorem fvl_uI_ne (b : Nat) (h : Hp) (ty : FieldType) (a k j : Nat) (v : Int32) (hj : j ≠ k) : fvl b (uI h a k v) ty a j = fvl b h ty a j := by
  unfold fvl; split <;> simp [hI_uI, hJ_uI, hR_uI, hj]
theorem fvl_uJ_ne (b : Nat) (h : Hp) (ty : FieldType) (a k j : Nat) (v : Int64) (hj : j ≠ k) : fvl b (uJ h a k v) ty a j = fvl b h ty a j := by
  unfold fvl; split <;> simp [hI_uJ, hJ_uJ, hR_uJ, hj]
theorem fvl_uR_ne (b : Nat) (h : Hp) (ty : FieldType) (a k j : Nat) (v : Option Nat) (hj : j ≠ k) : fvl b (uR h a k v) ty a j = fvl b h ty a j := by
  unfold fvl; split <;> simp [hI_uR, hJ_uR, hR_uR, hj]
theorem j_putI {x : Int32} (hC : jC p s m args meth c cc own nL sb D ids) (hSP : jSP SP) (hF : jFl own index ci k) (hs : sh a = (ci, N)) (ha : a < n) (hk : k < N) (hc10 : ci ≤ 10) (hfin : jFin ci k = false) (hty : tyC ci k = .int) (hd : decode cc pc = .ok (.putfield index, 3))
    (kk : jJ p l e R s m args below meth c nL sb D ids sh SP Q n kc ks (uI h a k x) (pc + 3) lv st o) : jJ p l e R s m args below meth c nL sb D ids sh SP Q n kc ks h pc lv (.int x :: .ref a :: st) o := by
  intro r hr hsp H locs ls hP hS hl
  refine jput (v := .int x) (h' := uI h a k x) hC hF hs ha hk hc10 hfin (by rw [hty]; rfl) (by rw [hty]; rfl) (by rw [hty]; show Value.int (hI (uI h a k x) a k) = _; rw [hI_uI, if_pos ⟨rfl, rfl⟩]) (fun j hj => fvl_uI_ne _ _ _ _ _ _ _ hj) (fun y hy => cel_uI_ne hy) hP hS hd (fun H1 locs1 hP1 hS1 => ?_)
  exact kk r hr (hSP.1 _ _ _ _ hsp) H1 locs1 ls hP1 hS1 hl
theorem j_putZ {x : Int32} (hC : jC p s m args meth c cc own nL sb D ids) (hSP : jSP SP) (hF : jFl own index ci k) (hs : sh a = (ci, N)) (ha : a < n) (hk : k < N) (hc10 : ci ≤ 10) (hfin : jFin ci k = false) (hty : tyC ci k = .boolean) (hz : isZ x = true) (hd : decode cc pc = .ok (.putfield index, 3))
    (kk : jJ p l e R s m args below meth c nL sb D ids sh SP Q n kc ks (uI h a k x) (pc + 3) lv st o) : jJ p l e R s m args below meth c nL sb D ids sh SP Q n kc ks h pc lv (.int x :: .ref a :: st) o := by
  intro r hr hsp H locs ls hP hS hl
  refine jput (v := .int x) (h' := uI h a k x) hC hF hs ha hk hc10 hfin (by rw [hty]; exact isZ_nar hz) (by rw [hty]; exact isZ_fit hz) (by rw [hty]; show Value.int (hI (uI h a k x) a k) = _; rw [hI_uI, if_pos ⟨rfl, rfl⟩]) (fun j hj => fvl_uI_ne _ _ _ _ _ _ _ hj) (fun y hy => cel_uI_ne hy) hP hS hd (fun H1 locs1 hP1 hS1 => ?_)
  exact kk r hr (hSP.1 _ _ _ _ hsp) H1 locs1 ls hP1 hS1 hl
theorem j_putJ {x : Int64} (hC : jC p s m args meth c cc own nL sb D ids) (hSP : jSP SP) (hF : jFl own index ci k) (hs : sh a = (ci, N)) (ha : a < n) (hk : k < N) (hc10 : ci ≤ 10) (hfin : jFin ci k = false) (hty : tyC ci k = .long) (hd : decode cc pc = .ok (.putfield index, 3))
    (kk : jJ p l e R s m args below meth c nL sb D ids sh SP Q n kc ks (uJ h a k x) (pc + 3) lv st o) : jJ p l e R s m args below meth c nL sb D ids sh SP Q n kc ks h pc lv (.long x :: .ref a :: st) o := by
  intro r hr hsp H locs ls hP hS hl
  refine jput (v := .long x) (h' := uJ h a k x) hC hF hs ha hk hc10 hfin (by rw [hty]; rfl) (by rw [hty]; rfl) (by rw [hty]; show Value.long (hJ (uJ h a k x) a k) = _; rw [hJ_uJ, if_pos ⟨rfl, rfl⟩]) (fun j hj => fvl_uJ_ne _ _ _ _ _ _ _ hj) (fun y hy => cel_uJ_ne hy) hP hS hd (fun H1 locs1 hP1 hS1 => ?_)
  exact kk r hr (hSP.2 _ _ _ _ hsp) H1 locs1 ls hP1 hS1 hl
theorem j_putR {x : Nat} {C : String} (hC : jC p s m args meth c cc own nL sb D ids) (hF : jFl own index ci k) (hs : sh a = (ci, N)) (ha : a < n) (hk : k < N) (hc10 : ci ≤ 10) (hfin : jFin ci k = false) (hty : tyC ci k = .object C) (hsp' : SP h → SP (uR h a k (some x))) (hd : decode cc pc = .ok (.putfield index, 3))
    (kk : jJ p l e R s m args below meth c nL sb D ids sh SP Q n kc ks (uR h a k (some x)) (pc + 3) lv st o) : jJ p l e R s m args below meth c nL sb D ids sh SP Q n kc ks h pc lv (.ref x :: .ref a :: st) o := by
  intro r hr hsp H locs ls hP hS hl
  refine jput (v := .ref (sb.heap.size + x)) (h' := uR h a k (some x)) hC hF hs ha hk hc10 hfin (by rw [hty]; rfl) (by rw [hty]; rfl) (by rw [hty]; show jrf sb.heap.size (hR (uR h a k (some x)) a k) = _; rw [hR_uR, if_pos ⟨rfl, rfl⟩]; rfl) (fun j hj => fvl_uR_ne _ _ _ _ _ _ _ hj) (fun y hy => cel_uR_ne hy) hP hS hd (fun H1 locs1 hP1 hS1 => ?_)
  exact kk r hr (hsp' hsp) H1 locs1 ls hP1 hS1 hl
end JH
