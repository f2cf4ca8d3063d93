/-! match: the class's choice. -/
theorem tkN_lt (b : Nat → Nat) : ∀ m, tkN b m < 32
  | 0 => show 0 < 32 by decide
  | m + 1 => by
    have := tkN_lt b m
    rw [tkN]
    cases z : grN b m (tkN b m) with
    | none => exact this
    | some s =>
      have := fsF_lt (show fsF _ 5 0 = some s from z)
      exact or32 (by assumption) (by omega)
section V
variable {hc hm : Hp} {S : Nat} {T : Tx}
theorem oI2_ne {k : Nat} (h : k < 2 ^ 31) : (nI k = -nI 2) = False := eq_false (fun z => by
  have := congrArg Int32.toInt z
  rw [nI_toInt h, show (-nI 2).toInt = -2 by decide] at this
  omega)
def gp (b : Nat → Nat) (m t s : Nat) : Bool := ok1 (b m) t s && decide (1 + bs b (4 - m) (t ||| 2 ^ s) = bs b (5 - m) t)
/-- the rest of the tries for a member that has chosen -/
theorem x_c27 {b : Nat → Nat} {m t : Nat} (hm' : m < 5) (ht : t < 32) (rec : Hp → Int32 → Int32 → Option Hp) : ∀ (d k fu : Nat) (h : Hp), k + d = 5 → d < fu → R4 h b → TBm h b 0 → hI h 105 m = -nI 2 → fX3_choose_27 fu rec h (nI t) (nI m) (nI (bs b (5 - m) t)) (nI k) = fX3_choose_70 rec (match fsF (gp b m t) d k with | none => h | some s => uI h 105 m (nI s)) (nI t) (nI m)
  | 0, k, fu + 1, h, hk, _, _, _, _ => by
    rw [fX3_choose_27]; simp (disch := omega) only [lit, ↓reduceIte, leT, fsF]
  | d + 1, k, fu + 1, h, hk, hf, r4, tb, h5 => by
    have ih := x_c27 hm' ht rec d (k + 1) fu h (by omega) (by omega) r4 tb h5
    have ws := x_ws r4 (fun j u h1 h2 h3 => tb j u (by omega) h2 h3) hm' ht (show k < 5 by omega)
    have l1 := bs_le b (5 - m) t
    have l2 := bs_le b (4 - m) (t ||| 2 ^ k)
    have fin : ∀ (k' : Nat) (g : Hp) (j : Nat), hI g 105 m = nI j → j < 5 → ∀ fu, fX3_choose_27 (fu + 1) rec g (nI t) (nI m) (nI (bs b (5 - m) t)) (nI k') = fX3_choose_70 rec g (nI t) (nI m) := by
      intro k' g j hj hj5 fu
      rw [fX3_choose_27]
      simp (disch := omega) only [lit, inbN, ↓reduceIte, nI_clamp, hj, oI2_ne, ite_self]
    rw [fX3_choose_27, fsF]
    by_cases q : gp b m t k = true
    · rw [if_pos q]
      unfold gp at q
      rw [Bool.and_eq_true, decide_eq_true_eq] at q
      rw [if_pos q.1] at ws
      obtain ⟨fu', rfl⟩ : ∃ z, fu = z + 1 := ⟨fu - 1, by omega⟩
      have e := fin (k + 1) (uI h 105 m (nI k)) k (hI_at ⟨rfl, rfl⟩) (by omega) fu'
      simp (disch := omega) only [lit, inbN, ↓reduceIte, leF, nI_clamp, h5, ws, bnd_some, q.2, fX3_choose_64, nI_add]
      exact e
    · rw [if_neg q]
      have ne : ¬ (if ok1 (b m) t k = true then nI (1 + bs b (4 - m) (t ||| 2 ^ k)) else -nI 1) = nI (bs b (5 - m) t) := by
        unfold gp at q
        rw [Bool.and_eq_true, decide_eq_true_eq] at q
        by_cases z : ok1 (b m) t k = true
        · rw [if_pos z]
          exact fun w => q ⟨z, nI_inj (by omega) (by omega) w⟩
        · rw [if_neg z]
          exact of_eq_false (m1_ne (by omega))
      simp (disch := omega) only [lit, inbN, ↓reduceIte, leF, nI_clamp, h5, ws, bnd_some, fX3_choose_64, nI_add]
      rw [if_neg ne]
      exact ih
theorem x_cho1 {b : Nat → Nat} : ∀ (d m fu : Nat) (h : Hp), m + d = 5 → d < fu → Fr P3 PJ3 hc h → R4 h b → TBm h b 0 → (∀ j, j < m → hI h 105 j = oI2 (grN b j (tkN b j))) → ∃ h', fX3_choose_4 fu h (nI (tkN b m)) (nI m) = some h' ∧ Fr P3 PJ3 hc h' ∧ hI h' 103 0 = hI h 103 0 ∧ ∀ j, j < 5 → hI h' 105 j = oI2 (grN b j (tkN b j))
  | 0, m, fu + 1, h, hk, _, f, r4, tb, row => by
    have e : m = 5 := by omega
    subst e
    refine ⟨h, ?_, f, rfl, row⟩
    rw [fX3_choose_4]; simp (disch := omega) only [lit, ↓reduceIte, leT]
  | d + 1, m, fu + 1, h, hk, hf, f, r4, tb, row => by
    have tl := tkN_lt b m
    have ih := fun h => x_cho1 (b := b) d (m + 1) fu h (by omega) (by omega)
    have r4' : R4 (uI h 105 m (-nI 2)) b := fun i hi => by rw [hI_ne (by omega)]; exact r4 i hi
    have tb' : TBm (uI h 105 m (-nI 2)) b 0 := fun j u h1 h2 h3 => by rw [hI_ne (by omega)]; exact tb j u h1 h2 h3
    have e1 := x_c27 (b := b) (m := m) (t := tkN b m) (by omega) tl (fX3_choose_4 fu) 5 0 FU (uI h 105 m (-nI 2)) rfl (by decide) r4' tb' (hI_at ⟨rfl, rfl⟩)
    have e2 := tb' m (tkN b m) (by omega) (by omega) tl
    have tk1 : tkN b (m + 1) = match grN b m (tkN b m) with | none => tkN b m | some s => tkN b m ||| 2 ^ s := rfl
    have gg : fsF (gp b m (tkN b m)) 5 0 = grN b m (tkN b m) := rfl
    rw [gg] at e1
    rw [fX3_choose_4]
    simp (disch := omega) only [lit, ↓reduceIte, leF, inbN, nI_clamp, x_pf, e2, bnd_some]
    rw [show nI 0 = nI 0 from rfl, e1]
    cases z : grN b m (tkN b m) with
    | none =>
      rw [z] at tk1
      obtain ⟨h', a1, a2, a3, a4⟩ := ih (uI h 105 m (-nI 2)) (f.uI (by unfold P3; omega)) r4' tb' (fun j hj => by
        by_cases q : j = m
        · subst q; rw [hI_at ⟨rfl, rfl⟩, z]; rfl
        · rw [hI_ne (by omega)]; exact row j (by omega))
      rw [tk1] at a1
      refine ⟨h', ?_, a2, by rw [a3, hI_ne (by omega)], a4⟩
      unfold fX3_choose_70
      have h5 : hI (uI h 105 m (-nI 2)) 105 m = -nI 2 := hI_at ⟨rfl, rfl⟩
      simp (disch := omega) only [lit, inbN, ↓reduceIte, nI_clamp, h5, fX3_choose_92, nI_add]
      exact a1
    | some k =>
      rw [z] at tk1
      have k5 := fsF_lt (show fsF _ 5 0 = some k from z)
      have h5 : hI (uI (uI h 105 m (-nI 2)) 105 m (nI k)) 105 m = nI k := hI_at ⟨rfl, rfl⟩
      obtain ⟨h', a1, a2, a3, a4⟩ := ih (uI (uI h 105 m (-nI 2)) 105 m (nI k)) ((f.uI (by unfold P3; omega)).uI (by unfold P3; omega)) (fun i hi => by rw [hI_ne (by omega)]; exact r4' i hi) (fun j u h1 h2 h3 => by rw [hI_ne (by omega)]; exact tb' j u h1 h2 h3) (fun j hj => by
        by_cases q : j = m
        · subst q; rw [h5, z]; rfl
        · rw [hI_ne (by omega), hI_ne (by omega)]; exact row j (by omega))
      rw [tk1] at a1
      refine ⟨h', ?_, a2, by rw [a3, hI_ne (by omega), hI_ne (by omega)], a4⟩
      unfold fX3_choose_70
      simp (disch := omega) only [lit, inbN, ↓reduceIte, nI_clamp, h5, oI2_ne, shl1, nx_o, fX3_choose_92, nI_add]
      exact a1
theorem x_p45 {b : Nat → Nat} : ∀ (m fu : Nat) (h : Hp), m ≤ 5 → m < fu → Fr P3 PJ3 hc h → R4 h b → TBm h b m → ∃ h', fX3_pair_45 fu 72 h (nI m + -nI 1) = some h' ∧ Fr P3 PJ3 hc h' ∧ hI h' 103 0 = nI (bs b 5 0) ∧ ∀ j, j < 5 → hI h' 105 j = oI2 (grN b j (tkN b j))
  | 0, fu + 1, h, _, _, f, r4, tb => by
    have e := tb 0 0 (by omega) (by omega) (by omega)
    obtain ⟨h', a1, a2, a3, a4⟩ := x_cho1 (hc := hc) (b := b) 5 0 FU (uI h 103 0 (nI (bs b 5 0))) rfl (by decide) (f.uI (by unfold P3; omega)) (fun i hi => by rw [hI_ne (by omega)]; exact r4 i hi) (fun j u h1 h2 h3 => by rw [hI_ne (by omega)]; exact tb j u h1 h2 h3) (fun j hj => by omega)
    refine ⟨h', ?_, a2, by rw [a3, hI_at ⟨rfl, rfl⟩], a4⟩
    rw [fX3_pair_45]
    have : (nI 0 + -nI 1 < nI 0) = True := eq_true (by decide)
    simp (disch := omega) only [lit, this, ↓reduceIte, x_pf, e, bnd_some, fX3_choose]
    rw [show tkN b 0 = 0 from rfl] at a1
    rw [a1]; rfl
  | m + 1, fu + 1, h, hm5, hf, f, r4, tb => by
    obtain ⟨h1, a1, a2, a3, a4⟩ := x_p51 (b := b) (m := m) (by omega) (fX3_pair_45 fu 72) 32 0 FU h rfl (by decide) f r4 tb (fun u hu => by omega)
    obtain ⟨h', b1, b2⟩ := x_p45 m fu h1 (by omega) (by omega) a2 a3 a4
    refine ⟨h', ?_, b2⟩
    rw [nI_dec (by omega), Nat.add_sub_cancel, fX3_pair_45]
    simp (disch := omega) only [lit, ↓reduceIte, ltF]
    exact a1.trans b1
theorem x_p2 (s : R2 hc hm S T) {sh : Nat} (hsh : sh < 2 ^ 31) (h2 : hI hc 72 2 = nI sh) : ∀ (d k fu : Nat) (h : Hp), k + d = 5 → d < fu → Fr P3 PJ3 hc h → (∀ m, m < k → hI h 104 m = nI (bmT hm T sh m)) → ∃ h', fX3_pair_2 fu 72 h (nI k) = some h' ∧ Fr P3 PJ3 hc h' ∧ hI h' 103 0 = nI (bs (bmT hm T sh) 5 0) ∧ ∀ j, j < 5 → hI h' 105 j = oI2 (grN (bmT hm T sh) j (tkN (bmT hm T sh) j))
  | 0, k, fu + 1, h, hk, _, f, row => by
    have e : k = 5 := by omega
    subst e
    have F := s.1.2.2.2.1
    obtain ⟨h', a1, a2⟩ := x_p45 (hc := hc) (b := bmT hm T sh) 5 FU h (by omega) (by decide) f (fun m h1 => ⟨row m h1, bmT_lt F hm sh m⟩) (fun j t h1 h2 h3 => by
      have e : j = 5 := by omega
      subst e
      rw [f.1 _ _ (by unfold P3; omega)]
      exact s.1.2.2.2.2.2.2.2.2.1.2.2 _ (by omega) (by omega))
    refine ⟨h', ?_, a2⟩
    rw [fX3_pair_2]; simp (disch := omega) only [lit, ↓reduceIte, leT]
    rw [nI_dec (by omega)] at a1
    exact a1
  | d + 1, k, fu + 1, h, hk, hf, f, row => by
    have s' := s
    obtain ⟨⟨hS, -, -, F, Rc, -⟩, ⟨w, -⟩, -⟩ := s'
    have h5 := F.1.2.2.2.1
    have R' : RSc h S T := RSc_Fr hS Rc f (fun a i h1 h2 => by unfold P3; omega)
    have e0 := dref_of (h := h) (q := (7, 20)) (show hR h 72 0 = some S by rw [f.2.2]; exact w.1) (sS hS)
    have nx : ∀ g, Fr P3 PJ3 hc g → (∀ m, m < k → hI g 104 m = nI (bmT hm T sh m)) → ∃ h', fX3_pair_36 72 (fX3_pair_2 fu 72) g (nI k) (nI k) (nI (bmT hm T sh k)) = some h' ∧ Fr P3 PJ3 hc h' ∧ hI h' 103 0 = nI (bs (bmT hm T sh) 5 0) ∧ ∀ j, j < 5 → hI h' 105 j = oI2 (grN (bmT hm T sh) j (tkN (bmT hm T sh) j)) := by
      intro g fg rg
      obtain ⟨h', a1, a2⟩ := x_p2 s hsh h2 d (k + 1) fu (uI g 104 k (nI (bmT hm T sh k))) (by omega) (by omega) (fg.uI (by unfold P3; omega)) (fun m hm' => by
        by_cases q : m = k
        · subst q; exact hI_at ⟨rfl, rfl⟩
        · rw [hI_ne (by omega)]; exact rg m (by omega))
      refine ⟨h', ?_, a2⟩
      unfold fX3_pair_36
      simp (disch := omega) only [lit, inbN, ↓reduceIte, nI_clamp, nI_add]
      exact a1
    rw [fX3_pair_2]
    by_cases q : k < T 0 3
    · obtain ⟨g, b1, b2, b3⟩ := x_bb1 s hsh h2 q (T 0 2) 0 FU h (by omega) (Nat.lt_of_le_of_lt F.1.2.2.1 (by decide)) f
      obtain ⟨h', a1, a2⟩ := nx g b2 (fun m hm' => by rw [b3.1 _ _ (fun z => z)]; exact row m hm')
      refine ⟨h', ?_, a2⟩
      have eb : bmT hm T sh k = bmK sh (wv hm T) k (T 0 2) := if_pos q
      rw [eb] at a1
      have b1' : fX3_beatableBy 72 h (nI k) = some (nI (bmK sh (wv hm T) k (T 0 2)), g) := b1
      simp (disch := omega) only [lit, ↓reduceIte, leF, e0, bind_some', rS4 hS, R'.1.2.2.2.1, b1', bnd_some]
      exact a1
    · obtain ⟨h', a1, a2⟩ := nx h f row
      refine ⟨h', ?_, a2⟩
      have eb : bmT hm T sh k = 0 := if_neg q
      rw [eb] at a1
      simp (disch := omega) only [lit, ↓reduceIte, leF, leT, e0, bind_some', rS4 hS, R'.1.2.2.2.1]
      exact a1
theorem x_pair (s : R2 hc hm S T) {sh : Nat} (hsh : sh < 2 ^ 31) (h2 : hI hc 72 2 = nI sh) : ∃ h', fX3_pair 72 hc = some h' ∧ Fr P3 PJ3 hc h' ∧ hI h' 103 0 = nI (bs (bmT hm T sh) 5 0) ∧ ∀ j, j < 5 → hI h' 105 j = oI2 (grN (bmT hm T sh) j (tkN (bmT hm T sh) j)) := by
  unfold fX3_pair
  exact x_p2 s hsh h2 5 0 FU hc rfl (by decide) Fr.rf (fun m hm' => by omega)
end V
