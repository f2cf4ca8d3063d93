/-! What holds at the law's entry; whole_start out of the pure answer. Printed by wip/whole/gen_prem.py. -/
def ntm : Term := .field (.string "StrawMen$Reader" 44) "java/lang/String" "value" "[B"
theorem andL {a b : Cond} {args : Array Value} {s : State} (h : (Jvm.Cond.and a b).before args s = true) : a.before args s = true := by
  rw [Cond.before_and, Bool.and_eq_true] at h
  exact h.1
theorem andR {a b : Cond} {args : Array Value} {s : State} (h : (Jvm.Cond.and a b).before args s = true) : b.before args s = true := by
  rw [Cond.before_and, Bool.and_eq_true] at h
  exact h.2
set_option maxRecDepth 100000 in
theorem nr_words {args : Array Value} {s : State} (hq : (Jvm.Cond.and given_1 narrow_1).before args s = true) : ∀ j, j < 138 → (Cond.eq (.elem ntm (.int (Int32.ofNat j))) (.int (wrd j))).before args s = true := by
  have s0 := lt_0 (p := fun j => (Cond.eq (.elem ntm (.int (Int32.ofNat j))) (.int (wrd j))).before args s = true)
  have s1 := lt_s s0 (show (Cond.eq (.elem ntm (.int (Int32.ofNat 0))) (.int (wrd 0))).before args s = true from (andL (andL (andR (andR (andR (andR (andL (andL (andR hq))))))))))
  have s2 := lt_s s1 (show (Cond.eq (.elem ntm (.int (Int32.ofNat 1))) (.int (wrd 1))).before args s = true from (andR (andL (andR (andR (andR (andR (andL (andL (andR hq))))))))))
  have s3 := lt_s s2 (show (Cond.eq (.elem ntm (.int (Int32.ofNat 2))) (.int (wrd 2))).before args s = true from (andL (andR (andR (andR (andR (andR (andL (andL (andR hq))))))))))
  have s4 := lt_s s3 (show (Cond.eq (.elem ntm (.int (Int32.ofNat 3))) (.int (wrd 3))).before args s = true from (andR (andR (andR (andR (andR (andR (andL (andL (andR hq))))))))))
  have s5 := lt_s s4 (show (Cond.eq (.elem ntm (.int (Int32.ofNat 4))) (.int (wrd 4))).before args s = true from (andL (andL (andL (andL (andL (andR (andL (andR hq)))))))))
  have s6 := lt_s s5 (show (Cond.eq (.elem ntm (.int (Int32.ofNat 5))) (.int (wrd 5))).before args s = true from (andL (andR (andL (andL (andL (andL (andR (andL (andR hq))))))))))
  have s7 := lt_s s6 (show (Cond.eq (.elem ntm (.int (Int32.ofNat 6))) (.int (wrd 6))).before args s = true from (andR (andR (andL (andL (andL (andL (andR (andL (andR hq))))))))))
  have s8 := lt_s s7 (show (Cond.eq (.elem ntm (.int (Int32.ofNat 7))) (.int (wrd 7))).before args s = true from (andL (andL (andR (andL (andL (andL (andR (andL (andR hq))))))))))
  have s9 := lt_s s8 (show (Cond.eq (.elem ntm (.int (Int32.ofNat 8))) (.int (wrd 8))).before args s = true from (andR (andL (andR (andL (andL (andL (andR (andL (andR hq))))))))))
  have s10 := lt_s s9 (show (Cond.eq (.elem ntm (.int (Int32.ofNat 9))) (.int (wrd 9))).before args s = true from (andL (andR (andR (andL (andL (andL (andR (andL (andR hq))))))))))
  have s11 := lt_s s10 (show (Cond.eq (.elem ntm (.int (Int32.ofNat 10))) (.int (wrd 10))).before args s = true from (andR (andR (andR (andL (andL (andL (andR (andL (andR hq))))))))))
  have s12 := lt_s s11 (show (Cond.eq (.elem ntm (.int (Int32.ofNat 11))) (.int (wrd 11))).before args s = true from (andL (andL (andR (andL (andL (andR (andL (andR hq)))))))))
  have s13 := lt_s s12 (show (Cond.eq (.elem ntm (.int (Int32.ofNat 12))) (.int (wrd 12))).before args s = true from (andL (andR (andL (andR (andL (andL (andR (andL (andR hq))))))))))
  have s14 := lt_s s13 (show (Cond.eq (.elem ntm (.int (Int32.ofNat 13))) (.int (wrd 13))).before args s = true from (andR (andR (andL (andR (andL (andL (andR (andL (andR hq))))))))))
  have s15 := lt_s s14 (show (Cond.eq (.elem ntm (.int (Int32.ofNat 14))) (.int (wrd 14))).before args s = true from (andL (andL (andR (andR (andL (andL (andR (andL (andR hq))))))))))
  have s16 := lt_s s15 (show (Cond.eq (.elem ntm (.int (Int32.ofNat 15))) (.int (wrd 15))).before args s = true from (andR (andL (andR (andR (andL (andL (andR (andL (andR hq))))))))))
  have s17 := lt_s s16 (show (Cond.eq (.elem ntm (.int (Int32.ofNat 16))) (.int (wrd 16))).before args s = true from (andL (andR (andR (andR (andL (andL (andR (andL (andR hq))))))))))
  have s18 := lt_s s17 (show (Cond.eq (.elem ntm (.int (Int32.ofNat 17))) (.int (wrd 17))).before args s = true from (andR (andR (andR (andR (andL (andL (andR (andL (andR hq))))))))))
  have s19 := lt_s s18 (show (Cond.eq (.elem ntm (.int (Int32.ofNat 18))) (.int (wrd 18))).before args s = true from (andL (andL (andL (andR (andL (andR (andL (andR hq)))))))))
  have s20 := lt_s s19 (show (Cond.eq (.elem ntm (.int (Int32.ofNat 19))) (.int (wrd 19))).before args s = true from (andL (andR (andL (andL (andR (andL (andR (andL (andR hq))))))))))
  have s21 := lt_s s20 (show (Cond.eq (.elem ntm (.int (Int32.ofNat 20))) (.int (wrd 20))).before args s = true from (andR (andR (andL (andL (andR (andL (andR (andL (andR hq))))))))))
  have s22 := lt_s s21 (show (Cond.eq (.elem ntm (.int (Int32.ofNat 21))) (.int (wrd 21))).before args s = true from (andL (andL (andR (andL (andR (andL (andR (andL (andR hq))))))))))
  have s23 := lt_s s22 (show (Cond.eq (.elem ntm (.int (Int32.ofNat 22))) (.int (wrd 22))).before args s = true from (andR (andL (andR (andL (andR (andL (andR (andL (andR hq))))))))))
  have s24 := lt_s s23 (show (Cond.eq (.elem ntm (.int (Int32.ofNat 23))) (.int (wrd 23))).before args s = true from (andL (andR (andR (andL (andR (andL (andR (andL (andR hq))))))))))
  have s25 := lt_s s24 (show (Cond.eq (.elem ntm (.int (Int32.ofNat 24))) (.int (wrd 24))).before args s = true from (andR (andR (andR (andL (andR (andL (andR (andL (andR hq))))))))))
  have s26 := lt_s s25 (show (Cond.eq (.elem ntm (.int (Int32.ofNat 25))) (.int (wrd 25))).before args s = true from (andL (andL (andR (andR (andL (andR (andL (andR hq)))))))))
  have s27 := lt_s s26 (show (Cond.eq (.elem ntm (.int (Int32.ofNat 26))) (.int (wrd 26))).before args s = true from (andL (andR (andL (andR (andR (andL (andR (andL (andR hq))))))))))
  have s28 := lt_s s27 (show (Cond.eq (.elem ntm (.int (Int32.ofNat 27))) (.int (wrd 27))).before args s = true from (andR (andR (andL (andR (andR (andL (andR (andL (andR hq))))))))))
  have s29 := lt_s s28 (show (Cond.eq (.elem ntm (.int (Int32.ofNat 28))) (.int (wrd 28))).before args s = true from (andL (andL (andR (andR (andR (andL (andR (andL (andR hq))))))))))
  have s30 := lt_s s29 (show (Cond.eq (.elem ntm (.int (Int32.ofNat 29))) (.int (wrd 29))).before args s = true from (andR (andL (andR (andR (andR (andL (andR (andL (andR hq))))))))))
  have s31 := lt_s s30 (show (Cond.eq (.elem ntm (.int (Int32.ofNat 30))) (.int (wrd 30))).before args s = true from (andL (andR (andR (andR (andR (andL (andR (andL (andR hq))))))))))
  have s32 := lt_s s31 (show (Cond.eq (.elem ntm (.int (Int32.ofNat 31))) (.int (wrd 31))).before args s = true from (andR (andR (andR (andR (andR (andL (andR (andL (andR hq))))))))))
  have s33 := lt_s s32 (show (Cond.eq (.elem ntm (.int (Int32.ofNat 32))) (.int (wrd 32))).before args s = true from (andL (andL (andL (andL (andR (andR (andL (andR hq)))))))))
  have s34 := lt_s s33 (show (Cond.eq (.elem ntm (.int (Int32.ofNat 33))) (.int (wrd 33))).before args s = true from (andL (andR (andL (andL (andL (andR (andR (andL (andR hq))))))))))
  have s35 := lt_s s34 (show (Cond.eq (.elem ntm (.int (Int32.ofNat 34))) (.int (wrd 34))).before args s = true from (andR (andR (andL (andL (andL (andR (andR (andL (andR hq))))))))))
  have s36 := lt_s s35 (show (Cond.eq (.elem ntm (.int (Int32.ofNat 35))) (.int (wrd 35))).before args s = true from (andL (andL (andR (andL (andL (andR (andR (andL (andR hq))))))))))
  have s37 := lt_s s36 (show (Cond.eq (.elem ntm (.int (Int32.ofNat 36))) (.int (wrd 36))).before args s = true from (andR (andL (andR (andL (andL (andR (andR (andL (andR hq))))))))))
  have s38 := lt_s s37 (show (Cond.eq (.elem ntm (.int (Int32.ofNat 37))) (.int (wrd 37))).before args s = true from (andL (andR (andR (andL (andL (andR (andR (andL (andR hq))))))))))
  have s39 := lt_s s38 (show (Cond.eq (.elem ntm (.int (Int32.ofNat 38))) (.int (wrd 38))).before args s = true from (andR (andR (andR (andL (andL (andR (andR (andL (andR hq))))))))))
  have s40 := lt_s s39 (show (Cond.eq (.elem ntm (.int (Int32.ofNat 39))) (.int (wrd 39))).before args s = true from (andL (andL (andR (andL (andR (andR (andL (andR hq)))))))))
  have s41 := lt_s s40 (show (Cond.eq (.elem ntm (.int (Int32.ofNat 40))) (.int (wrd 40))).before args s = true from (andL (andR (andL (andR (andL (andR (andR (andL (andR hq))))))))))
  have s42 := lt_s s41 (show (Cond.eq (.elem ntm (.int (Int32.ofNat 41))) (.int (wrd 41))).before args s = true from (andR (andR (andL (andR (andL (andR (andR (andL (andR hq))))))))))
  have s43 := lt_s s42 (show (Cond.eq (.elem ntm (.int (Int32.ofNat 42))) (.int (wrd 42))).before args s = true from (andL (andL (andR (andR (andL (andR (andR (andL (andR hq))))))))))
  have s44 := lt_s s43 (show (Cond.eq (.elem ntm (.int (Int32.ofNat 43))) (.int (wrd 43))).before args s = true from (andR (andL (andR (andR (andL (andR (andR (andL (andR hq))))))))))
  have s45 := lt_s s44 (show (Cond.eq (.elem ntm (.int (Int32.ofNat 44))) (.int (wrd 44))).before args s = true from (andL (andR (andR (andR (andL (andR (andR (andL (andR hq))))))))))
  have s46 := lt_s s45 (show (Cond.eq (.elem ntm (.int (Int32.ofNat 45))) (.int (wrd 45))).before args s = true from (andR (andR (andR (andR (andL (andR (andR (andL (andR hq))))))))))
  have s47 := lt_s s46 (show (Cond.eq (.elem ntm (.int (Int32.ofNat 46))) (.int (wrd 46))).before args s = true from (andL (andL (andL (andR (andR (andR (andL (andR hq)))))))))
  have s48 := lt_s s47 (show (Cond.eq (.elem ntm (.int (Int32.ofNat 47))) (.int (wrd 47))).before args s = true from (andL (andR (andL (andL (andR (andR (andR (andL (andR hq))))))))))
  have s49 := lt_s s48 (show (Cond.eq (.elem ntm (.int (Int32.ofNat 48))) (.int (wrd 48))).before args s = true from (andR (andR (andL (andL (andR (andR (andR (andL (andR hq))))))))))
  have s50 := lt_s s49 (show (Cond.eq (.elem ntm (.int (Int32.ofNat 49))) (.int (wrd 49))).before args s = true from (andL (andL (andR (andL (andR (andR (andR (andL (andR hq))))))))))
  have s51 := lt_s s50 (show (Cond.eq (.elem ntm (.int (Int32.ofNat 50))) (.int (wrd 50))).before args s = true from (andR (andL (andR (andL (andR (andR (andR (andL (andR hq))))))))))
  have s52 := lt_s s51 (show (Cond.eq (.elem ntm (.int (Int32.ofNat 51))) (.int (wrd 51))).before args s = true from (andL (andR (andR (andL (andR (andR (andR (andL (andR hq))))))))))
  have s53 := lt_s s52 (show (Cond.eq (.elem ntm (.int (Int32.ofNat 52))) (.int (wrd 52))).before args s = true from (andR (andR (andR (andL (andR (andR (andR (andL (andR hq))))))))))
  have s54 := lt_s s53 (show (Cond.eq (.elem ntm (.int (Int32.ofNat 53))) (.int (wrd 53))).before args s = true from (andL (andL (andL (andR (andR (andR (andR (andL (andR hq))))))))))
  have s55 := lt_s s54 (show (Cond.eq (.elem ntm (.int (Int32.ofNat 54))) (.int (wrd 54))).before args s = true from (andR (andL (andL (andR (andR (andR (andR (andL (andR hq))))))))))
  have s56 := lt_s s55 (show (Cond.eq (.elem ntm (.int (Int32.ofNat 55))) (.int (wrd 55))).before args s = true from (andL (andR (andL (andR (andR (andR (andR (andL (andR hq))))))))))
  have s57 := lt_s s56 (show (Cond.eq (.elem ntm (.int (Int32.ofNat 56))) (.int (wrd 56))).before args s = true from (andR (andR (andL (andR (andR (andR (andR (andL (andR hq))))))))))
  have s58 := lt_s s57 (show (Cond.eq (.elem ntm (.int (Int32.ofNat 57))) (.int (wrd 57))).before args s = true from (andL (andL (andR (andR (andR (andR (andR (andL (andR hq))))))))))
  have s59 := lt_s s58 (show (Cond.eq (.elem ntm (.int (Int32.ofNat 58))) (.int (wrd 58))).before args s = true from (andR (andL (andR (andR (andR (andR (andR (andL (andR hq))))))))))
  have s60 := lt_s s59 (show (Cond.eq (.elem ntm (.int (Int32.ofNat 59))) (.int (wrd 59))).before args s = true from (andL (andR (andR (andR (andR (andR (andR (andL (andR hq))))))))))
  have s61 := lt_s s60 (show (Cond.eq (.elem ntm (.int (Int32.ofNat 60))) (.int (wrd 60))).before args s = true from (andR (andR (andR (andR (andR (andR (andR (andL (andR hq))))))))))
  have s62 := lt_s s61 (show (Cond.eq (.elem ntm (.int (Int32.ofNat 61))) (.int (wrd 61))).before args s = true from (andL (andL (andL (andL (andL (andL (andR (andR hq)))))))))
  have s63 := lt_s s62 (show (Cond.eq (.elem ntm (.int (Int32.ofNat 62))) (.int (wrd 62))).before args s = true from (andL (andR (andL (andL (andL (andL (andL (andR (andR hq))))))))))
  have s64 := lt_s s63 (show (Cond.eq (.elem ntm (.int (Int32.ofNat 63))) (.int (wrd 63))).before args s = true from (andR (andR (andL (andL (andL (andL (andL (andR (andR hq))))))))))
  have s65 := lt_s s64 (show (Cond.eq (.elem ntm (.int (Int32.ofNat 64))) (.int (wrd 64))).before args s = true from (andL (andL (andR (andL (andL (andL (andL (andR (andR hq))))))))))
  have s66 := lt_s s65 (show (Cond.eq (.elem ntm (.int (Int32.ofNat 65))) (.int (wrd 65))).before args s = true from (andR (andL (andR (andL (andL (andL (andL (andR (andR hq))))))))))
  have s67 := lt_s s66 (show (Cond.eq (.elem ntm (.int (Int32.ofNat 66))) (.int (wrd 66))).before args s = true from (andL (andR (andR (andL (andL (andL (andL (andR (andR hq))))))))))
  have s68 := lt_s s67 (show (Cond.eq (.elem ntm (.int (Int32.ofNat 67))) (.int (wrd 67))).before args s = true from (andR (andR (andR (andL (andL (andL (andL (andR (andR hq))))))))))
  have s69 := lt_s s68 (show (Cond.eq (.elem ntm (.int (Int32.ofNat 68))) (.int (wrd 68))).before args s = true from (andL (andL (andR (andL (andL (andL (andR (andR hq)))))))))
  have s70 := lt_s s69 (show (Cond.eq (.elem ntm (.int (Int32.ofNat 69))) (.int (wrd 69))).before args s = true from (andL (andR (andL (andR (andL (andL (andL (andR (andR hq))))))))))
  have s71 := lt_s s70 (show (Cond.eq (.elem ntm (.int (Int32.ofNat 70))) (.int (wrd 70))).before args s = true from (andR (andR (andL (andR (andL (andL (andL (andR (andR hq))))))))))
  have s72 := lt_s s71 (show (Cond.eq (.elem ntm (.int (Int32.ofNat 71))) (.int (wrd 71))).before args s = true from (andL (andL (andR (andR (andL (andL (andL (andR (andR hq))))))))))
  have s73 := lt_s s72 (show (Cond.eq (.elem ntm (.int (Int32.ofNat 72))) (.int (wrd 72))).before args s = true from (andR (andL (andR (andR (andL (andL (andL (andR (andR hq))))))))))
  have s74 := lt_s s73 (show (Cond.eq (.elem ntm (.int (Int32.ofNat 73))) (.int (wrd 73))).before args s = true from (andL (andR (andR (andR (andL (andL (andL (andR (andR hq))))))))))
  have s75 := lt_s s74 (show (Cond.eq (.elem ntm (.int (Int32.ofNat 74))) (.int (wrd 74))).before args s = true from (andR (andR (andR (andR (andL (andL (andL (andR (andR hq))))))))))
  have s76 := lt_s s75 (show (Cond.eq (.elem ntm (.int (Int32.ofNat 75))) (.int (wrd 75))).before args s = true from (andL (andL (andL (andR (andL (andL (andR (andR hq)))))))))
  have s77 := lt_s s76 (show (Cond.eq (.elem ntm (.int (Int32.ofNat 76))) (.int (wrd 76))).before args s = true from (andL (andR (andL (andL (andR (andL (andL (andR (andR hq))))))))))
  have s78 := lt_s s77 (show (Cond.eq (.elem ntm (.int (Int32.ofNat 77))) (.int (wrd 77))).before args s = true from (andR (andR (andL (andL (andR (andL (andL (andR (andR hq))))))))))
  have s79 := lt_s s78 (show (Cond.eq (.elem ntm (.int (Int32.ofNat 78))) (.int (wrd 78))).before args s = true from (andL (andL (andR (andL (andR (andL (andL (andR (andR hq))))))))))
  have s80 := lt_s s79 (show (Cond.eq (.elem ntm (.int (Int32.ofNat 79))) (.int (wrd 79))).before args s = true from (andR (andL (andR (andL (andR (andL (andL (andR (andR hq))))))))))
  have s81 := lt_s s80 (show (Cond.eq (.elem ntm (.int (Int32.ofNat 80))) (.int (wrd 80))).before args s = true from (andL (andR (andR (andL (andR (andL (andL (andR (andR hq))))))))))
  have s82 := lt_s s81 (show (Cond.eq (.elem ntm (.int (Int32.ofNat 81))) (.int (wrd 81))).before args s = true from (andR (andR (andR (andL (andR (andL (andL (andR (andR hq))))))))))
  have s83 := lt_s s82 (show (Cond.eq (.elem ntm (.int (Int32.ofNat 82))) (.int (wrd 82))).before args s = true from (andL (andL (andR (andR (andL (andL (andR (andR hq)))))))))
  have s84 := lt_s s83 (show (Cond.eq (.elem ntm (.int (Int32.ofNat 83))) (.int (wrd 83))).before args s = true from (andL (andR (andL (andR (andR (andL (andL (andR (andR hq))))))))))
  have s85 := lt_s s84 (show (Cond.eq (.elem ntm (.int (Int32.ofNat 84))) (.int (wrd 84))).before args s = true from (andR (andR (andL (andR (andR (andL (andL (andR (andR hq))))))))))
  have s86 := lt_s s85 (show (Cond.eq (.elem ntm (.int (Int32.ofNat 85))) (.int (wrd 85))).before args s = true from (andL (andL (andR (andR (andR (andL (andL (andR (andR hq))))))))))
  have s87 := lt_s s86 (show (Cond.eq (.elem ntm (.int (Int32.ofNat 86))) (.int (wrd 86))).before args s = true from (andR (andL (andR (andR (andR (andL (andL (andR (andR hq))))))))))
  have s88 := lt_s s87 (show (Cond.eq (.elem ntm (.int (Int32.ofNat 87))) (.int (wrd 87))).before args s = true from (andL (andR (andR (andR (andR (andL (andL (andR (andR hq))))))))))
  have s89 := lt_s s88 (show (Cond.eq (.elem ntm (.int (Int32.ofNat 88))) (.int (wrd 88))).before args s = true from (andR (andR (andR (andR (andR (andL (andL (andR (andR hq))))))))))
  have s90 := lt_s s89 (show (Cond.eq (.elem ntm (.int (Int32.ofNat 89))) (.int (wrd 89))).before args s = true from (andL (andL (andL (andL (andR (andL (andR (andR hq)))))))))
  have s91 := lt_s s90 (show (Cond.eq (.elem ntm (.int (Int32.ofNat 90))) (.int (wrd 90))).before args s = true from (andL (andR (andL (andL (andL (andR (andL (andR (andR hq))))))))))
  have s92 := lt_s s91 (show (Cond.eq (.elem ntm (.int (Int32.ofNat 91))) (.int (wrd 91))).before args s = true from (andR (andR (andL (andL (andL (andR (andL (andR (andR hq))))))))))
  have s93 := lt_s s92 (show (Cond.eq (.elem ntm (.int (Int32.ofNat 92))) (.int (wrd 92))).before args s = true from (andL (andL (andR (andL (andL (andR (andL (andR (andR hq))))))))))
  have s94 := lt_s s93 (show (Cond.eq (.elem ntm (.int (Int32.ofNat 93))) (.int (wrd 93))).before args s = true from (andR (andL (andR (andL (andL (andR (andL (andR (andR hq))))))))))
  have s95 := lt_s s94 (show (Cond.eq (.elem ntm (.int (Int32.ofNat 94))) (.int (wrd 94))).before args s = true from (andL (andR (andR (andL (andL (andR (andL (andR (andR hq))))))))))
  have s96 := lt_s s95 (show (Cond.eq (.elem ntm (.int (Int32.ofNat 95))) (.int (wrd 95))).before args s = true from (andR (andR (andR (andL (andL (andR (andL (andR (andR hq))))))))))
  have s97 := lt_s s96 (show (Cond.eq (.elem ntm (.int (Int32.ofNat 96))) (.int (wrd 96))).before args s = true from (andL (andL (andR (andL (andR (andL (andR (andR hq)))))))))
  have s98 := lt_s s97 (show (Cond.eq (.elem ntm (.int (Int32.ofNat 97))) (.int (wrd 97))).before args s = true from (andL (andR (andL (andR (andL (andR (andL (andR (andR hq))))))))))
  have s99 := lt_s s98 (show (Cond.eq (.elem ntm (.int (Int32.ofNat 98))) (.int (wrd 98))).before args s = true from (andR (andR (andL (andR (andL (andR (andL (andR (andR hq))))))))))
  have s100 := lt_s s99 (show (Cond.eq (.elem ntm (.int (Int32.ofNat 99))) (.int (wrd 99))).before args s = true from (andL (andL (andR (andR (andL (andR (andL (andR (andR hq))))))))))
  have s101 := lt_s s100 (show (Cond.eq (.elem ntm (.int (Int32.ofNat 100))) (.int (wrd 100))).before args s = true from (andR (andL (andR (andR (andL (andR (andL (andR (andR hq))))))))))
  have s102 := lt_s s101 (show (Cond.eq (.elem ntm (.int (Int32.ofNat 101))) (.int (wrd 101))).before args s = true from (andL (andR (andR (andR (andL (andR (andL (andR (andR hq))))))))))
  have s103 := lt_s s102 (show (Cond.eq (.elem ntm (.int (Int32.ofNat 102))) (.int (wrd 102))).before args s = true from (andR (andR (andR (andR (andL (andR (andL (andR (andR hq))))))))))
  have s104 := lt_s s103 (show (Cond.eq (.elem ntm (.int (Int32.ofNat 103))) (.int (wrd 103))).before args s = true from (andL (andL (andL (andR (andR (andL (andR (andR hq)))))))))
  have s105 := lt_s s104 (show (Cond.eq (.elem ntm (.int (Int32.ofNat 104))) (.int (wrd 104))).before args s = true from (andL (andR (andL (andL (andR (andR (andL (andR (andR hq))))))))))
  have s106 := lt_s s105 (show (Cond.eq (.elem ntm (.int (Int32.ofNat 105))) (.int (wrd 105))).before args s = true from (andR (andR (andL (andL (andR (andR (andL (andR (andR hq))))))))))
  have s107 := lt_s s106 (show (Cond.eq (.elem ntm (.int (Int32.ofNat 106))) (.int (wrd 106))).before args s = true from (andL (andL (andR (andL (andR (andR (andL (andR (andR hq))))))))))
  have s108 := lt_s s107 (show (Cond.eq (.elem ntm (.int (Int32.ofNat 107))) (.int (wrd 107))).before args s = true from (andR (andL (andR (andL (andR (andR (andL (andR (andR hq))))))))))
  have s109 := lt_s s108 (show (Cond.eq (.elem ntm (.int (Int32.ofNat 108))) (.int (wrd 108))).before args s = true from (andL (andR (andR (andL (andR (andR (andL (andR (andR hq))))))))))
  have s110 := lt_s s109 (show (Cond.eq (.elem ntm (.int (Int32.ofNat 109))) (.int (wrd 109))).before args s = true from (andR (andR (andR (andL (andR (andR (andL (andR (andR hq))))))))))
  have s111 := lt_s s110 (show (Cond.eq (.elem ntm (.int (Int32.ofNat 110))) (.int (wrd 110))).before args s = true from (andL (andL (andL (andR (andR (andR (andL (andR (andR hq))))))))))
  have s112 := lt_s s111 (show (Cond.eq (.elem ntm (.int (Int32.ofNat 111))) (.int (wrd 111))).before args s = true from (andR (andL (andL (andR (andR (andR (andL (andR (andR hq))))))))))
  have s113 := lt_s s112 (show (Cond.eq (.elem ntm (.int (Int32.ofNat 112))) (.int (wrd 112))).before args s = true from (andL (andR (andL (andR (andR (andR (andL (andR (andR hq))))))))))
  have s114 := lt_s s113 (show (Cond.eq (.elem ntm (.int (Int32.ofNat 113))) (.int (wrd 113))).before args s = true from (andR (andR (andL (andR (andR (andR (andL (andR (andR hq))))))))))
  have s115 := lt_s s114 (show (Cond.eq (.elem ntm (.int (Int32.ofNat 114))) (.int (wrd 114))).before args s = true from (andL (andL (andR (andR (andR (andR (andL (andR (andR hq))))))))))
  have s116 := lt_s s115 (show (Cond.eq (.elem ntm (.int (Int32.ofNat 115))) (.int (wrd 115))).before args s = true from (andR (andL (andR (andR (andR (andR (andL (andR (andR hq))))))))))
  have s117 := lt_s s116 (show (Cond.eq (.elem ntm (.int (Int32.ofNat 116))) (.int (wrd 116))).before args s = true from (andL (andR (andR (andR (andR (andR (andL (andR (andR hq))))))))))
  have s118 := lt_s s117 (show (Cond.eq (.elem ntm (.int (Int32.ofNat 117))) (.int (wrd 117))).before args s = true from (andR (andR (andR (andR (andR (andR (andL (andR (andR hq))))))))))
  have s119 := lt_s s118 (show (Cond.eq (.elem ntm (.int (Int32.ofNat 118))) (.int (wrd 118))).before args s = true from (andL (andL (andL (andL (andL (andR (andR (andR hq)))))))))
  have s120 := lt_s s119 (show (Cond.eq (.elem ntm (.int (Int32.ofNat 119))) (.int (wrd 119))).before args s = true from (andL (andR (andL (andL (andL (andL (andR (andR (andR hq))))))))))
  have s121 := lt_s s120 (show (Cond.eq (.elem ntm (.int (Int32.ofNat 120))) (.int (wrd 120))).before args s = true from (andR (andR (andL (andL (andL (andL (andR (andR (andR hq))))))))))
  have s122 := lt_s s121 (show (Cond.eq (.elem ntm (.int (Int32.ofNat 121))) (.int (wrd 121))).before args s = true from (andL (andL (andR (andL (andL (andL (andR (andR (andR hq))))))))))
  have s123 := lt_s s122 (show (Cond.eq (.elem ntm (.int (Int32.ofNat 122))) (.int (wrd 122))).before args s = true from (andR (andL (andR (andL (andL (andL (andR (andR (andR hq))))))))))
  have s124 := lt_s s123 (show (Cond.eq (.elem ntm (.int (Int32.ofNat 123))) (.int (wrd 123))).before args s = true from (andL (andR (andR (andL (andL (andL (andR (andR (andR hq))))))))))
  have s125 := lt_s s124 (show (Cond.eq (.elem ntm (.int (Int32.ofNat 124))) (.int (wrd 124))).before args s = true from (andR (andR (andR (andL (andL (andL (andR (andR (andR hq))))))))))
  have s126 := lt_s s125 (show (Cond.eq (.elem ntm (.int (Int32.ofNat 125))) (.int (wrd 125))).before args s = true from (andL (andL (andR (andL (andL (andR (andR (andR hq)))))))))
  have s127 := lt_s s126 (show (Cond.eq (.elem ntm (.int (Int32.ofNat 126))) (.int (wrd 126))).before args s = true from (andL (andR (andL (andR (andL (andL (andR (andR (andR hq))))))))))
  have s128 := lt_s s127 (show (Cond.eq (.elem ntm (.int (Int32.ofNat 127))) (.int (wrd 127))).before args s = true from (andR (andR (andL (andR (andL (andL (andR (andR (andR hq))))))))))
  have s129 := lt_s s128 (show (Cond.eq (.elem ntm (.int (Int32.ofNat 128))) (.int (wrd 128))).before args s = true from (andL (andL (andR (andR (andL (andL (andR (andR (andR hq))))))))))
  have s130 := lt_s s129 (show (Cond.eq (.elem ntm (.int (Int32.ofNat 129))) (.int (wrd 129))).before args s = true from (andR (andL (andR (andR (andL (andL (andR (andR (andR hq))))))))))
  have s131 := lt_s s130 (show (Cond.eq (.elem ntm (.int (Int32.ofNat 130))) (.int (wrd 130))).before args s = true from (andL (andR (andR (andR (andL (andL (andR (andR (andR hq))))))))))
  have s132 := lt_s s131 (show (Cond.eq (.elem ntm (.int (Int32.ofNat 131))) (.int (wrd 131))).before args s = true from (andR (andR (andR (andR (andL (andL (andR (andR (andR hq))))))))))
  have s133 := lt_s s132 (show (Cond.eq (.elem ntm (.int (Int32.ofNat 132))) (.int (wrd 132))).before args s = true from (andL (andL (andL (andR (andL (andR (andR (andR hq)))))))))
  have s134 := lt_s s133 (show (Cond.eq (.elem ntm (.int (Int32.ofNat 133))) (.int (wrd 133))).before args s = true from (andL (andR (andL (andL (andR (andL (andR (andR (andR hq))))))))))
  have s135 := lt_s s134 (show (Cond.eq (.elem ntm (.int (Int32.ofNat 134))) (.int (wrd 134))).before args s = true from (andR (andR (andL (andL (andR (andL (andR (andR (andR hq))))))))))
  have s136 := lt_s s135 (show (Cond.eq (.elem ntm (.int (Int32.ofNat 135))) (.int (wrd 135))).before args s = true from (andL (andL (andR (andL (andR (andL (andR (andR (andR hq))))))))))
  have s137 := lt_s s136 (show (Cond.eq (.elem ntm (.int (Int32.ofNat 136))) (.int (wrd 136))).before args s = true from (andR (andL (andR (andL (andR (andL (andR (andR (andR hq))))))))))
  have s138 := lt_s s137 (show (Cond.eq (.elem ntm (.int (Int32.ofNat 137))) (.int (wrd 137))).before args s = true from (andL (andR (andR (andL (andR (andL (andR (andR (andR hq))))))))))
  exact s138
theorem nr_signs {args : Array Value} {s : State} (hq : (Jvm.Cond.and given_1 narrow_1).before args s = true) : ∀ j, j < 13 → (Cond.eq (.elem (.static "StrawMen" "SIGN_LEVELS" "[I") (.int (Int32.ofNat j))) (.int (slv j))).before args s = true := by
  have s0 := lt_0 (p := fun j => (Cond.eq (.elem (.static "StrawMen" "SIGN_LEVELS" "[I") (.int (Int32.ofNat j))) (.int (slv j))).before args s = true)
  have s1 := lt_s s0 (show (Cond.eq (.elem (.static "StrawMen" "SIGN_LEVELS" "[I") (.int (Int32.ofNat 0))) (.int (slv 0))).before args s = true from (andL (andL (andR (andR (andL (andL (andL (andL (andR hq))))))))))
  have s2 := lt_s s1 (show (Cond.eq (.elem (.static "StrawMen" "SIGN_LEVELS" "[I") (.int (Int32.ofNat 1))) (.int (slv 1))).before args s = true from (andR (andL (andR (andR (andL (andL (andL (andL (andR hq))))))))))
  have s3 := lt_s s2 (show (Cond.eq (.elem (.static "StrawMen" "SIGN_LEVELS" "[I") (.int (Int32.ofNat 2))) (.int (slv 2))).before args s = true from (andL (andR (andR (andR (andL (andL (andL (andL (andR hq))))))))))
  have s4 := lt_s s3 (show (Cond.eq (.elem (.static "StrawMen" "SIGN_LEVELS" "[I") (.int (Int32.ofNat 3))) (.int (slv 3))).before args s = true from (andR (andR (andR (andR (andL (andL (andL (andL (andR hq))))))))))
  have s5 := lt_s s4 (show (Cond.eq (.elem (.static "StrawMen" "SIGN_LEVELS" "[I") (.int (Int32.ofNat 4))) (.int (slv 4))).before args s = true from (andL (andL (andL (andR (andL (andL (andL (andR hq)))))))))
  have s6 := lt_s s5 (show (Cond.eq (.elem (.static "StrawMen" "SIGN_LEVELS" "[I") (.int (Int32.ofNat 5))) (.int (slv 5))).before args s = true from (andL (andR (andL (andL (andR (andL (andL (andL (andR hq))))))))))
  have s7 := lt_s s6 (show (Cond.eq (.elem (.static "StrawMen" "SIGN_LEVELS" "[I") (.int (Int32.ofNat 6))) (.int (slv 6))).before args s = true from (andR (andR (andL (andL (andR (andL (andL (andL (andR hq))))))))))
  have s8 := lt_s s7 (show (Cond.eq (.elem (.static "StrawMen" "SIGN_LEVELS" "[I") (.int (Int32.ofNat 7))) (.int (slv 7))).before args s = true from (andL (andL (andR (andL (andR (andL (andL (andL (andR hq))))))))))
  have s9 := lt_s s8 (show (Cond.eq (.elem (.static "StrawMen" "SIGN_LEVELS" "[I") (.int (Int32.ofNat 8))) (.int (slv 8))).before args s = true from (andR (andL (andR (andL (andR (andL (andL (andL (andR hq))))))))))
  have s10 := lt_s s9 (show (Cond.eq (.elem (.static "StrawMen" "SIGN_LEVELS" "[I") (.int (Int32.ofNat 9))) (.int (slv 9))).before args s = true from (andL (andR (andR (andL (andR (andL (andL (andL (andR hq))))))))))
  have s11 := lt_s s10 (show (Cond.eq (.elem (.static "StrawMen" "SIGN_LEVELS" "[I") (.int (Int32.ofNat 10))) (.int (slv 10))).before args s = true from (andR (andR (andR (andL (andR (andL (andL (andL (andR hq))))))))))
  have s12 := lt_s s11 (show (Cond.eq (.elem (.static "StrawMen" "SIGN_LEVELS" "[I") (.int (Int32.ofNat 11))) (.int (slv 11))).before args s = true from (andL (andL (andR (andR (andL (andL (andL (andR hq)))))))))
  have s13 := lt_s s12 (show (Cond.eq (.elem (.static "StrawMen" "SIGN_LEVELS" "[I") (.int (Int32.ofNat 12))) (.int (slv 12))).before args s = true from (andL (andR (andL (andR (andR (andL (andL (andL (andR hq))))))))))
  exact s13
theorem pr_A {s : State} : ∀ a : Nat, a < s.heap.size → ¬ jA s a := fun a h => Nat.not_le.mpr h
theorem pr_G {args : Array Value} {s : State} (hq : (Jvm.Cond.and given_1 narrow_1).before args s = true) (hts : ∀ w ∈ lw_tbl, w.before args s = true) : jG s := by
  obtain ⟨t, ht, hT⟩ := va_Tof (tm := .static "StrawMen" "SIGN_LEVELS" "[I") (ty := .int) (N := 13) (f := fun j => .int (slv j)) (A := jA s) (by decide) ((show (.arrayOf (.static "StrawMen" "SIGN_LEVELS" "[I") .int : Cond).before args s = true from (andL (andR (andL (andR (andL (andL (andL (andL (andR hq))))))))))) (va_eqt ((show (.eq (.length (.static "StrawMen" "SIGN_LEVELS" "[I")) (.int 13) : Cond).before args s = true from (andR (andR (andL (andR (andL (andL (andL (andL (andR hq)))))))))))) (fun j hj => va_eqt (nr_signs hq j hj)) pr_A
  exact ⟨t, va_Zref (hts _ (List.mem_append_right _ (show _ ∈ tables_1 from (List.mem_append_right _ (List.mem_append_right _ (List.mem_append_right _ (List.mem_append_left _ (List.mem_of_getElem? (i := 8) rfl)))))))) (hts _ (List.mem_append_right _ (show _ ∈ tables_1 from (List.mem_append_left _ (List.mem_of_getElem? (i := 1) rfl))))) ht pr_A, hT⟩
theorem pr_S {args : Array Value} {s : State} (hq : (Jvm.Cond.and given_1 narrow_1).before args s = true) (hts : ∀ w ∈ lw_tbl, w.before args s = true) : jS s := by
  obtain ⟨a, c, cA, kA, q1, q2, q3, q4, q5, q6, -⟩ := Cond.exactly_spec (args := args) (first := s) (o := none) (s := s) (idx := []) (t := .string "StrawMen$Reader" 44) (cls := "java/lang/String") ((show (.exactly (.string "StrawMen$Reader" 44) "java/lang/String" : Cond).before args s = true from (andL (andL (andL (andR (andR (andR (andL (andL (andR hq)))))))))))
  obtain ⟨t, ht, hT⟩ := va_Tof (tm := ntm) (ty := .byte) (N := 138) (f := fun j => .int (wrd j)) (A := jA s) (by decide) ((show (.arrayOf ntm .byte : Cond).before args s = true from (andL (andR (andL (andR (andR (andR (andL (andL (andR hq))))))))))) (va_eqt ((show (.eq (.length ntm) (.int 138) : Cond).before args s = true from (andR (andR (andL (andR (andR (andR (andL (andL (andR hq)))))))))))) (fun j hj => va_eqt (nr_words hq j hj)) pr_A
  refine ⟨a, t, vk_R.of (A := args) (hts _ (List.mem_append_right _ (show _ ∈ tables_1 from (List.mem_append_left _ (List.mem_of_getElem? (i := 237) rfl))))) q1, ⟨cA, q3, q5, by rw [q6]; exact q2, pr_A a (Array.getElem?_eq_some_iff.mp q3).1⟩, vk_OFof q1 (va_eqt ((show (.eq (.field (.string "StrawMen$Reader" 44) "java/lang/String" "coder" "B") (.int 0) : Cond).before args s = true from (andR (andL (andL (andR (andR (andR (andL (andL (andR hq)))))))))))) pr_A, vk_OFof q1 ht pr_A, hT, ?_, ?_⟩
  · exact va_Zof (hts _ (List.mem_append_right _ (show _ ∈ tables_1 from (List.mem_append_right _ (List.mem_append_left _ (List.mem_of_getElem? (i := 7) rfl)))))) (hts _ (List.mem_append_right _ (show _ ∈ tables_1 from (List.mem_append_left _ (List.mem_of_getElem? (i := 7) rfl))))) (va_eqi ((show (.eq (.static "java/lang/String" "COMPACT_STRINGS" "Z") (.int 1) : Cond).before args s = true from (andR (andR (andL (andL (andL (andL (andL (andL (andR hq)))))))))))) pr_A
  · exact va_Zqof (hts _ (List.mem_append_right _ (show _ ∈ tables_1 from (List.mem_append_right _ (List.mem_append_left _ (List.mem_of_getElem? (i := 23) rfl)))))) (hts _ (List.mem_append_right _ (show _ ∈ tables_1 from (List.mem_append_left _ (List.mem_of_getElem? (i := 9) rfl))))) ((show (.isRef (.static "jdk/internal/util/Preconditions" "SIOOBE_FORMATTER" "Ljava/util/function/BiFunction;") : Cond).before args s = true from (andL (andL (andR (andL (andL (andL (andL (andL (andR hq))))))))))) pr_A
theorem pr_AO {args : Array Value} {s : State} (hts : ∀ w ∈ lw_tbl, w.before args s = true) : va_AO "StrawMen$Law" s := va_AO.of (hts _ (List.mem_append_right _ (show _ ∈ tables_1 from (List.mem_append_left _ (List.mem_of_getElem? (i := 109) rfl)))))
theorem pr_N {args : Array Value} {s : State} (hts : ∀ w ∈ lw_tbl, w.before args s = true) : va_Nw nestW s := va_Nw.of rfl (hts nestW (List.mem_append_right _ (show _ ∈ tables_1 from (List.mem_append_right _ (List.mem_append_right _ (List.mem_append_right _ (List.mem_append_left _ (List.mem_of_getElem? (i := 7) rfl))))))))
theorem pr_arr {args : Array Value} {s : State} {ty : FieldType} (h : (Cond.arrayClass ty).before args s = true) (hn : ∀ C, ty ≠ .object C) : ∃ cA : ClassId, ArrOfT s cA ty ∧ va_RA s cA ty := by
  obtain ⟨cA, kA, comp, h1, h2, h3⟩ := Cond.arrayClass_spec h
  refine ⟨cA, fun n z => ⟨fun k h => (by cases h), kA, h2, comp, h3⟩, ?_⟩
  cases ty <;> first | exact absurd rfl (hn _) | exact h1
theorem pr_ids {args : Array Value} {s : State} (hts : ∀ w ∈ lw_tbl, w.before args s = true) : ∃ ids : Nat → ClassId, ∀ (k : Nat) (q : ClassId × FieldType), (jtys ids)[k]? = some q → ArrOfT s q.1 q.2 ∧ va_RA s q.1 q.2 := by
  obtain ⟨c0, a0⟩ := pr_arr (hts _ (List.mem_append_right _ (show _ ∈ tables_1 from (List.mem_append_right _ (List.mem_append_left _ (List.mem_of_getElem? (i := 98) rfl)))))) (fun C q => by cases q)
  obtain ⟨c1, a1⟩ := pr_arr (hts _ (List.mem_append_right _ (show _ ∈ tables_1 from (List.mem_append_left _ (List.mem_of_getElem? (i := 64) rfl))))) (fun C q => by cases q)
  obtain ⟨c2, a2⟩ := pr_arr (hts _ (List.mem_append_right _ (show _ ∈ tables_1 from (List.mem_append_left _ (List.mem_of_getElem? (i := 130) rfl))))) (fun C q => by cases q)
  obtain ⟨c3, a3⟩ := pr_arr (hts _ (List.mem_append_right _ (show _ ∈ tables_1 from (List.mem_append_right _ (List.mem_append_left _ (List.mem_of_getElem? (i := 228) rfl)))))) (fun C q => by cases q)
  obtain ⟨comp, c4, k4, g1, -, g2, g3, g4⟩ := Cond.arrayOver_spec (hts (.arrayOver (.object "StrawMen$Law")) (List.mem_append_right _ (show _ ∈ tables_1 from (List.mem_append_left _ (List.mem_of_getElem? (i := 109) rfl)))))
  refine ⟨fun k => if k = 20 then c0 else if k = 21 then c1 else if k = 22 then c2 else if k = 23 then c3 else c4, fun k q hk => ?_⟩
  match k, hk with
  | 0, hk => cases hk; exact a0
  | 1, hk => cases hk; exact a1
  | 2, hk => cases hk; exact a2
  | 3, hk => cases hk; exact a3
  | 4, hk => cases hk; exact ⟨fun n z => ⟨fun k h => (by cases h), k4, g2, comp, g3⟩, k4, comp, g2, g3, g1, g4⟩
  | k + 5, hk => simp [jtys] at hk
theorem TW_lw {w : Cond} (h : w ∈ TW) : w ∈ lw_tbl := (List.mem_filter.mp h).1
set_option maxHeartbeats 4000000 in
/-- the law from its entry, out of the pure answer; open: the call of StrawMenLaw.claim -/
theorem whole_start_open {p : Program} {e : Env} {s : State} {m : MethodId} {below : List Frame} {meth : Method} {c : Code} (l : Launch) {b L : Nat} {xs : Nat → Int32} (hL : L ≤ 3072) (C0 : lw_At p s m meth c b L xs) (hpure : fL_law L xs = some ()) (hLc : ∀ (D : va_G) (ids : Nat → ClassId), va_K D vwCl (jtys ids) s → jLc l s D ids) : W p l e room_1 s m #[Value.ref b] below meth c s.heap [] 0 0 (lw_Z below #[Value.ref b] s) (entryFrame m ([Value.ref b] : List Value).toArray 7) := by
  obtain ⟨hx, hb, hr, hml, hown, hts, hX, hbl, hlocks, hgv⟩ := C0
  have hq := hgv
  obtain ⟨c0, iS0, hKn0⟩ := u_known (C := RX0) (T := TX0) (N := 12) (n := 12) hts (fun w h => TW_lw (uX0 w h)) (hts (.instantiable RX0 12) (List.mem_append_right _ (show _ ∈ tables_1 from (List.mem_append_left _ (List.mem_of_getElem? (i := 38) rfl)))))
  obtain ⟨c1, iS1, hKn1⟩ := u_known (C := RX1) (T := TX1) (N := 4) (n := 4) hts (fun w h => TW_lw (uX1 w h)) (hts (.instantiable RX1 4) (List.mem_append_right _ (show _ ∈ tables_1 from (List.mem_append_left _ (List.mem_of_getElem? (i := 110) rfl)))))
  obtain ⟨c2, iS2, hKn2⟩ := u_known (C := RX2) (T := TX2) (N := 7) (n := 7) hts (fun w h => TW_lw (uX2 w h)) (hts (.instantiable RX2 7) (List.mem_append_right _ (show _ ∈ tables_1 from (List.mem_append_right _ (List.mem_append_left _ (List.mem_of_getElem? (i := 199) rfl))))))
  obtain ⟨c3, iS3, hKn3⟩ := u_known (C := RX3) (T := TX3) (N := 4) (n := 4) hts (fun w h => TW_lw (uX3 w h)) (hts (.instantiable RX3 4) (List.mem_append_right _ (show _ ∈ tables_1 from (List.mem_append_right _ (List.mem_append_left _ (List.mem_of_getElem? (i := 230) rfl))))))
  obtain ⟨c4, iS4, hKn4⟩ := u_known (C := RX4) (T := TX4) (N := 8) (n := 8) hts (fun w h => TW_lw (uX4 w h)) (hts (.instantiable RX4 8) (List.mem_append_right _ (show _ ∈ tables_1 from (List.mem_append_right _ (List.mem_append_left _ (List.mem_of_getElem? (i := 167) rfl))))))
  obtain ⟨c5, iS5, hKn5⟩ := u_known (C := RX5) (T := TX5) (N := 16) (n := 16) hts (fun w h => TW_lw (uX5 w h)) (hts (.instantiable RX5 16) (List.mem_append_right _ (show _ ∈ tables_1 from (List.mem_append_left _ (List.mem_of_getElem? (i := 229) rfl)))))
  obtain ⟨c6, iS6, hKn6⟩ := u_known (C := RX6) (T := TX6) (N := 3) (n := 3) hts (fun w h => TW_lw (uX6 w h)) (hts (.instantiable RX6 3) (List.mem_append_right _ (show _ ∈ tables_1 from (List.mem_append_left _ (List.mem_of_getElem? (i := 44) rfl)))))
  obtain ⟨c7, iS7, hKn7⟩ := u_known (C := RX7) (T := TX7) (N := 20) (n := 20) hts (fun w h => TW_lw (uX7 w h)) (hts (.instantiable RX7 20) (List.mem_append_right _ (show _ ∈ tables_1 from (List.mem_append_left _ (List.mem_of_getElem? (i := 32) rfl)))))
  obtain ⟨c8, iS8, hKn8⟩ := u_known (C := RX8) (T := TX8) (N := 15) (n := 15) hts (fun w h => TW_lw (uX8 w h)) (hts (.instantiable RX8 15) (List.mem_append_right _ (show _ ∈ tables_1 from (List.mem_append_right _ (List.mem_append_left _ (List.mem_of_getElem? (i := 100) rfl))))))
  obtain ⟨c9, iS9, hKn9⟩ := u_known (C := RX9) (T := TX9) (N := 12) (n := 12) hts (fun w h => TW_lw (uX9 w h)) (hts (.instantiable RX9 12) (List.mem_append_right _ (show _ ∈ tables_1 from (List.mem_append_left _ (List.mem_of_getElem? (i := 24) rfl)))))
  obtain ⟨c10, iS10, hKn10⟩ := u_known (C := RX10) (T := TX10) (N := 88) (n := 88) hts (fun w h => TW_lw (uX10 w h)) (hts (.instantiable RX10 88) (List.mem_append_right _ (show _ ∈ tables_1 from (List.mem_append_right _ (List.mem_append_right _ (List.mem_append_right _ (List.mem_append_right _ (List.mem_append_right _ (List.mem_append_left _ (List.mem_of_getElem? (i := 185) rfl))))))))))
  obtain ⟨dC, dI, hKc⟩ : ∃ (dC : Nat → ClassId) (dI : Nat → Nat → Nat), ∀ (k : Nat) (q : vw_C), vwCl[k]? = some q → u_Kn s q.1 q.2.1 q.2.2 (dC k) (dI k) := by
    refine ⟨fun k => if k = 0 then c0 else if k = 1 then c1 else if k = 2 then c2 else if k = 3 then c3 else if k = 4 then c4 else if k = 5 then c5 else if k = 6 then c6 else if k = 7 then c7 else if k = 8 then c8 else if k = 9 then c9 else c10, fun k => if k = 0 then iS0 else if k = 1 then iS1 else if k = 2 then iS2 else if k = 3 then iS3 else if k = 4 then iS4 else if k = 5 then iS5 else if k = 6 then iS6 else if k = 7 then iS7 else if k = 8 then iS8 else if k = 9 then iS9 else iS10, ?_⟩
    intro k q hq
    match k, hq with
    | 0, hq => cases hq; exact hKn0
    | 1, hq => cases hq; exact hKn1
    | 2, hq => cases hq; exact hKn2
    | 3, hq => cases hq; exact hKn3
    | 4, hq => cases hq; exact hKn4
    | 5, hq => cases hq; exact hKn5
    | 6, hq => cases hq; exact hKn6
    | 7, hq => cases hq; exact hKn7
    | 8, hq => cases hq; exact hKn8
    | 9, hq => cases hq; exact hKn9
    | 10, hq => cases hq; exact hKn10
    | k + 11, hq => simp [vwCl] at hq
  obtain ⟨ids, hids⟩ := pr_ids hts
  have hK : va_K (dC, dI) vwCl (jtys ids) s := ⟨hKc, hids⟩
  have hC : jC p s m #[Value.ref b] meth c code RL 7 s (dC, dI) ids := ⟨hx, hb, hml, hown, fun w hw => hts w (TW_lw hw), hlocks, hK, Nat.le_refl _, fun _ _ => rfl, Vm.Alike.refl _, pr_N hts, fun _ _ _ _ h => h⟩
  obtain ⟨scr, h1, h2, h3, h4, h5⟩ := hX
  have hT : va_T .int b L (fun j => .int (xs j)) (jA s) s s.heap := ⟨scr, h1, h2, h3, Nat.le_of_eq h4.symm, by rw [h4], h5, Nat.not_le.mpr hbl⟩
  have k := cL_start (l := l) (e := e) (below := below) hC (pr_G hq hts) hT (hLc _ _ hK) (pr_S hq hts) (pr_AO hts) hr hL () hpure h00_Zr s.heap [] _ (fun k q h => by simp [wls] at h) va_S.rf (show lv_has _ 7 (mvL s.heap.size [(0, .retAddr b)]) from lv_entry ([.ref b]) (n := 7) (Nat.le_of_ble_eq_true rfl))
  rw [lg_entry_eq]
  exact k
