def tbX6_asksOf : List (Nat × Instr × Nat) := [(0, .aload_n 0, 1), (1, .getfield 58, 3), (4, .iconst 0, 1), (5, .aload_n 0, 1), (6, .getfield 19, 3), (9, .iconst 1, 1), (10, .iaload, 1), (11, .iastore, 1), (12, .aload_n 0, 1), (13, .getfield 58, 3), (16, .iconst 1, 1), (17, .aload_n 0, 1), (18, .getfield 19, 3), (21, .iconst 2, 1), (22, .iaload, 1), (23, .iastore, 1), (24, .aload_n 0, 1), (25, .getfield 58, 3), (28, .iconst 2, 1), (29, .aload_n 0, 1), (30, .iload_n 2, 1), (31, .invokevirtual 79, 3), (34, .ifCond .eq 14, 3), (37, .aload_n 0, 1), (38, .getfield 16, 3), (41, .iconst 3, 1), (42, .iload_n 2, 1), (43, .imul, 1), (44, .iaload, 1), (45, .goto 4, 3), (48, .iconst 0, 1), (49, .iastore, 1), (50, .aload_n 0, 1), (51, .getfield 58, 3), (54, .iconst 3, 1), (55, .aload_n 0, 1), (56, .getfield 19, 3), (59, .iconst 0, 1), (60, .iaload, 1), (61, .iastore, 1), (62, .aload_n 0, 1), (63, .getfield 58, 3), (66, .iconst 4, 1), (67, .aload_n 0, 1), (68, .getfield 16, 3), (71, .iconst 3, 1), (72, .iload_n 2, 1), (73, .imul, 1), (74, .iconst 1, 1), (75, .iadd, 1), (76, .iaload, 1), (77, .iastore, 1), (78, .aload_n 0, 1), (79, .getfield 58, 3), (82, .iconst 5, 1), (83, .aload_n 0, 1), (84, .getfield 13, 3), (87, .iload_n 2, 1), (88, .iaload, 1), (89, .iastore, 1), (90, .aload_n 0, 1), (91, .iload_n 1, 1), (92, .invokevirtual 158, 3), (95, .iload_n 1, 1), (96, .iconst 1, 1), (97, .if_icmp .ne 7, 3), (100, .iconst 0, 1), (101, .goto 5, 3), (104, .bipush (-99), 2), (106, .iload_n 1, 1), (107, .iconst 1, 1), (108, .if_icmp .ne 9, 3), (111, .sipush 999, 3), (114, .goto 5, 3), (117, .bipush 99, 2), (119, .invokestatic 161, 3), (122, .ireturn, 1)]
set_option maxRecDepth 20000 in
theorem dtX6_asksOf : ∀ x ∈ tbX6_asksOf, decode cX6_asksOf x.1 = .ok x.2 := by decide +kernel
noncomputable def j6_asksOf_119  (s0 : Int32) (s1 : Int32) (s2 : Int32) (w : Wd) : Option (Int32 × Wd) :=
  (f6_within s2 s1 s0 w).bind fun z35 => (some (z35.1, z35.2))
theorem wpj6_asksOf_119 (X : CX) (w0 : Wd)  (s0 : Int32) (s1 : Int32) (s2 : Int32) (w : Wd) : WPe rtI X (mX6_asksOf, 3, 0, 0, w0) 0 0 (j6_asksOf_119  s0 s1 s2 w) 119 [] [vI s0, vI s1, vI s2] w := by
  unfold j6_asksOf_119
  refine WPe_callS (pc := 119) (rtc := rtI) (Mc := mX6_within) (d' := 1) (mc' := 0) (ms' := 0) [vI s2, vI s1, vI s0] [] rfl (dd dtX6_asksOf 75 rfl) (okf6_within s2 s1 s0 w) moX6_within msX6_within (bw_mem4 205 rfl rfl) rfl (Nat.le_of_ble_eq_true rfl) ⟨(Nat.le_of_ble_eq_true rfl), (Nat.le_of_ble_eq_true rfl)⟩ ⟨(Nat.le_of_ble_eq_true rfl), (Nat.le_of_ble_eq_true rfl)⟩ (fun z35 h36 e37 => ?_)
  refine WPe_st (st2 := [vI z35.1]) rfl ?_
  exact WPe_ireturn (pc := 122) (dd dtX6_asksOf 76 rfl) rfl rfl ⟨(Nat.le_of_ble_eq_true rfl), (Nat.le_of_ble_eq_true rfl)⟩
noncomputable def j6_asksOf_106  (x1 : Int32) (s0 : Int32) (s1 : Int32) (w : Wd) : Option (Int32 × Wd) :=
  if x1 = (1 : Int32) then (j6_asksOf_119 (999 : Int32) s0 s1 w) else (j6_asksOf_119 (99 : Int32) s0 s1 w)
theorem wpj6_asksOf_106 (X : CX) (w0 : Wd)  (x1 : Int32) (s0 : Int32) (s1 : Int32) (w : Wd) : WPe rtI X (mX6_asksOf, 3, 0, 0, w0) 0 0 (j6_asksOf_106  x1 s0 s1 w) 106 [(1, vI x1)] [vI s0, vI s1] w := by
  unfold j6_asksOf_106
  refine WPe_iload_n (pc := 106) 0 (dd dtX6_asksOf 69 rfl) rfl ?_
  refine WPe_iconst (pc := 107) (1 : Int32) (dd dtX6_asksOf 70 rfl) (by decide) ?_
  refine WPe_icmp_ne (pc := 108) 117 (dd dtX6_asksOf 71 rfl) (by decide) (fun h34 => ?_) (fun h34 => ?_)
  · refine WPe_sipush (pc := 111) (999 : Int32) (dd dtX6_asksOf 72 rfl) (by decide) ?_
    refine WPe_goto (pc := 114) 119 (dd dtX6_asksOf 73 rfl) (by decide) ?_
    refine WPe_sub [] rfl ?_
    exact wpj6_asksOf_119 X w0  (999 : Int32) s0 s1 w
  · refine WPe_bipush (pc := 117) (99 : Int32) (dd dtX6_asksOf 74 rfl) (by decide) ?_
    refine WPe_sub [] rfl ?_
    exact wpj6_asksOf_119 X w0  (99 : Int32) s0 s1 w
noncomputable def j6_asksOf_49  (x0 : Nat) (x1 : Int32) (x2 : Int32) (s0 : Int32) (s1 : Int32) (s2 : Nat) (w : Wd) : Option (Int32 × Wd) :=
  ck (tg w s2 = 20 ∧ vp_in s1 (ln w s2)) (lw (sI w s2 (s1).toNatClampNeg s0) fun w15 => (ck (tg w15 x0 = 6) (ck (tg w15 (wr w15 x0 4) = 20 ∧ vp_in (0 : Int32) (ln w15 (wr w15 x0 4))) (ck (tg w15 (wr w15 x0 28) = 20 ∧ vp_in (3 : Int32) (ln w15 (wr w15 x0 28))) (lw (sI w15 (wr w15 x0 28) ((3 : Int32)).toNatClampNeg (wi w15 (wr w15 x0 4) ((0 : Int32)).toNatClampNeg)) fun w20 => (ck (tg w20 (wr w20 x0 3) = 20 ∧ vp_in (((3 : Int32) * x2) + (1 : Int32)) (ln w20 (wr w20 x0 3))) (ck (tg w20 (wr w20 x0 28) = 20 ∧ vp_in (4 : Int32) (ln w20 (wr w20 x0 28))) (lw (sI w20 (wr w20 x0 28) ((4 : Int32)).toNatClampNeg (wi w20 (wr w20 x0 3) ((((3 : Int32) * x2) + (1 : Int32))).toNatClampNeg)) fun w24 => (ck (tg w24 (wr w24 x0 2) = 20 ∧ vp_in x2 (ln w24 (wr w24 x0 2))) (ck (tg w24 (wr w24 x0 28) = 20 ∧ vp_in (5 : Int32) (ln w24 (wr w24 x0 28))) (lw (sI w24 (wr w24 x0 28) ((5 : Int32)).toNatClampNeg (wi w24 (wr w24 x0 2) (x2).toNatClampNeg)) fun w28 => ((f6_says x0 x1 w28).bind fun z30 => (if x1 = (1 : Int32) then (j6_asksOf_106 x1 (0 : Int32) z30.1 z30.2) else (j6_asksOf_106 x1 (-99 : Int32) z30.1 z30.2))))))))))))))
theorem wpj6_asksOf_49 (X : CX) (w0 : Wd)  (x0 : Nat) (x1 : Int32) (x2 : Int32) (s0 : Int32) (s1 : Int32) (s2 : Nat) (w : Wd) : WPe rtI X (mX6_asksOf, 3, 0, 0, w0) 0 0 (j6_asksOf_49  x0 x1 x2 s0 s1 s2 w) 49 [(0, vR x0), (1, vI x1), (2, vI x2)] [vI s0, vI s1, vR s2] w := by
  unfold j6_asksOf_49
  refine WPe_ck fun h14 => ?_
  refine WPe_iast (pc := 49) (dd dtX6_asksOf 31 rfl) (shE h14.1) h14.2 ?_
  refine WPe_lw fun w15 e16 => ?_
  refine WPe_aload_n (pc := 50) 0 (dd dtX6_asksOf 32 rfl) rfl ?_
  refine WPe_ck fun h17 => ?_
  refine WPe_getR (pc := 51) (t := 6) (C := RX6) (T := TX6) 28 (dd dtX6_asksOf 33 rfl) (shE h17) rfl (Nat.le_of_ble_eq_true rfl) rfl (bw_mem4 81 rfl rfl) ?_
  refine WPe_iconst (pc := 54) (3 : Int32) (dd dtX6_asksOf 34 rfl) (by decide) ?_
  refine WPe_aload_n (pc := 55) 0 (dd dtX6_asksOf 35 rfl) rfl ?_
  refine WPe_getR (pc := 56) (t := 6) (C := RX6) (T := TX6) 4 (dd dtX6_asksOf 36 rfl) (shE h17) rfl (Nat.le_of_ble_eq_true rfl) rfl (bw_mem4 57 rfl rfl) ?_
  refine WPe_iconst (pc := 59) (0 : Int32) (dd dtX6_asksOf 37 rfl) (by decide) ?_
  refine WPe_ck fun h18 => ?_
  refine WPe_iald (pc := 60) (dd dtX6_asksOf 38 rfl) (shE h18.1) h18.2 ?_
  refine WPe_ck fun h19 => ?_
  refine WPe_iast (pc := 61) (dd dtX6_asksOf 39 rfl) (shE h19.1) h19.2 ?_
  refine WPe_lw fun w20 e21 => ?_
  refine WPe_aload_n (pc := 62) 0 (dd dtX6_asksOf 40 rfl) rfl ?_
  refine WPe_getR (pc := 63) (t := 6) (C := RX6) (T := TX6) 28 (dd dtX6_asksOf 41 rfl) (shI e21 (shE h17)) rfl (Nat.le_of_ble_eq_true rfl) rfl (bw_mem4 81 rfl rfl) ?_
  refine WPe_iconst (pc := 66) (4 : Int32) (dd dtX6_asksOf 42 rfl) (by decide) ?_
  refine WPe_aload_n (pc := 67) 0 (dd dtX6_asksOf 43 rfl) rfl ?_
  refine WPe_getR (pc := 68) (t := 6) (C := RX6) (T := TX6) 3 (dd dtX6_asksOf 44 rfl) (shI e21 (shE h17)) rfl (Nat.le_of_ble_eq_true rfl) rfl (bw_mem4 56 rfl rfl) ?_
  refine WPe_iconst (pc := 71) (3 : Int32) (dd dtX6_asksOf 45 rfl) (by decide) ?_
  refine WPe_iload_n (pc := 72) 2 (dd dtX6_asksOf 46 rfl) rfl ?_
  refine WPe_imul (pc := 73) (dd dtX6_asksOf 47 rfl) ?_
  refine WPe_iconst (pc := 74) (1 : Int32) (dd dtX6_asksOf 48 rfl) (by decide) ?_
  refine WPe_iadd (pc := 75) (dd dtX6_asksOf 49 rfl) ?_
  refine WPe_ck fun h22 => ?_
  refine WPe_iald (pc := 76) (dd dtX6_asksOf 50 rfl) (shE h22.1) h22.2 ?_
  refine WPe_ck fun h23 => ?_
  refine WPe_iast (pc := 77) (dd dtX6_asksOf 51 rfl) (shE h23.1) h23.2 ?_
  refine WPe_lw fun w24 e25 => ?_
  refine WPe_aload_n (pc := 78) 0 (dd dtX6_asksOf 52 rfl) rfl ?_
  refine WPe_getR (pc := 79) (t := 6) (C := RX6) (T := TX6) 28 (dd dtX6_asksOf 53 rfl) (shI e25 (shI e21 (shE h17))) rfl (Nat.le_of_ble_eq_true rfl) rfl (bw_mem4 81 rfl rfl) ?_
  refine WPe_iconst (pc := 82) (5 : Int32) (dd dtX6_asksOf 54 rfl) (by decide) ?_
  refine WPe_aload_n (pc := 83) 0 (dd dtX6_asksOf 55 rfl) rfl ?_
  refine WPe_getR (pc := 84) (t := 6) (C := RX6) (T := TX6) 2 (dd dtX6_asksOf 56 rfl) (shI e25 (shI e21 (shE h17))) rfl (Nat.le_of_ble_eq_true rfl) rfl (bw_mem4 55 rfl rfl) ?_
  refine WPe_iload_n (pc := 87) 2 (dd dtX6_asksOf 57 rfl) rfl ?_
  refine WPe_ck fun h26 => ?_
  refine WPe_iald (pc := 88) (dd dtX6_asksOf 58 rfl) (shE h26.1) h26.2 ?_
  refine WPe_ck fun h27 => ?_
  refine WPe_iast (pc := 89) (dd dtX6_asksOf 59 rfl) (shE h27.1) h27.2 ?_
  refine WPe_lw fun w28 e29 => ?_
  refine WPe_aload_n (pc := 90) 0 (dd dtX6_asksOf 60 rfl) rfl ?_
  refine WPe_iload_n (pc := 91) 1 (dd dtX6_asksOf 61 rfl) rfl ?_
  refine WPe_callV (pc := 92) (rtc := rtI) (Mc := mX6_says) (d' := 2) (mc' := 0) (ms' := 0) [vI x1] [] rfl (dd dtX6_asksOf 62 rfl) (okf6_says x0 x1 w28) moX6_says miX6_says (bw_mem4 198 rfl rfl) (Or.inl ⟨_, _, _, _, (shI e29 (shI e25 (shI e21 (shE h17)))), rfl⟩) rfl (Nat.le_of_ble_eq_true rfl) ⟨(Nat.le_of_ble_eq_true rfl), (Nat.le_of_ble_eq_true rfl)⟩ ⟨(Nat.le_of_ble_eq_true rfl), (Nat.le_of_ble_eq_true rfl)⟩ (fun z30 h31 e32 => ?_)
  refine WPe_st (st2 := [vI z30.1]) rfl ?_
  refine WPe_iload_n (pc := 95) 1 (dd dtX6_asksOf 63 rfl) rfl ?_
  refine WPe_iconst (pc := 96) (1 : Int32) (dd dtX6_asksOf 64 rfl) (by decide) ?_
  refine WPe_icmp_ne (pc := 97) 104 (dd dtX6_asksOf 65 rfl) (by decide) (fun h33 => ?_) (fun h33 => ?_)
  · refine WPe_iconst (pc := 100) (0 : Int32) (dd dtX6_asksOf 66 rfl) (by decide) ?_
    refine WPe_goto (pc := 101) 106 (dd dtX6_asksOf 67 rfl) (by decide) ?_
    refine WPe_sub [1] rfl ?_
    exact wpj6_asksOf_106 X w0  x1 (0 : Int32) z30.1 z30.2
  · refine WPe_bipush (pc := 104) (-99 : Int32) (dd dtX6_asksOf 68 rfl) (by decide) ?_
    refine WPe_sub [1] rfl ?_
    exact wpj6_asksOf_106 X w0  x1 (-99 : Int32) z30.1 z30.2
noncomputable def f6_asksOf (x0 : Nat) (x1 : Int32) (x2 : Int32) (w : Wd) : Option (Int32 × Wd) :=
  ck (tg w x0 = 6) (ck (tg w (wr w x0 4) = 20 ∧ vp_in (1 : Int32) (ln w (wr w x0 4))) (ck (tg w (wr w x0 28) = 20 ∧ vp_in (0 : Int32) (ln w (wr w x0 28))) (lw (sI w (wr w x0 28) ((0 : Int32)).toNatClampNeg (wi w (wr w x0 4) ((1 : Int32)).toNatClampNeg)) fun w4 => (ck (tg w4 (wr w4 x0 4) = 20 ∧ vp_in (2 : Int32) (ln w4 (wr w4 x0 4))) (ck (tg w4 (wr w4 x0 28) = 20 ∧ vp_in (1 : Int32) (ln w4 (wr w4 x0 28))) (lw (sI w4 (wr w4 x0 28) ((1 : Int32)).toNatClampNeg (wi w4 (wr w4 x0 4) ((2 : Int32)).toNatClampNeg)) fun w8 => ((f6_isIn x0 x2 w8).bind fun z10 => (if z10.1 = (0 : Int32) then (j6_asksOf_49 x0 x1 x2 (0 : Int32) (2 : Int32) (wr w8 x0 28) z10.2) else (ck (tg z10.2 (wr z10.2 x0 3) = 20 ∧ vp_in ((3 : Int32) * x2) (ln z10.2 (wr z10.2 x0 3))) (j6_asksOf_49 x0 x1 x2 (wi z10.2 (wr z10.2 x0 3) (((3 : Int32) * x2)).toNatClampNeg) (2 : Int32) (wr w8 x0 28) z10.2))))))))))
theorem wpf6_asksOf (X : CX) (w0 : Wd) (x0 : Nat) (x1 : Int32) (x2 : Int32) (w : Wd) : WPe rtI X (mX6_asksOf, 3, 0, 0, w0) 0 0 (f6_asksOf x0 x1 x2 w) 0 [(0, vR x0), (1, vI x1), (2, vI x2)] [] w := by
  unfold f6_asksOf
  refine WPe_aload_n (pc := 0) 0 (dd dtX6_asksOf 0 rfl) rfl ?_
  refine WPe_ck fun h1 => ?_
  refine WPe_getR (pc := 1) (t := 6) (C := RX6) (T := TX6) 28 (dd dtX6_asksOf 1 rfl) (shE h1) rfl (Nat.le_of_ble_eq_true rfl) rfl (bw_mem4 81 rfl rfl) ?_
  refine WPe_iconst (pc := 4) (0 : Int32) (dd dtX6_asksOf 2 rfl) (by decide) ?_
  refine WPe_aload_n (pc := 5) 0 (dd dtX6_asksOf 3 rfl) rfl ?_
  refine WPe_getR (pc := 6) (t := 6) (C := RX6) (T := TX6) 4 (dd dtX6_asksOf 4 rfl) (shE h1) rfl (Nat.le_of_ble_eq_true rfl) rfl (bw_mem4 57 rfl rfl) ?_
  refine WPe_iconst (pc := 9) (1 : Int32) (dd dtX6_asksOf 5 rfl) (by decide) ?_
  refine WPe_ck fun h2 => ?_
  refine WPe_iald (pc := 10) (dd dtX6_asksOf 6 rfl) (shE h2.1) h2.2 ?_
  refine WPe_ck fun h3 => ?_
  refine WPe_iast (pc := 11) (dd dtX6_asksOf 7 rfl) (shE h3.1) h3.2 ?_
  refine WPe_lw fun w4 e5 => ?_
  refine WPe_aload_n (pc := 12) 0 (dd dtX6_asksOf 8 rfl) rfl ?_
  refine WPe_getR (pc := 13) (t := 6) (C := RX6) (T := TX6) 28 (dd dtX6_asksOf 9 rfl) (shI e5 (shE h1)) rfl (Nat.le_of_ble_eq_true rfl) rfl (bw_mem4 81 rfl rfl) ?_
  refine WPe_iconst (pc := 16) (1 : Int32) (dd dtX6_asksOf 10 rfl) (by decide) ?_
  refine WPe_aload_n (pc := 17) 0 (dd dtX6_asksOf 11 rfl) rfl ?_
  refine WPe_getR (pc := 18) (t := 6) (C := RX6) (T := TX6) 4 (dd dtX6_asksOf 12 rfl) (shI e5 (shE h1)) rfl (Nat.le_of_ble_eq_true rfl) rfl (bw_mem4 57 rfl rfl) ?_
  refine WPe_iconst (pc := 21) (2 : Int32) (dd dtX6_asksOf 13 rfl) (by decide) ?_
  refine WPe_ck fun h6 => ?_
  refine WPe_iald (pc := 22) (dd dtX6_asksOf 14 rfl) (shE h6.1) h6.2 ?_
  refine WPe_ck fun h7 => ?_
  refine WPe_iast (pc := 23) (dd dtX6_asksOf 15 rfl) (shE h7.1) h7.2 ?_
  refine WPe_lw fun w8 e9 => ?_
  refine WPe_aload_n (pc := 24) 0 (dd dtX6_asksOf 16 rfl) rfl ?_
  refine WPe_getR (pc := 25) (t := 6) (C := RX6) (T := TX6) 28 (dd dtX6_asksOf 17 rfl) (shI e9 (shI e5 (shE h1))) rfl (Nat.le_of_ble_eq_true rfl) rfl (bw_mem4 81 rfl rfl) ?_
  refine WPe_iconst (pc := 28) (2 : Int32) (dd dtX6_asksOf 18 rfl) (by decide) ?_
  refine WPe_aload_n (pc := 29) 0 (dd dtX6_asksOf 19 rfl) rfl ?_
  refine WPe_iload_n (pc := 30) 2 (dd dtX6_asksOf 20 rfl) rfl ?_
  refine WPe_callV (pc := 31) (rtc := rtI) (Mc := mX6_isIn) (d' := 1) (mc' := 0) (ms' := 0) [vI x2] [vI (2 : Int32), vR (wr w8 x0 28)] rfl (dd dtX6_asksOf 21 rfl) (okf6_isIn x0 x2 w8) moX6_isIn miX6_isIn (bw_mem4 158 rfl rfl) (Or.inl ⟨_, _, _, _, (shI e9 (shI e5 (shE h1))), rfl⟩) rfl (Nat.le_of_ble_eq_true rfl) ⟨(Nat.le_of_ble_eq_true rfl), (Nat.le_of_ble_eq_true rfl)⟩ ⟨(Nat.le_of_ble_eq_true rfl), (Nat.le_of_ble_eq_true rfl)⟩ (fun z10 h11 e12 => ?_)
  refine WPe_st (st2 := [vI z10.1, vI (2 : Int32), vR (wr w8 x0 28)]) rfl ?_
  refine WPe_if_eq (pc := 34) 48 (dd dtX6_asksOf 22 rfl) (by decide) (fun h13 => ?_) (fun h13 => ?_)
  · refine WPe_iconst (pc := 48) (0 : Int32) (dd dtX6_asksOf 30 rfl) (by decide) ?_
    refine WPe_sub [0, 1, 2] rfl ?_
    exact wpj6_asksOf_49 X w0  x0 x1 x2 (0 : Int32) (2 : Int32) (wr w8 x0 28) z10.2
  · refine WPe_aload_n (pc := 37) 0 (dd dtX6_asksOf 23 rfl) rfl ?_
    refine WPe_getR (pc := 38) (t := 6) (C := RX6) (T := TX6) 3 (dd dtX6_asksOf 24 rfl) (e12.at (shI e9 (shI e5 (shE h1))) (by decide)) rfl (Nat.le_of_ble_eq_true rfl) rfl (bw_mem4 56 rfl rfl) ?_
    refine WPe_iconst (pc := 41) (3 : Int32) (dd dtX6_asksOf 25 rfl) (by decide) ?_
    refine WPe_iload_n (pc := 42) 2 (dd dtX6_asksOf 26 rfl) rfl ?_
    refine WPe_imul (pc := 43) (dd dtX6_asksOf 27 rfl) ?_
    refine WPe_ck fun h38 => ?_
    refine WPe_iald (pc := 44) (dd dtX6_asksOf 28 rfl) (shE h38.1) h38.2 ?_
    refine WPe_goto (pc := 45) 49 (dd dtX6_asksOf 29 rfl) (by decide) ?_
    refine WPe_sub [0, 1, 2] rfl ?_
    exact wpj6_asksOf_49 X w0  x0 x1 x2 (wi z10.2 (wr z10.2 x0 3) (((3 : Int32) * x2)).toNatClampNeg) (2 : Int32) (wr w8 x0 28) z10.2
theorem okf6_asksOf (x0 : Nat) (x1 : Int32) (x2 : Int32) (w : Wd) : ∀ z, f6_asksOf x0 x1 x2 w = some z → OkM mX6_asksOf 3 0 0 [vR x0, vI x1, vI x2] w (rtI z.1) z.2 :=
  OkM.of (rt := rtI) moX6_asksOf (Nat.le_of_ble_eq_true rfl) (fun X => wpf6_asksOf X w x0 x1 x2 w)
def tbX6_asks : List (Nat × Instr × Nat) := [(0, .iload_n 1, 1), (1, .iconst 0, 1), (2, .iconst 2, 1), (3, .invokestatic 75, 3), (6, .ifCond .eq 20, 3), (9, .aload_n 0, 1), (10, .iload_n 2, 1), (11, .invokevirtual 164, 3), (14, .ifCond .eq 12, 3), (17, .aload_n 0, 1), (18, .iload_n 1, 1), (19, .iload_n 2, 1), (20, .invokevirtual 167, 3), (23, .goto 6, 3), (26, .sipush (-1000), 3), (29, .ireturn, 1)]
set_option maxRecDepth 20000 in
theorem dtX6_asks : ∀ x ∈ tbX6_asks, decode cX6_asks x.1 = .ok x.2 := by decide +kernel
noncomputable def f6_asks (x0 : Nat) (x1 : Int32) (x2 : Int32) (w : Wd) : Option (Int32 × Wd) :=
  (f6_in x1 (0 : Int32) (2 : Int32) w).bind fun z1 => (if z1.1 = (0 : Int32) then (some ((-1000 : Int32), z1.2)) else (ck (tg z1.2 x0 = 6) ((f6_isOne x0 x2 z1.2).bind fun z6 => (if z6.1 = (0 : Int32) then (some ((-1000 : Int32), z6.2)) else ((f6_asksOf x0 x1 x2 z6.2).bind fun z10 => (some (z10.1, z10.2)))))))
theorem wpf6_asks (X : CX) (w0 : Wd) (x0 : Nat) (x1 : Int32) (x2 : Int32) (w : Wd) : WPe rtI X (mX6_asks, 4, 0, 0, w0) 0 0 (f6_asks x0 x1 x2 w) 0 [(0, vR x0), (1, vI x1), (2, vI x2)] [] w := by
  unfold f6_asks
  refine WPe_iload_n (pc := 0) 1 (dd dtX6_asks 0 rfl) rfl ?_
  refine WPe_iconst (pc := 1) (0 : Int32) (dd dtX6_asks 1 rfl) (by decide) ?_
  refine WPe_iconst (pc := 2) (2 : Int32) (dd dtX6_asks 2 rfl) (by decide) ?_
  refine WPe_callS (pc := 3) (rtc := rtI) (Mc := mX6_in) (d' := 1) (mc' := 0) (ms' := 0) [vI x1, vI (0 : Int32), vI (2 : Int32)] [] rfl (dd dtX6_asks 3 rfl) (okf6_in x1 (0 : Int32) (2 : Int32) w) moX6_in msX6_in (bw_mem4 14 rfl rfl) rfl (Nat.le_of_ble_eq_true rfl) ⟨(Nat.le_of_ble_eq_true rfl), (Nat.le_of_ble_eq_true rfl)⟩ ⟨(Nat.le_of_ble_eq_true rfl), (Nat.le_of_ble_eq_true rfl)⟩ (fun z1 h2 e3 => ?_)
  refine WPe_st (st2 := [vI z1.1]) rfl ?_
  refine WPe_if_eq (pc := 6) 26 (dd dtX6_asks 4 rfl) (by decide) (fun h4 => ?_) (fun h4 => ?_)
  · refine WPe_sipush (pc := 26) (-1000 : Int32) (dd dtX6_asks 14 rfl) (by decide) ?_
    exact WPe_ireturn (pc := 29) (dd dtX6_asks 15 rfl) rfl rfl ⟨(Nat.le_of_ble_eq_true rfl), (Nat.le_of_ble_eq_true rfl)⟩
  · refine WPe_aload_n (pc := 9) 0 (dd dtX6_asks 5 rfl) rfl ?_
    refine WPe_iload_n (pc := 10) 2 (dd dtX6_asks 6 rfl) rfl ?_
    refine WPe_ck fun h5 => ?_
    refine WPe_callV (pc := 11) (rtc := rtI) (Mc := mX6_isOne) (d' := 2) (mc' := 0) (ms' := 0) [vI x2] [] rfl (dd dtX6_asks 7 rfl) (okf6_isOne x0 x2 z1.2) moX6_isOne miX6_isOne (bw_mem4 190 rfl rfl) (Or.inl ⟨_, _, _, _, (shE h5), rfl⟩) rfl (Nat.le_of_ble_eq_true rfl) ⟨(Nat.le_of_ble_eq_true rfl), (Nat.le_of_ble_eq_true rfl)⟩ ⟨(Nat.le_of_ble_eq_true rfl), (Nat.le_of_ble_eq_true rfl)⟩ (fun z6 h7 e8 => ?_)
    refine WPe_st (st2 := [vI z6.1]) rfl ?_
    refine WPe_if_eq (pc := 14) 26 (dd dtX6_asks 8 rfl) (by decide) (fun h9 => ?_) (fun h9 => ?_)
    · refine WPe_sipush (pc := 26) (-1000 : Int32) (dd dtX6_asks 14 rfl) (by decide) ?_
      exact WPe_ireturn (pc := 29) (dd dtX6_asks 15 rfl) rfl rfl ⟨(Nat.le_of_ble_eq_true rfl), (Nat.le_of_ble_eq_true rfl)⟩
    · refine WPe_aload_n (pc := 17) 0 (dd dtX6_asks 9 rfl) rfl ?_
      refine WPe_iload_n (pc := 18) 1 (dd dtX6_asks 10 rfl) rfl ?_
      refine WPe_iload_n (pc := 19) 2 (dd dtX6_asks 11 rfl) rfl ?_
      refine WPe_callV (pc := 20) (rtc := rtI) (Mc := mX6_asksOf) (d' := 3) (mc' := 0) (ms' := 0) [vI x1, vI x2] [] rfl (dd dtX6_asks 12 rfl) (okf6_asksOf x0 x1 x2 z6.2) moX6_asksOf miX6_asksOf (bw_mem4 194 rfl rfl) (Or.inl ⟨_, _, _, _, (e8.at (shE h5) (by decide)), rfl⟩) rfl (Nat.le_of_ble_eq_true rfl) ⟨(Nat.le_of_ble_eq_true rfl), (Nat.le_of_ble_eq_true rfl)⟩ ⟨(Nat.le_of_ble_eq_true rfl), (Nat.le_of_ble_eq_true rfl)⟩ (fun z10 h11 e12 => ?_)
      refine WPe_st (st2 := [vI z10.1]) rfl ?_
      refine WPe_goto (pc := 23) 29 (dd dtX6_asks 13 rfl) (by decide) ?_
      exact WPe_ireturn (pc := 29) (dd dtX6_asks 15 rfl) rfl rfl ⟨(Nat.le_of_ble_eq_true rfl), (Nat.le_of_ble_eq_true rfl)⟩
theorem okf6_asks (x0 : Nat) (x1 : Int32) (x2 : Int32) (w : Wd) : ∀ z, f6_asks x0 x1 x2 w = some z → OkM mX6_asks 4 0 0 [vR x0, vI x1, vI x2] w (rtI z.1) z.2 :=
  OkM.of (rt := rtI) moX6_asks (Nat.le_of_ble_eq_true rfl) (fun X => wpf6_asks X w x0 x1 x2 w)
def tbX6_bather : List (Nat × Instr × Nat) := [(0, .iload_n 1, 1), (1, .iconst 0, 1), (2, .bipush 59, 2), (4, .invokestatic 75, 3), (7, .ifCond .eq 22, 3), (10, .iload_n 2, 1), (11, .iconst 0, 1), (12, .sipush 9999, 3), (15, .invokestatic 75, 3), (18, .ifCond .eq 11, 3), (21, .iload_n 2, 1), (22, .bipush 10, 2), (24, .irem, 1), (25, .iconst 3, 1), (26, .if_icmp .le 6, 3), (29, .bipush (-2), 2), (31, .ireturn, 1), (32, .aload_n 0, 1), (33, .getfield 72, 3), (36, .bipush 6, 2), (38, .if_icmp .ne 6, 3), (41, .bipush (-4), 2), (43, .ireturn, 1), (44, .aload_n 0, 1), (45, .getfield 7, 3), (48, .aload_n 0, 1), (49, .getfield 72, 3), (52, .iload_n 1, 1), (53, .bipush 10, 2), (55, .idiv, 1), (56, .iastore, 1), (57, .aload_n 0, 1), (58, .getfield 13, 3), (61, .aload_n 0, 1), (62, .getfield 72, 3), (65, .iload_n 1, 1), (66, .bipush 10, 2), (68, .irem, 1), (69, .iastore, 1), (70, .aload_n 0, 1), (71, .getfield 16, 3), (74, .iconst 3, 1), (75, .aload_n 0, 1), (76, .getfield 72, 3), (79, .imul, 1), (80, .iload_n 2, 1), (81, .bipush 10, 2), (83, .irem, 1), (84, .iastore, 1), (85, .aload_n 0, 1), (86, .getfield 16, 3), (89, .iconst 3, 1), (90, .aload_n 0, 1), (91, .getfield 72, 3), (94, .imul, 1), (95, .iconst 1, 1), (96, .iadd, 1), (97, .iload_n 2, 1), (98, .bipush 10, 2), (100, .idiv, 1), (101, .iastore, 1), (102, .aload_n 0, 1), (103, .getfield 16, 3), (106, .iconst 3, 1), (107, .aload_n 0, 1), (108, .getfield 72, 3), (111, .imul, 1), (112, .iconst 2, 1), (113, .iadd, 1), (114, .iconst 0, 1), (115, .iastore, 1), (116, .aload_n 0, 1), (117, .dup, 1), (118, .getfield 72, 3), (121, .iconst 1, 1), (122, .iadd, 1), (123, .putfield 72, 3), (126, .aload_n 0, 1), (127, .getfield 72, 3), (130, .iconst 1, 1), (131, .isub, 1), (132, .ireturn, 1)]
set_option maxRecDepth 20000 in
theorem dtX6_bather : ∀ x ∈ tbX6_bather, decode cX6_bather x.1 = .ok x.2 := by decide +kernel
noncomputable def f6_bather (x0 : Nat) (x1 : Int32) (x2 : Int32) (w : Wd) : Option (Int32 × Wd) :=
  (f6_in x1 (0 : Int32) (59 : Int32) w).bind fun z1 => (if z1.1 = (0 : Int32) then (some ((-2 : Int32), z1.2)) else ((f6_in x2 (0 : Int32) (9999 : Int32) z1.2).bind fun z5 => (if z5.1 = (0 : Int32) then (some ((-2 : Int32), z5.2)) else (if (x2 - x2 / (10 : Int32) * (10 : Int32)) ≤ (3 : Int32) then (ck (tg z5.2 x0 = 6) (if (wi z5.2 x0 0) = (6 : Int32) then (some ((-4 : Int32), z5.2)) else (ck (tg z5.2 (wr z5.2 x0 1) = 20 ∧ vp_in (wi z5.2 x0 0) (ln z5.2 (wr z5.2 x0 1))) (lw (sI z5.2 (wr z5.2 x0 1) ((wi z5.2 x0 0)).toNatClampNeg (x1 / (10 : Int32))) fun w13 => (ck (tg w13 (wr w13 x0 2) = 20 ∧ vp_in (wi w13 x0 0) (ln w13 (wr w13 x0 2))) (lw (sI w13 (wr w13 x0 2) ((wi w13 x0 0)).toNatClampNeg (x1 - x1 / (10 : Int32) * (10 : Int32))) fun w16 => (ck (tg w16 (wr w16 x0 3) = 20 ∧ vp_in ((3 : Int32) * (wi w16 x0 0)) (ln w16 (wr w16 x0 3))) (lw (sI w16 (wr w16 x0 3) (((3 : Int32) * (wi w16 x0 0))).toNatClampNeg (x2 - x2 / (10 : Int32) * (10 : Int32))) fun w19 => (ck (tg w19 (wr w19 x0 3) = 20 ∧ vp_in (((3 : Int32) * (wi w19 x0 0)) + (1 : Int32)) (ln w19 (wr w19 x0 3))) (lw (sI w19 (wr w19 x0 3) ((((3 : Int32) * (wi w19 x0 0)) + (1 : Int32))).toNatClampNeg (x2 / (10 : Int32))) fun w22 => (ck (tg w22 (wr w22 x0 3) = 20 ∧ vp_in (((3 : Int32) * (wi w22 x0 0)) + (2 : Int32)) (ln w22 (wr w22 x0 3))) (lw (sI w22 (wr w22 x0 3) ((((3 : Int32) * (wi w22 x0 0)) + (2 : Int32))).toNatClampNeg (0 : Int32)) fun w25 => (lw (sI w25 x0 0 ((wi w25 x0 0) + (1 : Int32))) fun w27 => (some (((wi w27 x0 0) - (1 : Int32)), w27))))))))))))))) else (some ((-2 : Int32), z5.2))))))
theorem wpf6_bather (X : CX) (w0 : Wd) (x0 : Nat) (x1 : Int32) (x2 : Int32) (w : Wd) : WPe rtI X (mX6_bather, 2, 0, 0, w0) 0 0 (f6_bather x0 x1 x2 w) 0 [(0, vR x0), (1, vI x1), (2, vI x2)] [] w := by
  unfold f6_bather
  refine WPe_iload_n (pc := 0) 1 (dd dtX6_bather 0 rfl) rfl ?_
  refine WPe_iconst (pc := 1) (0 : Int32) (dd dtX6_bather 1 rfl) (by decide) ?_
  refine WPe_bipush (pc := 2) (59 : Int32) (dd dtX6_bather 2 rfl) (by decide) ?_
  refine WPe_callS (pc := 4) (rtc := rtI) (Mc := mX6_in) (d' := 1) (mc' := 0) (ms' := 0) [vI x1, vI (0 : Int32), vI (59 : Int32)] [] rfl (dd dtX6_bather 3 rfl) (okf6_in x1 (0 : Int32) (59 : Int32) w) moX6_in msX6_in (bw_mem4 14 rfl rfl) rfl (Nat.le_of_ble_eq_true rfl) ⟨(Nat.le_of_ble_eq_true rfl), (Nat.le_of_ble_eq_true rfl)⟩ ⟨(Nat.le_of_ble_eq_true rfl), (Nat.le_of_ble_eq_true rfl)⟩ (fun z1 h2 e3 => ?_)
  refine WPe_st (st2 := [vI z1.1]) rfl ?_
  refine WPe_if_eq (pc := 7) 29 (dd dtX6_bather 4 rfl) (by decide) (fun h4 => ?_) (fun h4 => ?_)
  · refine WPe_bipush (pc := 29) (-2 : Int32) (dd dtX6_bather 15 rfl) (by decide) ?_
    exact WPe_ireturn (pc := 31) (dd dtX6_bather 16 rfl) rfl rfl ⟨(Nat.le_of_ble_eq_true rfl), (Nat.le_of_ble_eq_true rfl)⟩
  · refine WPe_iload_n (pc := 10) 2 (dd dtX6_bather 5 rfl) rfl ?_
    refine WPe_iconst (pc := 11) (0 : Int32) (dd dtX6_bather 6 rfl) (by decide) ?_
    refine WPe_sipush (pc := 12) (9999 : Int32) (dd dtX6_bather 7 rfl) (by decide) ?_
    refine WPe_callS (pc := 15) (rtc := rtI) (Mc := mX6_in) (d' := 1) (mc' := 0) (ms' := 0) [vI x2, vI (0 : Int32), vI (9999 : Int32)] [] rfl (dd dtX6_bather 8 rfl) (okf6_in x2 (0 : Int32) (9999 : Int32) z1.2) moX6_in msX6_in (bw_mem4 14 rfl rfl) rfl (Nat.le_of_ble_eq_true rfl) ⟨(Nat.le_of_ble_eq_true rfl), (Nat.le_of_ble_eq_true rfl)⟩ ⟨(Nat.le_of_ble_eq_true rfl), (Nat.le_of_ble_eq_true rfl)⟩ (fun z5 h6 e7 => ?_)
    refine WPe_st (st2 := [vI z5.1]) rfl ?_
    refine WPe_if_eq (pc := 18) 29 (dd dtX6_bather 9 rfl) (by decide) (fun h8 => ?_) (fun h8 => ?_)
    · refine WPe_bipush (pc := 29) (-2 : Int32) (dd dtX6_bather 15 rfl) (by decide) ?_
      exact WPe_ireturn (pc := 31) (dd dtX6_bather 16 rfl) rfl rfl ⟨(Nat.le_of_ble_eq_true rfl), (Nat.le_of_ble_eq_true rfl)⟩
    · refine WPe_iload_n (pc := 21) 2 (dd dtX6_bather 10 rfl) rfl ?_
      refine WPe_bipush (pc := 22) (10 : Int32) (dd dtX6_bather 11 rfl) (by decide) ?_
      refine WPe_irem (pc := 24) (dd dtX6_bather 12 rfl) (by decide) ?_
      refine WPe_iconst (pc := 25) (3 : Int32) (dd dtX6_bather 13 rfl) (by decide) ?_
      refine WPe_icmp_le (pc := 26) 32 (dd dtX6_bather 14 rfl) (by decide) (fun h9 => ?_) (fun h9 => ?_)
      · refine WPe_aload_n (pc := 32) 0 (dd dtX6_bather 17 rfl) rfl ?_
        refine WPe_ck fun h10 => ?_
        refine WPe_getI (pc := 33) (t := 6) (C := RX6) (T := TX6) 0 (dd dtX6_bather 18 rfl) (shE h10) rfl (Nat.le_of_ble_eq_true rfl) rfl (bw_mem4 53 rfl rfl) ?_
        refine WPe_bipush (pc := 36) (6 : Int32) (dd dtX6_bather 19 rfl) (by decide) ?_
        refine WPe_icmp_ne (pc := 38) 44 (dd dtX6_bather 20 rfl) (by decide) (fun h11 => ?_) (fun h11 => ?_)
        · refine WPe_bipush (pc := 41) (-4 : Int32) (dd dtX6_bather 21 rfl) (by decide) ?_
          exact WPe_ireturn (pc := 43) (dd dtX6_bather 22 rfl) rfl rfl ⟨(Nat.le_of_ble_eq_true rfl), (Nat.le_of_ble_eq_true rfl)⟩
        · refine WPe_aload_n (pc := 44) 0 (dd dtX6_bather 23 rfl) rfl ?_
          refine WPe_getR (pc := 45) (t := 6) (C := RX6) (T := TX6) 1 (dd dtX6_bather 24 rfl) (shE h10) rfl (Nat.le_of_ble_eq_true rfl) rfl (bw_mem4 54 rfl rfl) ?_
          refine WPe_aload_n (pc := 48) 0 (dd dtX6_bather 25 rfl) rfl ?_
          refine WPe_getI (pc := 49) (t := 6) (C := RX6) (T := TX6) 0 (dd dtX6_bather 26 rfl) (shE h10) rfl (Nat.le_of_ble_eq_true rfl) rfl (bw_mem4 53 rfl rfl) ?_
          refine WPe_iload_n (pc := 52) 1 (dd dtX6_bather 27 rfl) rfl ?_
          refine WPe_bipush (pc := 53) (10 : Int32) (dd dtX6_bather 28 rfl) (by decide) ?_
          refine WPe_idiv (pc := 55) (dd dtX6_bather 29 rfl) (by decide) ?_
          refine WPe_ck fun h12 => ?_
          refine WPe_iast (pc := 56) (dd dtX6_bather 30 rfl) (shE h12.1) h12.2 ?_
          refine WPe_lw fun w13 e14 => ?_
          refine WPe_aload_n (pc := 57) 0 (dd dtX6_bather 31 rfl) rfl ?_
          refine WPe_getR (pc := 58) (t := 6) (C := RX6) (T := TX6) 2 (dd dtX6_bather 32 rfl) (shI e14 (shE h10)) rfl (Nat.le_of_ble_eq_true rfl) rfl (bw_mem4 55 rfl rfl) ?_
          refine WPe_aload_n (pc := 61) 0 (dd dtX6_bather 33 rfl) rfl ?_
          refine WPe_getI (pc := 62) (t := 6) (C := RX6) (T := TX6) 0 (dd dtX6_bather 34 rfl) (shI e14 (shE h10)) rfl (Nat.le_of_ble_eq_true rfl) rfl (bw_mem4 53 rfl rfl) ?_
          refine WPe_iload_n (pc := 65) 1 (dd dtX6_bather 35 rfl) rfl ?_
          refine WPe_bipush (pc := 66) (10 : Int32) (dd dtX6_bather 36 rfl) (by decide) ?_
          refine WPe_irem (pc := 68) (dd dtX6_bather 37 rfl) (by decide) ?_
          refine WPe_ck fun h15 => ?_
          refine WPe_iast (pc := 69) (dd dtX6_bather 38 rfl) (shE h15.1) h15.2 ?_
          refine WPe_lw fun w16 e17 => ?_
          refine WPe_aload_n (pc := 70) 0 (dd dtX6_bather 39 rfl) rfl ?_
          refine WPe_getR (pc := 71) (t := 6) (C := RX6) (T := TX6) 3 (dd dtX6_bather 40 rfl) (shI e17 (shI e14 (shE h10))) rfl (Nat.le_of_ble_eq_true rfl) rfl (bw_mem4 56 rfl rfl) ?_
          refine WPe_iconst (pc := 74) (3 : Int32) (dd dtX6_bather 41 rfl) (by decide) ?_
          refine WPe_aload_n (pc := 75) 0 (dd dtX6_bather 42 rfl) rfl ?_
          refine WPe_getI (pc := 76) (t := 6) (C := RX6) (T := TX6) 0 (dd dtX6_bather 43 rfl) (shI e17 (shI e14 (shE h10))) rfl (Nat.le_of_ble_eq_true rfl) rfl (bw_mem4 53 rfl rfl) ?_
          refine WPe_imul (pc := 79) (dd dtX6_bather 44 rfl) ?_
          refine WPe_iload_n (pc := 80) 2 (dd dtX6_bather 45 rfl) rfl ?_
          refine WPe_bipush (pc := 81) (10 : Int32) (dd dtX6_bather 46 rfl) (by decide) ?_
          refine WPe_irem (pc := 83) (dd dtX6_bather 47 rfl) (by decide) ?_
          refine WPe_ck fun h18 => ?_
          refine WPe_iast (pc := 84) (dd dtX6_bather 48 rfl) (shE h18.1) h18.2 ?_
          refine WPe_lw fun w19 e20 => ?_
          refine WPe_aload_n (pc := 85) 0 (dd dtX6_bather 49 rfl) rfl ?_
          refine WPe_getR (pc := 86) (t := 6) (C := RX6) (T := TX6) 3 (dd dtX6_bather 50 rfl) (shI e20 (shI e17 (shI e14 (shE h10)))) rfl (Nat.le_of_ble_eq_true rfl) rfl (bw_mem4 56 rfl rfl) ?_
          refine WPe_iconst (pc := 89) (3 : Int32) (dd dtX6_bather 51 rfl) (by decide) ?_
          refine WPe_aload_n (pc := 90) 0 (dd dtX6_bather 52 rfl) rfl ?_
          refine WPe_getI (pc := 91) (t := 6) (C := RX6) (T := TX6) 0 (dd dtX6_bather 53 rfl) (shI e20 (shI e17 (shI e14 (shE h10)))) rfl (Nat.le_of_ble_eq_true rfl) rfl (bw_mem4 53 rfl rfl) ?_
          refine WPe_imul (pc := 94) (dd dtX6_bather 54 rfl) ?_
          refine WPe_iconst (pc := 95) (1 : Int32) (dd dtX6_bather 55 rfl) (by decide) ?_
          refine WPe_iadd (pc := 96) (dd dtX6_bather 56 rfl) ?_
          refine WPe_iload_n (pc := 97) 2 (dd dtX6_bather 57 rfl) rfl ?_
          refine WPe_bipush (pc := 98) (10 : Int32) (dd dtX6_bather 58 rfl) (by decide) ?_
          refine WPe_idiv (pc := 100) (dd dtX6_bather 59 rfl) (by decide) ?_
          refine WPe_ck fun h21 => ?_
          refine WPe_iast (pc := 101) (dd dtX6_bather 60 rfl) (shE h21.1) h21.2 ?_
          refine WPe_lw fun w22 e23 => ?_
          refine WPe_aload_n (pc := 102) 0 (dd dtX6_bather 61 rfl) rfl ?_
          refine WPe_getR (pc := 103) (t := 6) (C := RX6) (T := TX6) 3 (dd dtX6_bather 62 rfl) (shI e23 (shI e20 (shI e17 (shI e14 (shE h10))))) rfl (Nat.le_of_ble_eq_true rfl) rfl (bw_mem4 56 rfl rfl) ?_
          refine WPe_iconst (pc := 106) (3 : Int32) (dd dtX6_bather 63 rfl) (by decide) ?_
          refine WPe_aload_n (pc := 107) 0 (dd dtX6_bather 64 rfl) rfl ?_
          refine WPe_getI (pc := 108) (t := 6) (C := RX6) (T := TX6) 0 (dd dtX6_bather 65 rfl) (shI e23 (shI e20 (shI e17 (shI e14 (shE h10))))) rfl (Nat.le_of_ble_eq_true rfl) rfl (bw_mem4 53 rfl rfl) ?_
          refine WPe_imul (pc := 111) (dd dtX6_bather 66 rfl) ?_
          refine WPe_iconst (pc := 112) (2 : Int32) (dd dtX6_bather 67 rfl) (by decide) ?_
          refine WPe_iadd (pc := 113) (dd dtX6_bather 68 rfl) ?_
          refine WPe_iconst (pc := 114) (0 : Int32) (dd dtX6_bather 69 rfl) (by decide) ?_
          refine WPe_ck fun h24 => ?_
          refine WPe_iast (pc := 115) (dd dtX6_bather 70 rfl) (shE h24.1) h24.2 ?_
          refine WPe_lw fun w25 e26 => ?_
          refine WPe_aload_n (pc := 116) 0 (dd dtX6_bather 71 rfl) rfl ?_
          refine WPe_dup (pc := 117) (dd dtX6_bather 72 rfl) rfl ?_
          refine WPe_getI (pc := 118) (t := 6) (C := RX6) (T := TX6) 0 (dd dtX6_bather 73 rfl) (shI e26 (shI e23 (shI e20 (shI e17 (shI e14 (shE h10)))))) rfl (Nat.le_of_ble_eq_true rfl) rfl (bw_mem4 53 rfl rfl) ?_
          refine WPe_iconst (pc := 121) (1 : Int32) (dd dtX6_bather 74 rfl) (by decide) ?_
          refine WPe_iadd (pc := 122) (dd dtX6_bather 75 rfl) ?_
          refine WPe_putI (pc := 123) (t := 6) (C := RX6) (T := TX6) 0 (dd dtX6_bather 76 rfl) (shI e26 (shI e23 (shI e20 (shI e17 (shI e14 (shE h10)))))) rfl (Nat.le_of_ble_eq_true rfl) (bw_mem4 53 rfl rfl) (Or.inl rfl) rfl rfl rfl ?_
          refine WPe_lw fun w27 e28 => ?_
          refine WPe_aload_n (pc := 126) 0 (dd dtX6_bather 77 rfl) rfl ?_
          refine WPe_getI (pc := 127) (t := 6) (C := RX6) (T := TX6) 0 (dd dtX6_bather 78 rfl) (shI e28 (shI e26 (shI e23 (shI e20 (shI e17 (shI e14 (shE h10))))))) rfl (Nat.le_of_ble_eq_true rfl) rfl (bw_mem4 53 rfl rfl) ?_
          refine WPe_iconst (pc := 130) (1 : Int32) (dd dtX6_bather 79 rfl) (by decide) ?_
          refine WPe_isub (pc := 131) (dd dtX6_bather 80 rfl) ?_
          exact WPe_ireturn (pc := 132) (dd dtX6_bather 81 rfl) rfl rfl ⟨(Nat.le_of_ble_eq_true rfl), (Nat.le_of_ble_eq_true rfl)⟩
      · refine WPe_bipush (pc := 29) (-2 : Int32) (dd dtX6_bather 15 rfl) (by decide) ?_
        exact WPe_ireturn (pc := 31) (dd dtX6_bather 16 rfl) rfl rfl ⟨(Nat.le_of_ble_eq_true rfl), (Nat.le_of_ble_eq_true rfl)⟩
theorem okf6_bather (x0 : Nat) (x1 : Int32) (x2 : Int32) (w : Wd) : ∀ z, f6_bather x0 x1 x2 w = some z → OkM mX6_bather 2 0 0 [vR x0, vI x1, vI x2] w (rtI z.1) z.2 :=
  OkM.of (rt := rtI) moX6_bather (Nat.le_of_ble_eq_true rfl) (fun X => wpf6_bather X w x0 x1 x2 w)
def tbX6_put : List (Nat × Instr × Nat) := [(0, .aload_n 0, 1), (1, .iload_n 1, 1), (2, .invokevirtual 164, 3), (5, .ifCond .ne 6, 3), (8, .bipush (-5), 2), (10, .ireturn, 1), (11, .iload_n 2, 1), (12, .iconst 0, 1), (13, .iconst 2, 1), (14, .invokestatic 75, 3), (17, .ifCond .eq 22, 3), (20, .iload_n 3, 1), (21, .iconst 0, 1), (22, .iload_n 2, 1), (23, .ifCond .ne 7, 3), (26, .iconst 3, 1), (27, .goto 6, 3), (30, .sipush 999, 3), (33, .invokestatic 75, 3), (36, .ifCond .ne 6, 3), (39, .bipush (-7), 2), (41, .ireturn, 1), (42, .aload_n 0, 1), (43, .getfield 16, 3), (46, .iconst 3, 1), (47, .iload_n 1, 1), (48, .imul, 1), (49, .iload_n 2, 1), (50, .iadd, 1), (51, .iaload, 1), (52, .istore 4, 2), (54, .aload_n 0, 1), (55, .getfield 16, 3), (58, .iconst 3, 1), (59, .iload_n 1, 1), (60, .imul, 1), (61, .iload_n 2, 1), (62, .iadd, 1), (63, .iload_n 3, 1), (64, .iastore, 1), (65, .iload 4, 2), (67, .ireturn, 1)]
set_option maxRecDepth 20000 in
theorem dtX6_put : ∀ x ∈ tbX6_put, decode cX6_put x.1 = .ok x.2 := by decide +kernel
noncomputable def j6_put_33  (x0 : Nat) (x1 : Int32) (x2 : Int32) (x3 : Int32) (s0 : Int32) (s1 : Int32) (s2 : Int32) (w : Wd) : Option (Int32 × Wd) :=
  (f6_in s2 s1 s0 w).bind fun z11 => (if z11.1 = (0 : Int32) then (some ((-7 : Int32), z11.2)) else (ck (tg z11.2 x0 = 6) (ck (tg z11.2 (wr z11.2 x0 3) = 20 ∧ vp_in (((3 : Int32) * x1) + x2) (ln z11.2 (wr z11.2 x0 3))) (ck (vp_in (((3 : Int32) * x1) + x2) (ln z11.2 (wr z11.2 x0 3))) (lw (sI z11.2 (wr z11.2 x0 3) ((((3 : Int32) * x1) + x2)).toNatClampNeg x3) fun w18 => (some ((wi z11.2 (wr z11.2 x0 3) ((((3 : Int32) * x1) + x2)).toNatClampNeg), w18)))))))
theorem wpj6_put_33 (X : CX) (w0 : Wd)  (x0 : Nat) (x1 : Int32) (x2 : Int32) (x3 : Int32) (s0 : Int32) (s1 : Int32) (s2 : Int32) (w : Wd) : WPe rtI X (mX6_put, 3, 0, 0, w0) 0 0 (j6_put_33  x0 x1 x2 x3 s0 s1 s2 w) 33 [(0, vR x0), (1, vI x1), (2, vI x2), (3, vI x3)] [vI s0, vI s1, vI s2] w := by
  unfold j6_put_33
  refine WPe_callS (pc := 33) (rtc := rtI) (Mc := mX6_in) (d' := 1) (mc' := 0) (ms' := 0) [vI s2, vI s1, vI s0] [] rfl (dd dtX6_put 18 rfl) (okf6_in s2 s1 s0 w) moX6_in msX6_in (bw_mem4 14 rfl rfl) rfl (Nat.le_of_ble_eq_true rfl) ⟨(Nat.le_of_ble_eq_true rfl), (Nat.le_of_ble_eq_true rfl)⟩ ⟨(Nat.le_of_ble_eq_true rfl), (Nat.le_of_ble_eq_true rfl)⟩ (fun z11 h12 e13 => ?_)
  refine WPe_st (st2 := [vI z11.1]) rfl ?_
  refine WPe_if_ne (pc := 36) 42 (dd dtX6_put 19 rfl) (by decide) (fun h14 => ?_) (fun h14 => ?_)
  · refine WPe_bipush (pc := 39) (-7 : Int32) (dd dtX6_put 20 rfl) (by decide) ?_
    exact WPe_ireturn (pc := 41) (dd dtX6_put 21 rfl) rfl rfl ⟨(Nat.le_of_ble_eq_true rfl), (Nat.le_of_ble_eq_true rfl)⟩
  · refine WPe_aload_n (pc := 42) 0 (dd dtX6_put 22 rfl) rfl ?_
    refine WPe_ck fun h15 => ?_
    refine WPe_getR (pc := 43) (t := 6) (C := RX6) (T := TX6) 3 (dd dtX6_put 23 rfl) (shE h15) rfl (Nat.le_of_ble_eq_true rfl) rfl (bw_mem4 56 rfl rfl) ?_
    refine WPe_iconst (pc := 46) (3 : Int32) (dd dtX6_put 24 rfl) (by decide) ?_
    refine WPe_iload_n (pc := 47) 1 (dd dtX6_put 25 rfl) rfl ?_
    refine WPe_imul (pc := 48) (dd dtX6_put 26 rfl) ?_
    refine WPe_iload_n (pc := 49) 2 (dd dtX6_put 27 rfl) rfl ?_
    refine WPe_iadd (pc := 50) (dd dtX6_put 28 rfl) ?_
    refine WPe_ck fun h16 => ?_
    refine WPe_iald (pc := 51) (dd dtX6_put 29 rfl) (shE h16.1) h16.2 ?_
    refine WPe_istore (pc := 52) (ls' := [(4, vI (wi z11.2 (wr z11.2 x0 3) ((((3 : Int32) * x1) + x2)).toNatClampNeg)), (0, vR x0), (1, vI x1), (2, vI x2), (3, vI x3)]) (dd dtX6_put 30 rfl) (Nat.le_of_ble_eq_true rfl) rfl ?_
    refine WPe_aload_n (pc := 54) 1 (dd dtX6_put 31 rfl) rfl ?_
    refine WPe_getR (pc := 55) (t := 6) (C := RX6) (T := TX6) 3 (dd dtX6_put 32 rfl) (shE h15) rfl (Nat.le_of_ble_eq_true rfl) rfl (bw_mem4 56 rfl rfl) ?_
    refine WPe_iconst (pc := 58) (3 : Int32) (dd dtX6_put 33 rfl) (by decide) ?_
    refine WPe_iload_n (pc := 59) 2 (dd dtX6_put 34 rfl) rfl ?_
    refine WPe_imul (pc := 60) (dd dtX6_put 35 rfl) ?_
    refine WPe_iload_n (pc := 61) 3 (dd dtX6_put 36 rfl) rfl ?_
    refine WPe_iadd (pc := 62) (dd dtX6_put 37 rfl) ?_
    refine WPe_iload_n (pc := 63) 4 (dd dtX6_put 38 rfl) rfl ?_
    refine WPe_ck fun h17 => ?_
    refine WPe_iast (pc := 64) (dd dtX6_put 39 rfl) (shL (shE h16.1)) h17 ?_
    refine WPe_lw fun w18 e19 => ?_
    refine WPe_iload (pc := 65) 0 (dd dtX6_put 40 rfl) rfl ?_
    exact WPe_ireturn (pc := 67) (dd dtX6_put 41 rfl) rfl rfl ⟨(Nat.le_of_ble_eq_true rfl), (Nat.le_of_ble_eq_true rfl)⟩
noncomputable def f6_put (x0 : Nat) (x1 : Int32) (x2 : Int32) (x3 : Int32) (w : Wd) : Option (Int32 × Wd) :=
  ck (tg w x0 = 6) ((f6_isOne x0 x1 w).bind fun z2 => (if z2.1 = (0 : Int32) then (some ((-5 : Int32), z2.2)) else ((f6_in x2 (0 : Int32) (2 : Int32) z2.2).bind fun z6 => (if z6.1 = (0 : Int32) then (some ((-7 : Int32), z6.2)) else (if x2 = (0 : Int32) then (j6_put_33 x0 x1 x2 x3 (3 : Int32) (0 : Int32) x3 z6.2) else (j6_put_33 x0 x1 x2 x3 (999 : Int32) (0 : Int32) x3 z6.2))))))
theorem wpf6_put (X : CX) (w0 : Wd) (x0 : Nat) (x1 : Int32) (x2 : Int32) (x3 : Int32) (w : Wd) : WPe rtI X (mX6_put, 3, 0, 0, w0) 0 0 (f6_put x0 x1 x2 x3 w) 0 [(0, vR x0), (1, vI x1), (2, vI x2), (3, vI x3)] [] w := by
  unfold f6_put
  refine WPe_aload_n (pc := 0) 0 (dd dtX6_put 0 rfl) rfl ?_
  refine WPe_iload_n (pc := 1) 1 (dd dtX6_put 1 rfl) rfl ?_
  refine WPe_ck fun h1 => ?_
  refine WPe_callV (pc := 2) (rtc := rtI) (Mc := mX6_isOne) (d' := 2) (mc' := 0) (ms' := 0) [vI x1] [] rfl (dd dtX6_put 2 rfl) (okf6_isOne x0 x1 w) moX6_isOne miX6_isOne (bw_mem4 190 rfl rfl) (Or.inl ⟨_, _, _, _, (shE h1), rfl⟩) rfl (Nat.le_of_ble_eq_true rfl) ⟨(Nat.le_of_ble_eq_true rfl), (Nat.le_of_ble_eq_true rfl)⟩ ⟨(Nat.le_of_ble_eq_true rfl), (Nat.le_of_ble_eq_true rfl)⟩ (fun z2 h3 e4 => ?_)
  refine WPe_st (st2 := [vI z2.1]) rfl ?_
  refine WPe_if_ne (pc := 5) 11 (dd dtX6_put 3 rfl) (by decide) (fun h5 => ?_) (fun h5 => ?_)
  · refine WPe_bipush (pc := 8) (-5 : Int32) (dd dtX6_put 4 rfl) (by decide) ?_
    exact WPe_ireturn (pc := 10) (dd dtX6_put 5 rfl) rfl rfl ⟨(Nat.le_of_ble_eq_true rfl), (Nat.le_of_ble_eq_true rfl)⟩
  · refine WPe_iload_n (pc := 11) 2 (dd dtX6_put 6 rfl) rfl ?_
    refine WPe_iconst (pc := 12) (0 : Int32) (dd dtX6_put 7 rfl) (by decide) ?_
    refine WPe_iconst (pc := 13) (2 : Int32) (dd dtX6_put 8 rfl) (by decide) ?_
    refine WPe_callS (pc := 14) (rtc := rtI) (Mc := mX6_in) (d' := 1) (mc' := 0) (ms' := 0) [vI x2, vI (0 : Int32), vI (2 : Int32)] [] rfl (dd dtX6_put 9 rfl) (okf6_in x2 (0 : Int32) (2 : Int32) z2.2) moX6_in msX6_in (bw_mem4 14 rfl rfl) rfl (Nat.le_of_ble_eq_true rfl) ⟨(Nat.le_of_ble_eq_true rfl), (Nat.le_of_ble_eq_true rfl)⟩ ⟨(Nat.le_of_ble_eq_true rfl), (Nat.le_of_ble_eq_true rfl)⟩ (fun z6 h7 e8 => ?_)
    refine WPe_st (st2 := [vI z6.1]) rfl ?_
    refine WPe_if_eq (pc := 17) 39 (dd dtX6_put 10 rfl) (by decide) (fun h9 => ?_) (fun h9 => ?_)
    · refine WPe_bipush (pc := 39) (-7 : Int32) (dd dtX6_put 20 rfl) (by decide) ?_
      exact WPe_ireturn (pc := 41) (dd dtX6_put 21 rfl) rfl rfl ⟨(Nat.le_of_ble_eq_true rfl), (Nat.le_of_ble_eq_true rfl)⟩
    · refine WPe_iload_n (pc := 20) 3 (dd dtX6_put 11 rfl) rfl ?_
      refine WPe_iconst (pc := 21) (0 : Int32) (dd dtX6_put 12 rfl) (by decide) ?_
      refine WPe_iload_n (pc := 22) 2 (dd dtX6_put 13 rfl) rfl ?_
      refine WPe_if_ne (pc := 23) 30 (dd dtX6_put 14 rfl) (by decide) (fun h10 => ?_) (fun h10 => ?_)
      · refine WPe_iconst (pc := 26) (3 : Int32) (dd dtX6_put 15 rfl) (by decide) ?_
        refine WPe_goto (pc := 27) 33 (dd dtX6_put 16 rfl) (by decide) ?_
        refine WPe_sub [0, 1, 2, 3] rfl ?_
        exact wpj6_put_33 X w0  x0 x1 x2 x3 (3 : Int32) (0 : Int32) x3 z6.2
      · refine WPe_sipush (pc := 30) (999 : Int32) (dd dtX6_put 17 rfl) (by decide) ?_
        refine WPe_sub [0, 1, 2, 3] rfl ?_
        exact wpj6_put_33 X w0  x0 x1 x2 x3 (999 : Int32) (0 : Int32) x3 z6.2
theorem okf6_put (x0 : Nat) (x1 : Int32) (x2 : Int32) (x3 : Int32) (w : Wd) : ∀ z, f6_put x0 x1 x2 x3 w = some z → OkM mX6_put 3 0 0 [vR x0, vI x1, vI x2, vI x3] w (rtI z.1) z.2 :=
  OkM.of (rt := rtI) moX6_put (Nat.le_of_ble_eq_true rfl) (fun X => wpf6_put X w x0 x1 x2 x3 w)
def tbX6_feelsOf : List (Nat × Instr × Nat) := [(0, .aload_n 0, 1), (1, .getfield 7, 3), (4, .iload_n 1, 1), (5, .iaload, 1), (6, .iconst 5, 1), (7, .if_icmp .ne 10, 3), (10, .aload_n 0, 1), (11, .getfield 13, 3), (14, .iload_n 1, 1), (15, .iaload, 1), (16, .ireturn, 1), (17, .aload_n 0, 1), (18, .iconst 0, 1), (19, .iload_n 1, 1), (20, .invokevirtual 167, 3), (23, .istore_n 2, 1), (24, .aload_n 0, 1), (25, .getfield 16, 3), (28, .iconst 3, 1), (29, .iload_n 1, 1), (30, .imul, 1), (31, .iaload, 1), (32, .ifCond .ne 9, 3), (35, .iload_n 2, 1), (36, .iconst 2, 1), (37, .idiv, 1), (38, .goto 4, 3), (41, .iload_n 2, 1), (42, .istore_n 3, 1), (43, .aload_n 0, 1), (44, .getfield 7, 3), (47, .iload_n 1, 1), (48, .iaload, 1), (49, .tableswitch 57 2 4 #[27, 29, 48], 27), (76, .iload_n 3, 1), (77, .ireturn, 1), (78, .aload_n 0, 1), (79, .getfield 19, 3), (82, .iconst 2, 1), (83, .iaload, 1), (84, .bipush 9, 2), (86, .if_icmp .le 9, 3), (89, .iconst 2, 1), (90, .iload_n 2, 1), (91, .imul, 1), (92, .goto 4, 3), (95, .iload_n 2, 1), (96, .ireturn, 1), (97, .iload_n 3, 1), (98, .aload_n 0, 1), (99, .getfield 13, 3), (102, .iload_n 1, 1), (103, .iaload, 1), (104, .isub, 1), (105, .ireturn, 1), (106, .iload_n 2, 1), (107, .ireturn, 1)]
set_option maxRecDepth 20000 in
theorem dtX6_feelsOf : ∀ x ∈ tbX6_feelsOf, decode cX6_feelsOf x.1 = .ok x.2 := by decide +kernel
noncomputable def j6_feelsOf_42  (x0 : Nat) (x1 : Int32) (x2 : Int32) (s0 : Int32) (w : Wd) : Option (Int32 × Wd) :=
  ck (tg w x0 = 6) (ck (tg w (wr w x0 1) = 20 ∧ vp_in x1 (ln w (wr w x0 1))) (if (wi w (wr w x0 1) (x1).toNatClampNeg) = (2 : Int32) then (some (s0, w)) else (if (wi w (wr w x0 1) (x1).toNatClampNeg) = (3 : Int32) then (ck (tg w (wr w x0 4) = 20 ∧ vp_in (2 : Int32) (ln w (wr w x0 4))) (if (wi w (wr w x0 4) ((2 : Int32)).toNatClampNeg) ≤ (9 : Int32) then (some (x2, w)) else (some (((2 : Int32) * x2), w)))) else (if (wi w (wr w x0 1) (x1).toNatClampNeg) = (4 : Int32) then (ck (tg w (wr w x0 2) = 20 ∧ vp_in x1 (ln w (wr w x0 2))) (some ((s0 - (wi w (wr w x0 2) (x1).toNatClampNeg)), w))) else (some (x2, w))))))
theorem wpj6_feelsOf_42 (X : CX) (w0 : Wd)  (x0 : Nat) (x1 : Int32) (x2 : Int32) (s0 : Int32) (w : Wd) : WPe rtI X (mX6_feelsOf, 4, 0, 0, w0) 0 0 (j6_feelsOf_42  x0 x1 x2 s0 w) 42 [(0, vR x0), (1, vI x1), (2, vI x2)] [vI s0] w := by
  unfold j6_feelsOf_42
  refine WPe_istore_n (pc := 42) (ls' := [(3, vI s0), (0, vR x0), (1, vI x1), (2, vI x2)]) (dd dtX6_feelsOf 28 rfl) (Nat.le_of_ble_eq_true rfl) rfl ?_
  refine WPe_aload_n (pc := 43) 1 (dd dtX6_feelsOf 29 rfl) rfl ?_
  refine WPe_ck fun h10 => ?_
  refine WPe_getR (pc := 44) (t := 6) (C := RX6) (T := TX6) 1 (dd dtX6_feelsOf 30 rfl) (shE h10) rfl (Nat.le_of_ble_eq_true rfl) rfl (bw_mem4 54 rfl rfl) ?_
  refine WPe_iload_n (pc := 47) 2 (dd dtX6_feelsOf 31 rfl) rfl ?_
  refine WPe_ck fun h11 => ?_
  refine WPe_iald (pc := 48) (dd dtX6_feelsOf 32 rfl) (shE h11.1) h11.2 ?_
  refine WPe_ite (fun h12 => ?_) (fun h12 => ?_)
  · refine WPe_tabIn (pc := 49) (2 : Int32) 76 (dd dtX6_feelsOf 33 rfl) h12 (by decide) (by decide) rfl (by decide) ?_
    refine WPe_iload_n (pc := 76) 0 (dd dtX6_feelsOf 34 rfl) rfl ?_
    exact WPe_ireturn (pc := 77) (dd dtX6_feelsOf 35 rfl) rfl rfl ⟨(Nat.le_of_ble_eq_true rfl), (Nat.le_of_ble_eq_true rfl)⟩
  · refine WPe_ite (fun h13 => ?_) (fun h13 => ?_)
    · refine WPe_tabIn (pc := 49) (3 : Int32) 78 (dd dtX6_feelsOf 33 rfl) h13 (by decide) (by decide) rfl (by decide) ?_
      refine WPe_aload_n (pc := 78) 1 (dd dtX6_feelsOf 36 rfl) rfl ?_
      refine WPe_getR (pc := 79) (t := 6) (C := RX6) (T := TX6) 4 (dd dtX6_feelsOf 37 rfl) (shE h10) rfl (Nat.le_of_ble_eq_true rfl) rfl (bw_mem4 57 rfl rfl) ?_
      refine WPe_iconst (pc := 82) (2 : Int32) (dd dtX6_feelsOf 38 rfl) (by decide) ?_
      refine WPe_ck fun h14 => ?_
      refine WPe_iald (pc := 83) (dd dtX6_feelsOf 39 rfl) (shE h14.1) h14.2 ?_
      refine WPe_bipush (pc := 84) (9 : Int32) (dd dtX6_feelsOf 40 rfl) (by decide) ?_
      refine WPe_icmp_le (pc := 86) 95 (dd dtX6_feelsOf 41 rfl) (by decide) (fun h15 => ?_) (fun h15 => ?_)
      · refine WPe_iload_n (pc := 95) 3 (dd dtX6_feelsOf 46 rfl) rfl ?_
        exact WPe_ireturn (pc := 96) (dd dtX6_feelsOf 47 rfl) rfl rfl ⟨(Nat.le_of_ble_eq_true rfl), (Nat.le_of_ble_eq_true rfl)⟩
      · refine WPe_iconst (pc := 89) (2 : Int32) (dd dtX6_feelsOf 42 rfl) (by decide) ?_
        refine WPe_iload_n (pc := 90) 3 (dd dtX6_feelsOf 43 rfl) rfl ?_
        refine WPe_imul (pc := 91) (dd dtX6_feelsOf 44 rfl) ?_
        refine WPe_goto (pc := 92) 96 (dd dtX6_feelsOf 45 rfl) (by decide) ?_
        exact WPe_ireturn (pc := 96) (dd dtX6_feelsOf 47 rfl) rfl rfl ⟨(Nat.le_of_ble_eq_true rfl), (Nat.le_of_ble_eq_true rfl)⟩
    · refine WPe_ite (fun h16 => ?_) (fun h16 => ?_)
      · refine WPe_tabIn (pc := 49) (4 : Int32) 97 (dd dtX6_feelsOf 33 rfl) h16 (by decide) (by decide) rfl (by decide) ?_
        refine WPe_iload_n (pc := 97) 0 (dd dtX6_feelsOf 48 rfl) rfl ?_
        refine WPe_aload_n (pc := 98) 1 (dd dtX6_feelsOf 49 rfl) rfl ?_
        refine WPe_getR (pc := 99) (t := 6) (C := RX6) (T := TX6) 2 (dd dtX6_feelsOf 50 rfl) (shE h10) rfl (Nat.le_of_ble_eq_true rfl) rfl (bw_mem4 55 rfl rfl) ?_
        refine WPe_iload_n (pc := 102) 2 (dd dtX6_feelsOf 51 rfl) rfl ?_
        refine WPe_ck fun h17 => ?_
        refine WPe_iald (pc := 103) (dd dtX6_feelsOf 52 rfl) (shE h17.1) h17.2 ?_
        refine WPe_isub (pc := 104) (dd dtX6_feelsOf 53 rfl) ?_
        exact WPe_ireturn (pc := 105) (dd dtX6_feelsOf 54 rfl) rfl rfl ⟨(Nat.le_of_ble_eq_true rfl), (Nat.le_of_ble_eq_true rfl)⟩
      · refine WPe_tabOut (pc := 49) 106 (dd dtX6_feelsOf 33 rfl) (fun j hj => ?_) (by decide) ?_
        · match j, hj with
          | 0, _ => exact Or.inr (tneq h12 (by decide))
          | 1, _ => exact Or.inr (tneq h13 (by decide))
          | 2, _ => exact Or.inr (tneq h16 (by decide))
          | j + 3, h => exact absurd h (by omega)
        refine WPe_iload_n (pc := 106) 3 (dd dtX6_feelsOf 55 rfl) rfl ?_
        exact WPe_ireturn (pc := 107) (dd dtX6_feelsOf 56 rfl) rfl rfl ⟨(Nat.le_of_ble_eq_true rfl), (Nat.le_of_ble_eq_true rfl)⟩
noncomputable def f6_feelsOf (x0 : Nat) (x1 : Int32) (w : Wd) : Option (Int32 × Wd) :=
  ck (tg w x0 = 6) (ck (tg w (wr w x0 1) = 20 ∧ vp_in x1 (ln w (wr w x0 1))) (if (wi w (wr w x0 1) (x1).toNatClampNeg) = (5 : Int32) then (ck (tg w (wr w x0 2) = 20 ∧ vp_in x1 (ln w (wr w x0 2))) (some ((wi w (wr w x0 2) (x1).toNatClampNeg), w))) else ((f6_asksOf x0 (0 : Int32) x1 w).bind fun z5 => (ck (tg z5.2 (wr z5.2 x0 3) = 20 ∧ vp_in ((3 : Int32) * x1) (ln z5.2 (wr z5.2 x0 3))) (if (wi z5.2 (wr z5.2 x0 3) (((3 : Int32) * x1)).toNatClampNeg) = (0 : Int32) then (j6_feelsOf_42 x0 x1 z5.1 (z5.1 / (2 : Int32)) z5.2) else (j6_feelsOf_42 x0 x1 z5.1 z5.1 z5.2))))))
theorem wpf6_feelsOf (X : CX) (w0 : Wd) (x0 : Nat) (x1 : Int32) (w : Wd) : WPe rtI X (mX6_feelsOf, 4, 0, 0, w0) 0 0 (f6_feelsOf x0 x1 w) 0 [(0, vR x0), (1, vI x1)] [] w := by
  unfold f6_feelsOf
  refine WPe_aload_n (pc := 0) 0 (dd dtX6_feelsOf 0 rfl) rfl ?_
  refine WPe_ck fun h1 => ?_
  refine WPe_getR (pc := 1) (t := 6) (C := RX6) (T := TX6) 1 (dd dtX6_feelsOf 1 rfl) (shE h1) rfl (Nat.le_of_ble_eq_true rfl) rfl (bw_mem4 54 rfl rfl) ?_
  refine WPe_iload_n (pc := 4) 1 (dd dtX6_feelsOf 2 rfl) rfl ?_
  refine WPe_ck fun h2 => ?_
  refine WPe_iald (pc := 5) (dd dtX6_feelsOf 3 rfl) (shE h2.1) h2.2 ?_
  refine WPe_iconst (pc := 6) (5 : Int32) (dd dtX6_feelsOf 4 rfl) (by decide) ?_
  refine WPe_icmp_ne (pc := 7) 17 (dd dtX6_feelsOf 5 rfl) (by decide) (fun h3 => ?_) (fun h3 => ?_)
  · refine WPe_aload_n (pc := 10) 0 (dd dtX6_feelsOf 6 rfl) rfl ?_
    refine WPe_getR (pc := 11) (t := 6) (C := RX6) (T := TX6) 2 (dd dtX6_feelsOf 7 rfl) (shE h1) rfl (Nat.le_of_ble_eq_true rfl) rfl (bw_mem4 55 rfl rfl) ?_
    refine WPe_iload_n (pc := 14) 1 (dd dtX6_feelsOf 8 rfl) rfl ?_
    refine WPe_ck fun h4 => ?_
    refine WPe_iald (pc := 15) (dd dtX6_feelsOf 9 rfl) (shE h4.1) h4.2 ?_
    exact WPe_ireturn (pc := 16) (dd dtX6_feelsOf 10 rfl) rfl rfl ⟨(Nat.le_of_ble_eq_true rfl), (Nat.le_of_ble_eq_true rfl)⟩
  · refine WPe_aload_n (pc := 17) 0 (dd dtX6_feelsOf 11 rfl) rfl ?_
    refine WPe_iconst (pc := 18) (0 : Int32) (dd dtX6_feelsOf 12 rfl) (by decide) ?_
    refine WPe_iload_n (pc := 19) 1 (dd dtX6_feelsOf 13 rfl) rfl ?_
    refine WPe_callV (pc := 20) (rtc := rtI) (Mc := mX6_asksOf) (d' := 3) (mc' := 0) (ms' := 0) [vI (0 : Int32), vI x1] [] rfl (dd dtX6_feelsOf 14 rfl) (okf6_asksOf x0 (0 : Int32) x1 w) moX6_asksOf miX6_asksOf (bw_mem4 194 rfl rfl) (Or.inl ⟨_, _, _, _, (shE h1), rfl⟩) rfl (Nat.le_of_ble_eq_true rfl) ⟨(Nat.le_of_ble_eq_true rfl), (Nat.le_of_ble_eq_true rfl)⟩ ⟨(Nat.le_of_ble_eq_true rfl), (Nat.le_of_ble_eq_true rfl)⟩ (fun z5 h6 e7 => ?_)
    refine WPe_st (st2 := [vI z5.1]) rfl ?_
    refine WPe_istore_n (pc := 23) (ls' := [(2, vI z5.1), (0, vR x0), (1, vI x1)]) (dd dtX6_feelsOf 15 rfl) (Nat.le_of_ble_eq_true rfl) rfl ?_
    refine WPe_aload_n (pc := 24) 1 (dd dtX6_feelsOf 16 rfl) rfl ?_
    refine WPe_getR (pc := 25) (t := 6) (C := RX6) (T := TX6) 3 (dd dtX6_feelsOf 17 rfl) (e7.at (shE h1) (by decide)) rfl (Nat.le_of_ble_eq_true rfl) rfl (bw_mem4 56 rfl rfl) ?_
    refine WPe_iconst (pc := 28) (3 : Int32) (dd dtX6_feelsOf 18 rfl) (by decide) ?_
    refine WPe_iload_n (pc := 29) 2 (dd dtX6_feelsOf 19 rfl) rfl ?_
    refine WPe_imul (pc := 30) (dd dtX6_feelsOf 20 rfl) ?_
    refine WPe_ck fun h8 => ?_
    refine WPe_iald (pc := 31) (dd dtX6_feelsOf 21 rfl) (shE h8.1) h8.2 ?_
    refine WPe_if_ne (pc := 32) 41 (dd dtX6_feelsOf 22 rfl) (by decide) (fun h9 => ?_) (fun h9 => ?_)
    · refine WPe_iload_n (pc := 35) 0 (dd dtX6_feelsOf 23 rfl) rfl ?_
      refine WPe_iconst (pc := 36) (2 : Int32) (dd dtX6_feelsOf 24 rfl) (by decide) ?_
      refine WPe_idiv (pc := 37) (dd dtX6_feelsOf 25 rfl) (by decide) ?_
      refine WPe_goto (pc := 38) 42 (dd dtX6_feelsOf 26 rfl) (by decide) ?_
      refine WPe_sub [1, 2, 0] rfl ?_
      exact wpj6_feelsOf_42 X w0  x0 x1 z5.1 (z5.1 / (2 : Int32)) z5.2
    · refine WPe_iload_n (pc := 41) 0 (dd dtX6_feelsOf 27 rfl) rfl ?_
      refine WPe_sub [1, 2, 0] rfl ?_
      exact wpj6_feelsOf_42 X w0  x0 x1 z5.1 z5.1 z5.2
theorem okf6_feelsOf (x0 : Nat) (x1 : Int32) (w : Wd) : ∀ z, f6_feelsOf x0 x1 w = some z → OkM mX6_feelsOf 4 0 0 [vR x0, vI x1] w (rtI z.1) z.2 :=
  OkM.of (rt := rtI) moX6_feelsOf (Nat.le_of_ble_eq_true rfl) (fun X => wpf6_feelsOf X w x0 x1 w)
def tbX6_bearsOf : List (Nat × Instr × Nat) := [(0, .aload_n 0, 1), (1, .iconst 1, 1), (2, .iload_n 1, 1), (3, .invokevirtual 167, 3), (6, .istore_n 2, 1), (7, .aload_n 0, 1), (8, .getfield 7, 3), (11, .iload_n 1, 1), (12, .iaload, 1), (13, .tableswitch 47 1 4 #[31, 43, 31, 43], 31), (44, .iload_n 2, 1), (45, .bipush 10, 2), (47, .aload_n 0, 1), (48, .getfield 13, 3), (51, .iload_n 1, 1), (52, .iaload, 1), (53, .imul, 1), (54, .iadd, 1), (55, .ireturn, 1), (56, .iload_n 2, 1), (57, .iconst 2, 1), (58, .idiv, 1), (59, .ireturn, 1), (60, .iload_n 2, 1), (61, .ireturn, 1)]
set_option maxRecDepth 20000 in
theorem dtX6_bearsOf : ∀ x ∈ tbX6_bearsOf, decode cX6_bearsOf x.1 = .ok x.2 := by decide +kernel
noncomputable def f6_bearsOf (x0 : Nat) (x1 : Int32) (w : Wd) : Option (Int32 × Wd) :=
  ck (tg w x0 = 6) ((f6_asksOf x0 (1 : Int32) x1 w).bind fun z2 => (ck (tg z2.2 (wr z2.2 x0 1) = 20 ∧ vp_in x1 (ln z2.2 (wr z2.2 x0 1))) (if (wi z2.2 (wr z2.2 x0 1) (x1).toNatClampNeg) = (1 : Int32) then (ck (tg z2.2 (wr z2.2 x0 2) = 20 ∧ vp_in x1 (ln z2.2 (wr z2.2 x0 2))) (some ((z2.1 + ((10 : Int32) * (wi z2.2 (wr z2.2 x0 2) (x1).toNatClampNeg))), z2.2))) else (if (wi z2.2 (wr z2.2 x0 1) (x1).toNatClampNeg) = (2 : Int32) then (some ((z2.1 / (2 : Int32)), z2.2)) else (if (wi z2.2 (wr z2.2 x0 1) (x1).toNatClampNeg) = (3 : Int32) then (ck (tg z2.2 (wr z2.2 x0 2) = 20 ∧ vp_in x1 (ln z2.2 (wr z2.2 x0 2))) (some ((z2.1 + ((10 : Int32) * (wi z2.2 (wr z2.2 x0 2) (x1).toNatClampNeg))), z2.2))) else (if (wi z2.2 (wr z2.2 x0 1) (x1).toNatClampNeg) = (4 : Int32) then (some ((z2.1 / (2 : Int32)), z2.2)) else (some (z2.1, z2.2))))))))
theorem wpf6_bearsOf (X : CX) (w0 : Wd) (x0 : Nat) (x1 : Int32) (w : Wd) : WPe rtI X (mX6_bearsOf, 4, 0, 0, w0) 0 0 (f6_bearsOf x0 x1 w) 0 [(0, vR x0), (1, vI x1)] [] w := by
  unfold f6_bearsOf
  refine WPe_aload_n (pc := 0) 0 (dd dtX6_bearsOf 0 rfl) rfl ?_
  refine WPe_iconst (pc := 1) (1 : Int32) (dd dtX6_bearsOf 1 rfl) (by decide) ?_
  refine WPe_iload_n (pc := 2) 1 (dd dtX6_bearsOf 2 rfl) rfl ?_
  refine WPe_ck fun h1 => ?_
  refine WPe_callV (pc := 3) (rtc := rtI) (Mc := mX6_asksOf) (d' := 3) (mc' := 0) (ms' := 0) [vI (1 : Int32), vI x1] [] rfl (dd dtX6_bearsOf 3 rfl) (okf6_asksOf x0 (1 : Int32) x1 w) moX6_asksOf miX6_asksOf (bw_mem4 194 rfl rfl) (Or.inl ⟨_, _, _, _, (shE h1), rfl⟩) rfl (Nat.le_of_ble_eq_true rfl) ⟨(Nat.le_of_ble_eq_true rfl), (Nat.le_of_ble_eq_true rfl)⟩ ⟨(Nat.le_of_ble_eq_true rfl), (Nat.le_of_ble_eq_true rfl)⟩ (fun z2 h3 e4 => ?_)
  refine WPe_st (st2 := [vI z2.1]) rfl ?_
  refine WPe_istore_n (pc := 6) (ls' := [(2, vI z2.1), (0, vR x0), (1, vI x1)]) (dd dtX6_bearsOf 4 rfl) (Nat.le_of_ble_eq_true rfl) rfl ?_
  refine WPe_aload_n (pc := 7) 1 (dd dtX6_bearsOf 5 rfl) rfl ?_
  refine WPe_getR (pc := 8) (t := 6) (C := RX6) (T := TX6) 1 (dd dtX6_bearsOf 6 rfl) (e4.at (shE h1) (by decide)) rfl (Nat.le_of_ble_eq_true rfl) rfl (bw_mem4 54 rfl rfl) ?_
  refine WPe_iload_n (pc := 11) 2 (dd dtX6_bearsOf 7 rfl) rfl ?_
  refine WPe_ck fun h5 => ?_
  refine WPe_iald (pc := 12) (dd dtX6_bearsOf 8 rfl) (shE h5.1) h5.2 ?_
  refine WPe_ite (fun h6 => ?_) (fun h6 => ?_)
  · refine WPe_tabIn (pc := 13) (1 : Int32) 44 (dd dtX6_bearsOf 9 rfl) h6 (by decide) (by decide) rfl (by decide) ?_
    refine WPe_iload_n (pc := 44) 0 (dd dtX6_bearsOf 10 rfl) rfl ?_
    refine WPe_bipush (pc := 45) (10 : Int32) (dd dtX6_bearsOf 11 rfl) (by decide) ?_
    refine WPe_aload_n (pc := 47) 1 (dd dtX6_bearsOf 12 rfl) rfl ?_
    refine WPe_getR (pc := 48) (t := 6) (C := RX6) (T := TX6) 2 (dd dtX6_bearsOf 13 rfl) (e4.at (shE h1) (by decide)) rfl (Nat.le_of_ble_eq_true rfl) rfl (bw_mem4 55 rfl rfl) ?_
    refine WPe_iload_n (pc := 51) 2 (dd dtX6_bearsOf 14 rfl) rfl ?_
    refine WPe_ck fun h7 => ?_
    refine WPe_iald (pc := 52) (dd dtX6_bearsOf 15 rfl) (shE h7.1) h7.2 ?_
    refine WPe_imul (pc := 53) (dd dtX6_bearsOf 16 rfl) ?_
    refine WPe_iadd (pc := 54) (dd dtX6_bearsOf 17 rfl) ?_
    exact WPe_ireturn (pc := 55) (dd dtX6_bearsOf 18 rfl) rfl rfl ⟨(Nat.le_of_ble_eq_true rfl), (Nat.le_of_ble_eq_true rfl)⟩
  · refine WPe_ite (fun h8 => ?_) (fun h8 => ?_)
    · refine WPe_tabIn (pc := 13) (2 : Int32) 56 (dd dtX6_bearsOf 9 rfl) h8 (by decide) (by decide) rfl (by decide) ?_
      refine WPe_iload_n (pc := 56) 0 (dd dtX6_bearsOf 19 rfl) rfl ?_
      refine WPe_iconst (pc := 57) (2 : Int32) (dd dtX6_bearsOf 20 rfl) (by decide) ?_
      refine WPe_idiv (pc := 58) (dd dtX6_bearsOf 21 rfl) (by decide) ?_
      exact WPe_ireturn (pc := 59) (dd dtX6_bearsOf 22 rfl) rfl rfl ⟨(Nat.le_of_ble_eq_true rfl), (Nat.le_of_ble_eq_true rfl)⟩
    · refine WPe_ite (fun h9 => ?_) (fun h9 => ?_)
      · refine WPe_tabIn (pc := 13) (3 : Int32) 44 (dd dtX6_bearsOf 9 rfl) h9 (by decide) (by decide) rfl (by decide) ?_
        refine WPe_iload_n (pc := 44) 0 (dd dtX6_bearsOf 10 rfl) rfl ?_
        refine WPe_bipush (pc := 45) (10 : Int32) (dd dtX6_bearsOf 11 rfl) (by decide) ?_
        refine WPe_aload_n (pc := 47) 1 (dd dtX6_bearsOf 12 rfl) rfl ?_
        refine WPe_getR (pc := 48) (t := 6) (C := RX6) (T := TX6) 2 (dd dtX6_bearsOf 13 rfl) (e4.at (shE h1) (by decide)) rfl (Nat.le_of_ble_eq_true rfl) rfl (bw_mem4 55 rfl rfl) ?_
        refine WPe_iload_n (pc := 51) 2 (dd dtX6_bearsOf 14 rfl) rfl ?_
        refine WPe_ck fun h10 => ?_
        refine WPe_iald (pc := 52) (dd dtX6_bearsOf 15 rfl) (shE h10.1) h10.2 ?_
        refine WPe_imul (pc := 53) (dd dtX6_bearsOf 16 rfl) ?_
        refine WPe_iadd (pc := 54) (dd dtX6_bearsOf 17 rfl) ?_
        exact WPe_ireturn (pc := 55) (dd dtX6_bearsOf 18 rfl) rfl rfl ⟨(Nat.le_of_ble_eq_true rfl), (Nat.le_of_ble_eq_true rfl)⟩
      · refine WPe_ite (fun h11 => ?_) (fun h11 => ?_)
        · refine WPe_tabIn (pc := 13) (4 : Int32) 56 (dd dtX6_bearsOf 9 rfl) h11 (by decide) (by decide) rfl (by decide) ?_
          refine WPe_iload_n (pc := 56) 0 (dd dtX6_bearsOf 19 rfl) rfl ?_
          refine WPe_iconst (pc := 57) (2 : Int32) (dd dtX6_bearsOf 20 rfl) (by decide) ?_
          refine WPe_idiv (pc := 58) (dd dtX6_bearsOf 21 rfl) (by decide) ?_
          exact WPe_ireturn (pc := 59) (dd dtX6_bearsOf 22 rfl) rfl rfl ⟨(Nat.le_of_ble_eq_true rfl), (Nat.le_of_ble_eq_true rfl)⟩
        · refine WPe_tabOut (pc := 13) 60 (dd dtX6_bearsOf 9 rfl) (fun j hj => ?_) (by decide) ?_
          · match j, hj with
            | 0, _ => exact Or.inr (tneq h6 (by decide))
            | 1, _ => exact Or.inr (tneq h8 (by decide))
            | 2, _ => exact Or.inr (tneq h9 (by decide))
            | 3, _ => exact Or.inr (tneq h11 (by decide))
            | j + 4, h => exact absurd h (by omega)
          refine WPe_iload_n (pc := 60) 0 (dd dtX6_bearsOf 23 rfl) rfl ?_
          exact WPe_ireturn (pc := 61) (dd dtX6_bearsOf 24 rfl) rfl rfl ⟨(Nat.le_of_ble_eq_true rfl), (Nat.le_of_ble_eq_true rfl)⟩
theorem okf6_bearsOf (x0 : Nat) (x1 : Int32) (w : Wd) : ∀ z, f6_bearsOf x0 x1 w = some z → OkM mX6_bearsOf 4 0 0 [vR x0, vI x1] w (rtI z.1) z.2 :=
  OkM.of (rt := rtI) moX6_bearsOf (Nat.le_of_ble_eq_true rfl) (fun X => wpf6_bearsOf X w x0 x1 w)
def tbX6_gladOf : List (Nat × Instr × Nat) := [(0, .aload_n 0, 1), (1, .getfield 7, 3), (4, .iload_n 1, 1), (5, .iaload, 1), (6, .iconst 5, 1), (7, .if_icmp .ne 18, 3), (10, .aload_n 0, 1), (11, .getfield 19, 3), (14, .iconst 1, 1), (15, .iaload, 1), (16, .sipush 300, 3), (19, .if_icmp .le 6, 3), (22, .bipush 99, 2), (24, .ireturn, 1), (25, .aload_n 0, 1), (26, .iconst 2, 1), (27, .iload_n 1, 1), (28, .invokevirtual 167, 3), (31, .istore_n 2, 1), (32, .aload_n 0, 1), (33, .getfield 16, 3), (36, .iconst 3, 1), (37, .iload_n 1, 1), (38, .imul, 1), (39, .iaload, 1), (40, .iconst 2, 1), (41, .if_icmp .ne 14, 3), (44, .iload_n 2, 1), (45, .aload_n 0, 1), (46, .getfield 13, 3), (49, .iload_n 1, 1), (50, .iaload, 1), (51, .iadd, 1), (52, .goto 4, 3), (55, .iload_n 2, 1), (56, .istore_n 3, 1), (57, .aload_n 0, 1), (58, .getfield 7, 3), (61, .iload_n 1, 1), (62, .iaload, 1), (63, .tableswitch 42 1 4 #[29, 42, 31, 35], 29), (92, .iload_n 3, 1), (93, .ireturn, 1), (94, .iload_n 3, 1), (95, .iconst 2, 1), (96, .idiv, 1), (97, .ireturn, 1), (98, .iload_n 2, 1), (99, .aload_n 0, 1), (100, .invokevirtual 83, 3), (103, .iadd, 1), (104, .ireturn, 1), (105, .iload_n 2, 1), (106, .ireturn, 1)]
set_option maxRecDepth 20000 in
theorem dtX6_gladOf : ∀ x ∈ tbX6_gladOf, decode cX6_gladOf x.1 = .ok x.2 := by decide +kernel
noncomputable def j6_gladOf_56  (x0 : Nat) (x1 : Int32) (x2 : Int32) (s0 : Int32) (w : Wd) : Option (Int32 × Wd) :=
  ck (tg w x0 = 6) (ck (tg w (wr w x0 1) = 20 ∧ vp_in x1 (ln w (wr w x0 1))) (if (wi w (wr w x0 1) (x1).toNatClampNeg) = (1 : Int32) then (some (s0, w)) else (if (wi w (wr w x0 1) (x1).toNatClampNeg) = (3 : Int32) then (some ((s0 / (2 : Int32)), w)) else (if (wi w (wr w x0 1) (x1).toNatClampNeg) = (4 : Int32) then ((f6_inMany x0 w).bind fun z18 => (some ((x2 + z18.1), z18.2))) else (some (x2, w))))))
theorem wpj6_gladOf_56 (X : CX) (w0 : Wd)  (x0 : Nat) (x1 : Int32) (x2 : Int32) (s0 : Int32) (w : Wd) : WPe rtI X (mX6_gladOf, 4, 0, 0, w0) 0 0 (j6_gladOf_56  x0 x1 x2 s0 w) 56 [(0, vR x0), (1, vI x1), (2, vI x2)] [vI s0] w := by
  unfold j6_gladOf_56
  refine WPe_istore_n (pc := 56) (ls' := [(3, vI s0), (0, vR x0), (1, vI x1), (2, vI x2)]) (dd dtX6_gladOf 35 rfl) (Nat.le_of_ble_eq_true rfl) rfl ?_
  refine WPe_aload_n (pc := 57) 1 (dd dtX6_gladOf 36 rfl) rfl ?_
  refine WPe_ck fun h13 => ?_
  refine WPe_getR (pc := 58) (t := 6) (C := RX6) (T := TX6) 1 (dd dtX6_gladOf 37 rfl) (shE h13) rfl (Nat.le_of_ble_eq_true rfl) rfl (bw_mem4 54 rfl rfl) ?_
  refine WPe_iload_n (pc := 61) 2 (dd dtX6_gladOf 38 rfl) rfl ?_
  refine WPe_ck fun h14 => ?_
  refine WPe_iald (pc := 62) (dd dtX6_gladOf 39 rfl) (shE h14.1) h14.2 ?_
  refine WPe_ite (fun h15 => ?_) (fun h15 => ?_)
  · refine WPe_tabIn (pc := 63) (1 : Int32) 92 (dd dtX6_gladOf 40 rfl) h15 (by decide) (by decide) rfl (by decide) ?_
    refine WPe_iload_n (pc := 92) 0 (dd dtX6_gladOf 41 rfl) rfl ?_
    exact WPe_ireturn (pc := 93) (dd dtX6_gladOf 42 rfl) rfl rfl ⟨(Nat.le_of_ble_eq_true rfl), (Nat.le_of_ble_eq_true rfl)⟩
  · refine WPe_ite (fun h16 => ?_) (fun h16 => ?_)
    · refine WPe_tabIn (pc := 63) (3 : Int32) 94 (dd dtX6_gladOf 40 rfl) h16 (by decide) (by decide) rfl (by decide) ?_
      refine WPe_iload_n (pc := 94) 0 (dd dtX6_gladOf 43 rfl) rfl ?_
      refine WPe_iconst (pc := 95) (2 : Int32) (dd dtX6_gladOf 44 rfl) (by decide) ?_
      refine WPe_idiv (pc := 96) (dd dtX6_gladOf 45 rfl) (by decide) ?_
      exact WPe_ireturn (pc := 97) (dd dtX6_gladOf 46 rfl) rfl rfl ⟨(Nat.le_of_ble_eq_true rfl), (Nat.le_of_ble_eq_true rfl)⟩
    · refine WPe_ite (fun h17 => ?_) (fun h17 => ?_)
      · refine WPe_tabIn (pc := 63) (4 : Int32) 98 (dd dtX6_gladOf 40 rfl) h17 (by decide) (by decide) rfl (by decide) ?_
        refine WPe_iload_n (pc := 98) 3 (dd dtX6_gladOf 47 rfl) rfl ?_
        refine WPe_aload_n (pc := 99) 1 (dd dtX6_gladOf 48 rfl) rfl ?_
        refine WPe_callV (pc := 100) (rtc := rtI) (Mc := mX6_inMany) (d' := 2) (mc' := 0) (ms' := 0) [] [vI x2] rfl (dd dtX6_gladOf 49 rfl) (okf6_inMany x0 w) moX6_inMany miX6_inMany (bw_mem4 154 rfl rfl) (Or.inl ⟨_, _, _, _, (shE h13), rfl⟩) rfl (Nat.le_of_ble_eq_true rfl) ⟨(Nat.le_of_ble_eq_true rfl), (Nat.le_of_ble_eq_true rfl)⟩ ⟨(Nat.le_of_ble_eq_true rfl), (Nat.le_of_ble_eq_true rfl)⟩ (fun z18 h19 e20 => ?_)
        refine WPe_st (st2 := [vI z18.1, vI x2]) rfl ?_
        refine WPe_iadd (pc := 103) (dd dtX6_gladOf 50 rfl) ?_
        exact WPe_ireturn (pc := 104) (dd dtX6_gladOf 51 rfl) rfl rfl ⟨(Nat.le_of_ble_eq_true rfl), (Nat.le_of_ble_eq_true rfl)⟩
      · refine WPe_tabOut (pc := 63) 105 (dd dtX6_gladOf 40 rfl) (fun j hj => ?_) (by decide) ?_
        · match j, hj with
          | 0, _ => exact Or.inr (tneq h15 (by decide))
          | 1, _ => exact Or.inl rfl
          | 2, _ => exact Or.inr (tneq h16 (by decide))
          | 3, _ => exact Or.inr (tneq h17 (by decide))
          | j + 4, h => exact absurd h (by omega)
        refine WPe_iload_n (pc := 105) 3 (dd dtX6_gladOf 52 rfl) rfl ?_
        exact WPe_ireturn (pc := 106) (dd dtX6_gladOf 53 rfl) rfl rfl ⟨(Nat.le_of_ble_eq_true rfl), (Nat.le_of_ble_eq_true rfl)⟩
noncomputable def j6_gladOf_25  (x0 : Nat) (x1 : Int32) (w : Wd) : Option (Int32 × Wd) :=
  ck (tg w x0 = 6) ((f6_asksOf x0 (2 : Int32) x1 w).bind fun z7 => (ck (tg z7.2 (wr z7.2 x0 3) = 20 ∧ vp_in ((3 : Int32) * x1) (ln z7.2 (wr z7.2 x0 3))) (if (wi z7.2 (wr z7.2 x0 3) (((3 : Int32) * x1)).toNatClampNeg) = (2 : Int32) then (ck (tg z7.2 (wr z7.2 x0 2) = 20 ∧ vp_in x1 (ln z7.2 (wr z7.2 x0 2))) (j6_gladOf_56 x0 x1 z7.1 (z7.1 + (wi z7.2 (wr z7.2 x0 2) (x1).toNatClampNeg)) z7.2)) else (j6_gladOf_56 x0 x1 z7.1 z7.1 z7.2))))
theorem wpj6_gladOf_25 (X : CX) (w0 : Wd)  (x0 : Nat) (x1 : Int32) (w : Wd) : WPe rtI X (mX6_gladOf, 4, 0, 0, w0) 0 0 (j6_gladOf_25  x0 x1 w) 25 [(0, vR x0), (1, vI x1)] [] w := by
  unfold j6_gladOf_25
  refine WPe_aload_n (pc := 25) 0 (dd dtX6_gladOf 14 rfl) rfl ?_
  refine WPe_iconst (pc := 26) (2 : Int32) (dd dtX6_gladOf 15 rfl) (by decide) ?_
  refine WPe_iload_n (pc := 27) 1 (dd dtX6_gladOf 16 rfl) rfl ?_
  refine WPe_ck fun h6 => ?_
  refine WPe_callV (pc := 28) (rtc := rtI) (Mc := mX6_asksOf) (d' := 3) (mc' := 0) (ms' := 0) [vI (2 : Int32), vI x1] [] rfl (dd dtX6_gladOf 17 rfl) (okf6_asksOf x0 (2 : Int32) x1 w) moX6_asksOf miX6_asksOf (bw_mem4 194 rfl rfl) (Or.inl ⟨_, _, _, _, (shE h6), rfl⟩) rfl (Nat.le_of_ble_eq_true rfl) ⟨(Nat.le_of_ble_eq_true rfl), (Nat.le_of_ble_eq_true rfl)⟩ ⟨(Nat.le_of_ble_eq_true rfl), (Nat.le_of_ble_eq_true rfl)⟩ (fun z7 h8 e9 => ?_)
  refine WPe_st (st2 := [vI z7.1]) rfl ?_
  refine WPe_istore_n (pc := 31) (ls' := [(2, vI z7.1), (0, vR x0), (1, vI x1)]) (dd dtX6_gladOf 18 rfl) (Nat.le_of_ble_eq_true rfl) rfl ?_
  refine WPe_aload_n (pc := 32) 1 (dd dtX6_gladOf 19 rfl) rfl ?_
  refine WPe_getR (pc := 33) (t := 6) (C := RX6) (T := TX6) 3 (dd dtX6_gladOf 20 rfl) (e9.at (shE h6) (by decide)) rfl (Nat.le_of_ble_eq_true rfl) rfl (bw_mem4 56 rfl rfl) ?_
  refine WPe_iconst (pc := 36) (3 : Int32) (dd dtX6_gladOf 21 rfl) (by decide) ?_
  refine WPe_iload_n (pc := 37) 2 (dd dtX6_gladOf 22 rfl) rfl ?_
  refine WPe_imul (pc := 38) (dd dtX6_gladOf 23 rfl) ?_
  refine WPe_ck fun h10 => ?_
  refine WPe_iald (pc := 39) (dd dtX6_gladOf 24 rfl) (shE h10.1) h10.2 ?_
  refine WPe_iconst (pc := 40) (2 : Int32) (dd dtX6_gladOf 25 rfl) (by decide) ?_
  refine WPe_icmp_ne (pc := 41) 55 (dd dtX6_gladOf 26 rfl) (by decide) (fun h11 => ?_) (fun h11 => ?_)
  · refine WPe_iload_n (pc := 44) 0 (dd dtX6_gladOf 27 rfl) rfl ?_
    refine WPe_aload_n (pc := 45) 1 (dd dtX6_gladOf 28 rfl) rfl ?_
    refine WPe_getR (pc := 46) (t := 6) (C := RX6) (T := TX6) 2 (dd dtX6_gladOf 29 rfl) (e9.at (shE h6) (by decide)) rfl (Nat.le_of_ble_eq_true rfl) rfl (bw_mem4 55 rfl rfl) ?_
    refine WPe_iload_n (pc := 49) 2 (dd dtX6_gladOf 30 rfl) rfl ?_
    refine WPe_ck fun h12 => ?_
    refine WPe_iald (pc := 50) (dd dtX6_gladOf 31 rfl) (shE h12.1) h12.2 ?_
    refine WPe_iadd (pc := 51) (dd dtX6_gladOf 32 rfl) ?_
    refine WPe_goto (pc := 52) 56 (dd dtX6_gladOf 33 rfl) (by decide) ?_
    refine WPe_sub [1, 2, 0] rfl ?_
    exact wpj6_gladOf_56 X w0  x0 x1 z7.1 (z7.1 + (wi z7.2 (wr z7.2 x0 2) (x1).toNatClampNeg)) z7.2
  · refine WPe_iload_n (pc := 55) 0 (dd dtX6_gladOf 34 rfl) rfl ?_
    refine WPe_sub [1, 2, 0] rfl ?_
    exact wpj6_gladOf_56 X w0  x0 x1 z7.1 z7.1 z7.2
noncomputable def f6_gladOf (x0 : Nat) (x1 : Int32) (w : Wd) : Option (Int32 × Wd) :=
  ck (tg w x0 = 6) (ck (tg w (wr w x0 1) = 20 ∧ vp_in x1 (ln w (wr w x0 1))) (if (wi w (wr w x0 1) (x1).toNatClampNeg) = (5 : Int32) then (ck (tg w (wr w x0 4) = 20 ∧ vp_in (1 : Int32) (ln w (wr w x0 4))) (if (wi w (wr w x0 4) ((1 : Int32)).toNatClampNeg) ≤ (300 : Int32) then (j6_gladOf_25 x0 x1 w) else (some ((99 : Int32), w)))) else (j6_gladOf_25 x0 x1 w)))
theorem wpf6_gladOf (X : CX) (w0 : Wd) (x0 : Nat) (x1 : Int32) (w : Wd) : WPe rtI X (mX6_gladOf, 4, 0, 0, w0) 0 0 (f6_gladOf x0 x1 w) 0 [(0, vR x0), (1, vI x1)] [] w := by
  unfold f6_gladOf
  refine WPe_aload_n (pc := 0) 0 (dd dtX6_gladOf 0 rfl) rfl ?_
  refine WPe_ck fun h1 => ?_
  refine WPe_getR (pc := 1) (t := 6) (C := RX6) (T := TX6) 1 (dd dtX6_gladOf 1 rfl) (shE h1) rfl (Nat.le_of_ble_eq_true rfl) rfl (bw_mem4 54 rfl rfl) ?_
  refine WPe_iload_n (pc := 4) 1 (dd dtX6_gladOf 2 rfl) rfl ?_
  refine WPe_ck fun h2 => ?_
  refine WPe_iald (pc := 5) (dd dtX6_gladOf 3 rfl) (shE h2.1) h2.2 ?_
  refine WPe_iconst (pc := 6) (5 : Int32) (dd dtX6_gladOf 4 rfl) (by decide) ?_
  refine WPe_icmp_ne (pc := 7) 25 (dd dtX6_gladOf 5 rfl) (by decide) (fun h3 => ?_) (fun h3 => ?_)
  · refine WPe_aload_n (pc := 10) 0 (dd dtX6_gladOf 6 rfl) rfl ?_
    refine WPe_getR (pc := 11) (t := 6) (C := RX6) (T := TX6) 4 (dd dtX6_gladOf 7 rfl) (shE h1) rfl (Nat.le_of_ble_eq_true rfl) rfl (bw_mem4 57 rfl rfl) ?_
    refine WPe_iconst (pc := 14) (1 : Int32) (dd dtX6_gladOf 8 rfl) (by decide) ?_
    refine WPe_ck fun h4 => ?_
    refine WPe_iald (pc := 15) (dd dtX6_gladOf 9 rfl) (shE h4.1) h4.2 ?_
    refine WPe_sipush (pc := 16) (300 : Int32) (dd dtX6_gladOf 10 rfl) (by decide) ?_
    refine WPe_icmp_le (pc := 19) 25 (dd dtX6_gladOf 11 rfl) (by decide) (fun h5 => ?_) (fun h5 => ?_)
    · refine WPe_sub [0, 1] rfl ?_
      exact wpj6_gladOf_25 X w0  x0 x1 w
    · refine WPe_bipush (pc := 22) (99 : Int32) (dd dtX6_gladOf 12 rfl) (by decide) ?_
      exact WPe_ireturn (pc := 24) (dd dtX6_gladOf 13 rfl) rfl rfl ⟨(Nat.le_of_ble_eq_true rfl), (Nat.le_of_ble_eq_true rfl)⟩
  · refine WPe_sub [0, 1] rfl ?_
    exact wpj6_gladOf_25 X w0  x0 x1 w
theorem okf6_gladOf (x0 : Nat) (x1 : Int32) (w : Wd) : ∀ z, f6_gladOf x0 x1 w = some z → OkM mX6_gladOf 4 0 0 [vR x0, vI x1] w (rtI z.1) z.2 :=
  OkM.of (rt := rtI) moX6_gladOf (Nat.le_of_ble_eq_true rfl) (fun X => wpf6_gladOf X w x0 x1 w)
def tbX6_told : List (Nat × Instr × Nat) := [(0, .aload_n 0, 1), (1, .iload_n 1, 1), (2, .invokevirtual 164, 3), (5, .ifCond .ne 7, 3), (8, .sipush (-5000), 3), (11, .ireturn, 1), (12, .iload_n 2, 1), (13, .tableswitch 90 0 7 #[47, 47, 47, 58, 65, 72, 78, 84], 47), (60, .aload_n 0, 1), (61, .getfield 16, 3), (64, .iconst 3, 1), (65, .iload_n 1, 1), (66, .imul, 1), (67, .iload_n 2, 1), (68, .iadd, 1), (69, .iaload, 1), (70, .ireturn, 1), (71, .aload_n 0, 1), (72, .getfield 7, 3), (75, .iload_n 1, 1), (76, .iaload, 1), (77, .ireturn, 1), (78, .aload_n 0, 1), (79, .getfield 13, 3), (82, .iload_n 1, 1), (83, .iaload, 1), (84, .ireturn, 1), (85, .aload_n 0, 1), (86, .iload_n 1, 1), (87, .invokevirtual 170, 3), (90, .ireturn, 1), (91, .aload_n 0, 1), (92, .iload_n 1, 1), (93, .invokevirtual 173, 3), (96, .ireturn, 1), (97, .aload_n 0, 1), (98, .iload_n 1, 1), (99, .invokevirtual 176, 3), (102, .ireturn, 1), (103, .sipush (-7000), 3), (106, .ireturn, 1)]
set_option maxRecDepth 20000 in
theorem dtX6_told : ∀ x ∈ tbX6_told, decode cX6_told x.1 = .ok x.2 := by decide +kernel
noncomputable def f6_told (x0 : Nat) (x1 : Int32) (x2 : Int32) (w : Wd) : Option (Int32 × Wd) :=
  ck (tg w x0 = 6) ((f6_isOne x0 x1 w).bind fun z2 => (if z2.1 = (0 : Int32) then (some ((-5000 : Int32), z2.2)) else (if x2 = (0 : Int32) then (ck (tg z2.2 (wr z2.2 x0 3) = 20 ∧ vp_in (((3 : Int32) * x1) + x2) (ln z2.2 (wr z2.2 x0 3))) (some ((wi z2.2 (wr z2.2 x0 3) ((((3 : Int32) * x1) + x2)).toNatClampNeg), z2.2))) else (if x2 = (1 : Int32) then (ck (tg z2.2 (wr z2.2 x0 3) = 20 ∧ vp_in (((3 : Int32) * x1) + x2) (ln z2.2 (wr z2.2 x0 3))) (some ((wi z2.2 (wr z2.2 x0 3) ((((3 : Int32) * x1) + x2)).toNatClampNeg), z2.2))) else (if x2 = (2 : Int32) then (ck (tg z2.2 (wr z2.2 x0 3) = 20 ∧ vp_in (((3 : Int32) * x1) + x2) (ln z2.2 (wr z2.2 x0 3))) (some ((wi z2.2 (wr z2.2 x0 3) ((((3 : Int32) * x1) + x2)).toNatClampNeg), z2.2))) else (if x2 = (3 : Int32) then (ck (tg z2.2 (wr z2.2 x0 1) = 20 ∧ vp_in x1 (ln z2.2 (wr z2.2 x0 1))) (some ((wi z2.2 (wr z2.2 x0 1) (x1).toNatClampNeg), z2.2))) else (if x2 = (4 : Int32) then (ck (tg z2.2 (wr z2.2 x0 2) = 20 ∧ vp_in x1 (ln z2.2 (wr z2.2 x0 2))) (some ((wi z2.2 (wr z2.2 x0 2) (x1).toNatClampNeg), z2.2))) else (if x2 = (5 : Int32) then ((f6_feelsOf x0 x1 z2.2).bind fun z17 => (some (z17.1, z17.2))) else (if x2 = (6 : Int32) then ((f6_bearsOf x0 x1 z2.2).bind fun z21 => (some (z21.1, z21.2))) else (if x2 = (7 : Int32) then ((f6_gladOf x0 x1 z2.2).bind fun z25 => (some (z25.1, z25.2))) else (some ((-7000 : Int32), z2.2))))))))))))
theorem wpf6_told (X : CX) (w0 : Wd) (x0 : Nat) (x1 : Int32) (x2 : Int32) (w : Wd) : WPe rtI X (mX6_told, 5, 0, 0, w0) 0 0 (f6_told x0 x1 x2 w) 0 [(0, vR x0), (1, vI x1), (2, vI x2)] [] w := by
  unfold f6_told
  refine WPe_aload_n (pc := 0) 0 (dd dtX6_told 0 rfl) rfl ?_
  refine WPe_iload_n (pc := 1) 1 (dd dtX6_told 1 rfl) rfl ?_
  refine WPe_ck fun h1 => ?_
  refine WPe_callV (pc := 2) (rtc := rtI) (Mc := mX6_isOne) (d' := 2) (mc' := 0) (ms' := 0) [vI x1] [] rfl (dd dtX6_told 2 rfl) (okf6_isOne x0 x1 w) moX6_isOne miX6_isOne (bw_mem4 190 rfl rfl) (Or.inl ⟨_, _, _, _, (shE h1), rfl⟩) rfl (Nat.le_of_ble_eq_true rfl) ⟨(Nat.le_of_ble_eq_true rfl), (Nat.le_of_ble_eq_true rfl)⟩ ⟨(Nat.le_of_ble_eq_true rfl), (Nat.le_of_ble_eq_true rfl)⟩ (fun z2 h3 e4 => ?_)
  refine WPe_st (st2 := [vI z2.1]) rfl ?_
  refine WPe_if_ne (pc := 5) 12 (dd dtX6_told 3 rfl) (by decide) (fun h5 => ?_) (fun h5 => ?_)
  · refine WPe_sipush (pc := 8) (-5000 : Int32) (dd dtX6_told 4 rfl) (by decide) ?_
    exact WPe_ireturn (pc := 11) (dd dtX6_told 5 rfl) rfl rfl ⟨(Nat.le_of_ble_eq_true rfl), (Nat.le_of_ble_eq_true rfl)⟩
  · refine WPe_iload_n (pc := 12) 2 (dd dtX6_told 6 rfl) rfl ?_
    refine WPe_ite (fun h6 => ?_) (fun h6 => ?_)
    · refine WPe_tabIn (pc := 13) (0 : Int32) 60 (dd dtX6_told 7 rfl) h6 (by decide) (by decide) rfl (by decide) ?_
      refine WPe_aload_n (pc := 60) 0 (dd dtX6_told 8 rfl) rfl ?_
      refine WPe_getR (pc := 61) (t := 6) (C := RX6) (T := TX6) 3 (dd dtX6_told 9 rfl) (e4.at (shE h1) (by decide)) rfl (Nat.le_of_ble_eq_true rfl) rfl (bw_mem4 56 rfl rfl) ?_
      refine WPe_iconst (pc := 64) (3 : Int32) (dd dtX6_told 10 rfl) (by decide) ?_
      refine WPe_iload_n (pc := 65) 1 (dd dtX6_told 11 rfl) rfl ?_
      refine WPe_imul (pc := 66) (dd dtX6_told 12 rfl) ?_
      refine WPe_iload_n (pc := 67) 2 (dd dtX6_told 13 rfl) rfl ?_
      refine WPe_iadd (pc := 68) (dd dtX6_told 14 rfl) ?_
      refine WPe_ck fun h7 => ?_
      refine WPe_iald (pc := 69) (dd dtX6_told 15 rfl) (shE h7.1) h7.2 ?_
      exact WPe_ireturn (pc := 70) (dd dtX6_told 16 rfl) rfl rfl ⟨(Nat.le_of_ble_eq_true rfl), (Nat.le_of_ble_eq_true rfl)⟩
    · refine WPe_ite (fun h8 => ?_) (fun h8 => ?_)
      · refine WPe_tabIn (pc := 13) (1 : Int32) 60 (dd dtX6_told 7 rfl) h8 (by decide) (by decide) rfl (by decide) ?_
        refine WPe_aload_n (pc := 60) 0 (dd dtX6_told 8 rfl) rfl ?_
        refine WPe_getR (pc := 61) (t := 6) (C := RX6) (T := TX6) 3 (dd dtX6_told 9 rfl) (e4.at (shE h1) (by decide)) rfl (Nat.le_of_ble_eq_true rfl) rfl (bw_mem4 56 rfl rfl) ?_
        refine WPe_iconst (pc := 64) (3 : Int32) (dd dtX6_told 10 rfl) (by decide) ?_
        refine WPe_iload_n (pc := 65) 1 (dd dtX6_told 11 rfl) rfl ?_
        refine WPe_imul (pc := 66) (dd dtX6_told 12 rfl) ?_
        refine WPe_iload_n (pc := 67) 2 (dd dtX6_told 13 rfl) rfl ?_
        refine WPe_iadd (pc := 68) (dd dtX6_told 14 rfl) ?_
        refine WPe_ck fun h9 => ?_
        refine WPe_iald (pc := 69) (dd dtX6_told 15 rfl) (shE h9.1) h9.2 ?_
        exact WPe_ireturn (pc := 70) (dd dtX6_told 16 rfl) rfl rfl ⟨(Nat.le_of_ble_eq_true rfl), (Nat.le_of_ble_eq_true rfl)⟩
      · refine WPe_ite (fun h10 => ?_) (fun h10 => ?_)
        · refine WPe_tabIn (pc := 13) (2 : Int32) 60 (dd dtX6_told 7 rfl) h10 (by decide) (by decide) rfl (by decide) ?_
          refine WPe_aload_n (pc := 60) 0 (dd dtX6_told 8 rfl) rfl ?_
          refine WPe_getR (pc := 61) (t := 6) (C := RX6) (T := TX6) 3 (dd dtX6_told 9 rfl) (e4.at (shE h1) (by decide)) rfl (Nat.le_of_ble_eq_true rfl) rfl (bw_mem4 56 rfl rfl) ?_
          refine WPe_iconst (pc := 64) (3 : Int32) (dd dtX6_told 10 rfl) (by decide) ?_
          refine WPe_iload_n (pc := 65) 1 (dd dtX6_told 11 rfl) rfl ?_
          refine WPe_imul (pc := 66) (dd dtX6_told 12 rfl) ?_
          refine WPe_iload_n (pc := 67) 2 (dd dtX6_told 13 rfl) rfl ?_
          refine WPe_iadd (pc := 68) (dd dtX6_told 14 rfl) ?_
          refine WPe_ck fun h11 => ?_
          refine WPe_iald (pc := 69) (dd dtX6_told 15 rfl) (shE h11.1) h11.2 ?_
          exact WPe_ireturn (pc := 70) (dd dtX6_told 16 rfl) rfl rfl ⟨(Nat.le_of_ble_eq_true rfl), (Nat.le_of_ble_eq_true rfl)⟩
        · refine WPe_ite (fun h12 => ?_) (fun h12 => ?_)
          · refine WPe_tabIn (pc := 13) (3 : Int32) 71 (dd dtX6_told 7 rfl) h12 (by decide) (by decide) rfl (by decide) ?_
            refine WPe_aload_n (pc := 71) 0 (dd dtX6_told 17 rfl) rfl ?_
            refine WPe_getR (pc := 72) (t := 6) (C := RX6) (T := TX6) 1 (dd dtX6_told 18 rfl) (e4.at (shE h1) (by decide)) rfl (Nat.le_of_ble_eq_true rfl) rfl (bw_mem4 54 rfl rfl) ?_
            refine WPe_iload_n (pc := 75) 1 (dd dtX6_told 19 rfl) rfl ?_
            refine WPe_ck fun h13 => ?_
            refine WPe_iald (pc := 76) (dd dtX6_told 20 rfl) (shE h13.1) h13.2 ?_
            exact WPe_ireturn (pc := 77) (dd dtX6_told 21 rfl) rfl rfl ⟨(Nat.le_of_ble_eq_true rfl), (Nat.le_of_ble_eq_true rfl)⟩
          · refine WPe_ite (fun h14 => ?_) (fun h14 => ?_)
            · refine WPe_tabIn (pc := 13) (4 : Int32) 78 (dd dtX6_told 7 rfl) h14 (by decide) (by decide) rfl (by decide) ?_
              refine WPe_aload_n (pc := 78) 0 (dd dtX6_told 22 rfl) rfl ?_
              refine WPe_getR (pc := 79) (t := 6) (C := RX6) (T := TX6) 2 (dd dtX6_told 23 rfl) (e4.at (shE h1) (by decide)) rfl (Nat.le_of_ble_eq_true rfl) rfl (bw_mem4 55 rfl rfl) ?_
              refine WPe_iload_n (pc := 82) 1 (dd dtX6_told 24 rfl) rfl ?_
              refine WPe_ck fun h15 => ?_
              refine WPe_iald (pc := 83) (dd dtX6_told 25 rfl) (shE h15.1) h15.2 ?_
              exact WPe_ireturn (pc := 84) (dd dtX6_told 26 rfl) rfl rfl ⟨(Nat.le_of_ble_eq_true rfl), (Nat.le_of_ble_eq_true rfl)⟩
            · refine WPe_ite (fun h16 => ?_) (fun h16 => ?_)
              · refine WPe_tabIn (pc := 13) (5 : Int32) 85 (dd dtX6_told 7 rfl) h16 (by decide) (by decide) rfl (by decide) ?_
                refine WPe_aload_n (pc := 85) 0 (dd dtX6_told 27 rfl) rfl ?_
                refine WPe_iload_n (pc := 86) 1 (dd dtX6_told 28 rfl) rfl ?_
                refine WPe_callV (pc := 87) (rtc := rtI) (Mc := mX6_feelsOf) (d' := 4) (mc' := 0) (ms' := 0) [vI x1] [] rfl (dd dtX6_told 29 rfl) (okf6_feelsOf x0 x1 z2.2) moX6_feelsOf miX6_feelsOf (bw_mem4 220 rfl rfl) (Or.inl ⟨_, _, _, _, (e4.at (shE h1) (by decide)), rfl⟩) rfl (Nat.le_of_ble_eq_true rfl) ⟨(Nat.le_of_ble_eq_true rfl), (Nat.le_of_ble_eq_true rfl)⟩ ⟨(Nat.le_of_ble_eq_true rfl), (Nat.le_of_ble_eq_true rfl)⟩ (fun z17 h18 e19 => ?_)
                refine WPe_st (st2 := [vI z17.1]) rfl ?_
                exact WPe_ireturn (pc := 90) (dd dtX6_told 30 rfl) rfl rfl ⟨(Nat.le_of_ble_eq_true rfl), (Nat.le_of_ble_eq_true rfl)⟩
              · refine WPe_ite (fun h20 => ?_) (fun h20 => ?_)
                · refine WPe_tabIn (pc := 13) (6 : Int32) 91 (dd dtX6_told 7 rfl) h20 (by decide) (by decide) rfl (by decide) ?_
                  refine WPe_aload_n (pc := 91) 0 (dd dtX6_told 31 rfl) rfl ?_
                  refine WPe_iload_n (pc := 92) 1 (dd dtX6_told 32 rfl) rfl ?_
                  refine WPe_callV (pc := 93) (rtc := rtI) (Mc := mX6_bearsOf) (d' := 4) (mc' := 0) (ms' := 0) [vI x1] [] rfl (dd dtX6_told 33 rfl) (okf6_bearsOf x0 x1 z2.2) moX6_bearsOf miX6_bearsOf (bw_mem4 224 rfl rfl) (Or.inl ⟨_, _, _, _, (e4.at (shE h1) (by decide)), rfl⟩) rfl (Nat.le_of_ble_eq_true rfl) ⟨(Nat.le_of_ble_eq_true rfl), (Nat.le_of_ble_eq_true rfl)⟩ ⟨(Nat.le_of_ble_eq_true rfl), (Nat.le_of_ble_eq_true rfl)⟩ (fun z21 h22 e23 => ?_)
                  refine WPe_st (st2 := [vI z21.1]) rfl ?_
                  exact WPe_ireturn (pc := 96) (dd dtX6_told 34 rfl) rfl rfl ⟨(Nat.le_of_ble_eq_true rfl), (Nat.le_of_ble_eq_true rfl)⟩
                · refine WPe_ite (fun h24 => ?_) (fun h24 => ?_)
                  · refine WPe_tabIn (pc := 13) (7 : Int32) 97 (dd dtX6_told 7 rfl) h24 (by decide) (by decide) rfl (by decide) ?_
                    refine WPe_aload_n (pc := 97) 0 (dd dtX6_told 35 rfl) rfl ?_
                    refine WPe_iload_n (pc := 98) 1 (dd dtX6_told 36 rfl) rfl ?_
                    refine WPe_callV (pc := 99) (rtc := rtI) (Mc := mX6_gladOf) (d' := 4) (mc' := 0) (ms' := 0) [vI x1] [] rfl (dd dtX6_told 37 rfl) (okf6_gladOf x0 x1 z2.2) moX6_gladOf miX6_gladOf (bw_mem4 228 rfl rfl) (Or.inl ⟨_, _, _, _, (e4.at (shE h1) (by decide)), rfl⟩) rfl (Nat.le_of_ble_eq_true rfl) ⟨(Nat.le_of_ble_eq_true rfl), (Nat.le_of_ble_eq_true rfl)⟩ ⟨(Nat.le_of_ble_eq_true rfl), (Nat.le_of_ble_eq_true rfl)⟩ (fun z25 h26 e27 => ?_)
                    refine WPe_st (st2 := [vI z25.1]) rfl ?_
                    exact WPe_ireturn (pc := 102) (dd dtX6_told 38 rfl) rfl rfl ⟨(Nat.le_of_ble_eq_true rfl), (Nat.le_of_ble_eq_true rfl)⟩
                  · refine WPe_tabOut (pc := 13) 103 (dd dtX6_told 7 rfl) (fun j hj => ?_) (by decide) ?_
                    · match j, hj with
                      | 0, _ => exact Or.inr (tneq h6 (by decide))
                      | 1, _ => exact Or.inr (tneq h8 (by decide))
                      | 2, _ => exact Or.inr (tneq h10 (by decide))
                      | 3, _ => exact Or.inr (tneq h12 (by decide))
                      | 4, _ => exact Or.inr (tneq h14 (by decide))
                      | 5, _ => exact Or.inr (tneq h16 (by decide))
                      | 6, _ => exact Or.inr (tneq h20 (by decide))
                      | 7, _ => exact Or.inr (tneq h24 (by decide))
                      | j + 8, h => exact absurd h (by omega)
                    refine WPe_sipush (pc := 103) (-7000 : Int32) (dd dtX6_told 39 rfl) (by decide) ?_
                    exact WPe_ireturn (pc := 106) (dd dtX6_told 40 rfl) rfl rfl ⟨(Nat.le_of_ble_eq_true rfl), (Nat.le_of_ble_eq_true rfl)⟩
theorem okf6_told (x0 : Nat) (x1 : Int32) (x2 : Int32) (w : Wd) : ∀ z, f6_told x0 x1 x2 w = some z → OkM mX6_told 5 0 0 [vR x0, vI x1, vI x2] w (rtI z.1) z.2 :=
  OkM.of (rt := rtI) moX6_told (Nat.le_of_ble_eq_true rfl) (fun X => wpf6_told X w x0 x1 x2 w)
def tbX6_lessSteam : List (Nat × Instr × Nat) := [(0, .aload_n 0, 1), (1, .getfield 19, 3), (4, .iconst 2, 1), (5, .aload_n 0, 1), (6, .getfield 19, 3), (9, .iconst 2, 1), (10, .iaload, 1), (11, .ifCond .le 14, 3), (14, .aload_n 0, 1), (15, .getfield 19, 3), (18, .iconst 2, 1), (19, .iaload, 1), (20, .iconst 1, 1), (21, .isub, 1), (22, .goto 4, 3), (25, .iconst 0, 1), (26, .iastore, 1), (27, .return_, 1)]
set_option maxRecDepth 20000 in
theorem dtX6_lessSteam : ∀ x ∈ tbX6_lessSteam, decode cX6_lessSteam x.1 = .ok x.2 := by decide +kernel
noncomputable def f6_lessSteam (x0 : Nat) (w : Wd) : Option (Unit × Wd) :=
  ck (tg w x0 = 6) (ck (tg w (wr w x0 4) = 20 ∧ vp_in (2 : Int32) (ln w (wr w x0 4))) (if (wi w (wr w x0 4) ((2 : Int32)).toNatClampNeg) ≤ (0 : Int32) then (ck (vp_in (2 : Int32) (ln w (wr w x0 4))) (lw (sI w (wr w x0 4) ((2 : Int32)).toNatClampNeg (0 : Int32)) fun w5 => (some ((), w5)))) else (ck (vp_in (2 : Int32) (ln w (wr w x0 4))) (ck (vp_in (2 : Int32) (ln w (wr w x0 4))) (lw (sI w (wr w x0 4) ((2 : Int32)).toNatClampNeg ((wi w (wr w x0 4) ((2 : Int32)).toNatClampNeg) - (1 : Int32))) fun w9 => (some ((), w9)))))))
theorem wpf6_lessSteam (X : CX) (w0 : Wd) (x0 : Nat) (w : Wd) : WPe rtV X (mX6_lessSteam, 1, 0, 0, w0) 0 0 (f6_lessSteam x0 w) 0 [(0, vR x0)] [] w := by
  unfold f6_lessSteam
  refine WPe_aload_n (pc := 0) 0 (dd dtX6_lessSteam 0 rfl) rfl ?_
  refine WPe_ck fun h1 => ?_
  refine WPe_getR (pc := 1) (t := 6) (C := RX6) (T := TX6) 4 (dd dtX6_lessSteam 1 rfl) (shE h1) rfl (Nat.le_of_ble_eq_true rfl) rfl (bw_mem4 57 rfl rfl) ?_
  refine WPe_iconst (pc := 4) (2 : Int32) (dd dtX6_lessSteam 2 rfl) (by decide) ?_
  refine WPe_aload_n (pc := 5) 0 (dd dtX6_lessSteam 3 rfl) rfl ?_
  refine WPe_getR (pc := 6) (t := 6) (C := RX6) (T := TX6) 4 (dd dtX6_lessSteam 4 rfl) (shE h1) rfl (Nat.le_of_ble_eq_true rfl) rfl (bw_mem4 57 rfl rfl) ?_
  refine WPe_iconst (pc := 9) (2 : Int32) (dd dtX6_lessSteam 5 rfl) (by decide) ?_
  refine WPe_ck fun h2 => ?_
  refine WPe_iald (pc := 10) (dd dtX6_lessSteam 6 rfl) (shE h2.1) h2.2 ?_
  refine WPe_if_le (pc := 11) 25 (dd dtX6_lessSteam 7 rfl) (by decide) (fun h3 => ?_) (fun h3 => ?_)
  · refine WPe_iconst (pc := 25) (0 : Int32) (dd dtX6_lessSteam 15 rfl) (by decide) ?_
    refine WPe_ck fun h4 => ?_
    refine WPe_iast (pc := 26) (dd dtX6_lessSteam 16 rfl) (shL (shE h2.1)) h4 ?_
    refine WPe_lw fun w5 e6 => ?_
    exact WPe_return (pc := 27) (dd dtX6_lessSteam 17 rfl) rfl rfl ⟨(Nat.le_of_ble_eq_true rfl), (Nat.le_of_ble_eq_true rfl)⟩
  · refine WPe_aload_n (pc := 14) 0 (dd dtX6_lessSteam 8 rfl) rfl ?_
    refine WPe_getR (pc := 15) (t := 6) (C := RX6) (T := TX6) 4 (dd dtX6_lessSteam 9 rfl) (shE h1) rfl (Nat.le_of_ble_eq_true rfl) rfl (bw_mem4 57 rfl rfl) ?_
    refine WPe_iconst (pc := 18) (2 : Int32) (dd dtX6_lessSteam 10 rfl) (by decide) ?_
    refine WPe_ck fun h7 => ?_
    refine WPe_iald (pc := 19) (dd dtX6_lessSteam 11 rfl) (shL (shE h2.1)) h7 ?_
    refine WPe_iconst (pc := 20) (1 : Int32) (dd dtX6_lessSteam 12 rfl) (by decide) ?_
    refine WPe_isub (pc := 21) (dd dtX6_lessSteam 13 rfl) ?_
    refine WPe_goto (pc := 22) 26 (dd dtX6_lessSteam 14 rfl) (by decide) ?_
    refine WPe_ck fun h8 => ?_
    refine WPe_iast (pc := 26) (dd dtX6_lessSteam 16 rfl) (shL (shE h2.1)) h8 ?_
    refine WPe_lw fun w9 e10 => ?_
    exact WPe_return (pc := 27) (dd dtX6_lessSteam 17 rfl) rfl rfl ⟨(Nat.le_of_ble_eq_true rfl), (Nat.le_of_ble_eq_true rfl)⟩
theorem okf6_lessSteam (x0 : Nat) (w : Wd) : ∀ z, f6_lessSteam x0 w = some z → OkM mX6_lessSteam 1 0 0 [vR x0] w (rtV z.1) z.2 :=
  OkM.of (rt := rtV) moX6_lessSteam (Nat.le_of_ble_eq_true rfl) (fun X => wpf6_lessSteam X w x0 w)
def tbX6_pours : List (Nat × Instr × Nat) := [(0, .aload_n 0, 1), (1, .getfield 19, 3), (4, .iconst 1, 1), (5, .iaload, 1), (6, .bipush 20, 2), (8, .iload_n 1, 1), (9, .imul, 1), (10, .if_icmp .ge 5, 3), (13, .iconst 0, 1), (14, .ireturn, 1), (15, .aload_n 0, 1), (16, .getfield 19, 3), (19, .iconst 1, 1), (20, .dup2, 1), (21, .iaload, 1), (22, .bipush 10, 2), (24, .iload_n 1, 1), (25, .imul, 1), (26, .isub, 1), (27, .iastore, 1), (28, .aload_n 0, 1), (29, .getfield 19, 3), (32, .iconst 2, 1), (33, .aload_n 0, 1), (34, .getfield 19, 3), (37, .iconst 2, 1), (38, .iaload, 1), (39, .iconst 3, 1), (40, .iload_n 1, 1), (41, .imul, 1), (42, .iadd, 1), (43, .iconst 0, 1), (44, .bipush 99, 2), (46, .invokestatic 161, 3), (49, .iastore, 1), (50, .iconst 1, 1), (51, .ireturn, 1)]
set_option maxRecDepth 20000 in
theorem dtX6_pours : ∀ x ∈ tbX6_pours, decode cX6_pours x.1 = .ok x.2 := by decide +kernel
noncomputable def f6_pours (x0 : Nat) (x1 : Int32) (w : Wd) : Option (Int32 × Wd) :=
  ck (tg w x0 = 6) (ck (tg w (wr w x0 4) = 20 ∧ vp_in (1 : Int32) (ln w (wr w x0 4))) (if ((20 : Int32) * x1) ≤ (wi w (wr w x0 4) ((1 : Int32)).toNatClampNeg) then (ck (vp_in (1 : Int32) (ln w (wr w x0 4))) (ck (vp_in (1 : Int32) (ln w (wr w x0 4))) (lw (sI w (wr w x0 4) ((1 : Int32)).toNatClampNeg ((wi w (wr w x0 4) ((1 : Int32)).toNatClampNeg) - ((10 : Int32) * x1))) fun w6 => (ck (tg w6 (wr w6 x0 4) = 20 ∧ vp_in (2 : Int32) (ln w6 (wr w6 x0 4))) ((f6_within ((wi w6 (wr w6 x0 4) ((2 : Int32)).toNatClampNeg) + ((3 : Int32) * x1)) (0 : Int32) (99 : Int32) w6).bind fun z9 => (ck (vp_in (2 : Int32) (ln z9.2 (wr w6 x0 4))) (lw (sI z9.2 (wr w6 x0 4) ((2 : Int32)).toNatClampNeg z9.1) fun w13 => (some ((1 : Int32), w13))))))))) else (some ((0 : Int32), w))))
theorem wpf6_pours (X : CX) (w0 : Wd) (x0 : Nat) (x1 : Int32) (w : Wd) : WPe rtI X (mX6_pours, 2, 0, 0, w0) 0 0 (f6_pours x0 x1 w) 0 [(0, vR x0), (1, vI x1)] [] w := by
  unfold f6_pours
  refine WPe_aload_n (pc := 0) 0 (dd dtX6_pours 0 rfl) rfl ?_
  refine WPe_ck fun h1 => ?_
  refine WPe_getR (pc := 1) (t := 6) (C := RX6) (T := TX6) 4 (dd dtX6_pours 1 rfl) (shE h1) rfl (Nat.le_of_ble_eq_true rfl) rfl (bw_mem4 57 rfl rfl) ?_
  refine WPe_iconst (pc := 4) (1 : Int32) (dd dtX6_pours 2 rfl) (by decide) ?_
  refine WPe_ck fun h2 => ?_
  refine WPe_iald (pc := 5) (dd dtX6_pours 3 rfl) (shE h2.1) h2.2 ?_
  refine WPe_bipush (pc := 6) (20 : Int32) (dd dtX6_pours 4 rfl) (by decide) ?_
  refine WPe_iload_n (pc := 8) 1 (dd dtX6_pours 5 rfl) rfl ?_
  refine WPe_imul (pc := 9) (dd dtX6_pours 6 rfl) ?_
  refine WPe_icmp_ge (pc := 10) 15 (dd dtX6_pours 7 rfl) (by decide) (fun h3 => ?_) (fun h3 => ?_)
  · refine WPe_aload_n (pc := 15) 0 (dd dtX6_pours 10 rfl) rfl ?_
    refine WPe_getR (pc := 16) (t := 6) (C := RX6) (T := TX6) 4 (dd dtX6_pours 11 rfl) (shE h1) rfl (Nat.le_of_ble_eq_true rfl) rfl (bw_mem4 57 rfl rfl) ?_
    refine WPe_iconst (pc := 19) (1 : Int32) (dd dtX6_pours 12 rfl) (by decide) ?_
    refine WPe_dup2 (pc := 20) (dd dtX6_pours 13 rfl) rfl rfl ?_
    refine WPe_ck fun h4 => ?_
    refine WPe_iald (pc := 21) (dd dtX6_pours 14 rfl) (shL (shE h2.1)) h4 ?_
    refine WPe_bipush (pc := 22) (10 : Int32) (dd dtX6_pours 15 rfl) (by decide) ?_
    refine WPe_iload_n (pc := 24) 1 (dd dtX6_pours 16 rfl) rfl ?_
    refine WPe_imul (pc := 25) (dd dtX6_pours 17 rfl) ?_
    refine WPe_isub (pc := 26) (dd dtX6_pours 18 rfl) ?_
    refine WPe_ck fun h5 => ?_
    refine WPe_iast (pc := 27) (dd dtX6_pours 19 rfl) (shL (shE h2.1)) h5 ?_
    refine WPe_lw fun w6 e7 => ?_
    refine WPe_aload_n (pc := 28) 0 (dd dtX6_pours 20 rfl) rfl ?_
    refine WPe_getR (pc := 29) (t := 6) (C := RX6) (T := TX6) 4 (dd dtX6_pours 21 rfl) (shI e7 (shE h1)) rfl (Nat.le_of_ble_eq_true rfl) rfl (bw_mem4 57 rfl rfl) ?_
    refine WPe_iconst (pc := 32) (2 : Int32) (dd dtX6_pours 22 rfl) (by decide) ?_
    refine WPe_aload_n (pc := 33) 0 (dd dtX6_pours 23 rfl) rfl ?_
    refine WPe_getR (pc := 34) (t := 6) (C := RX6) (T := TX6) 4 (dd dtX6_pours 24 rfl) (shI e7 (shE h1)) rfl (Nat.le_of_ble_eq_true rfl) rfl (bw_mem4 57 rfl rfl) ?_
    refine WPe_iconst (pc := 37) (2 : Int32) (dd dtX6_pours 25 rfl) (by decide) ?_
    refine WPe_ck fun h8 => ?_
    refine WPe_iald (pc := 38) (dd dtX6_pours 26 rfl) (shE h8.1) h8.2 ?_
    refine WPe_iconst (pc := 39) (3 : Int32) (dd dtX6_pours 27 rfl) (by decide) ?_
    refine WPe_iload_n (pc := 40) 1 (dd dtX6_pours 28 rfl) rfl ?_
    refine WPe_imul (pc := 41) (dd dtX6_pours 29 rfl) ?_
    refine WPe_iadd (pc := 42) (dd dtX6_pours 30 rfl) ?_
    refine WPe_iconst (pc := 43) (0 : Int32) (dd dtX6_pours 31 rfl) (by decide) ?_
    refine WPe_bipush (pc := 44) (99 : Int32) (dd dtX6_pours 32 rfl) (by decide) ?_
    refine WPe_callS (pc := 46) (rtc := rtI) (Mc := mX6_within) (d' := 1) (mc' := 0) (ms' := 0) [vI ((wi w6 (wr w6 x0 4) ((2 : Int32)).toNatClampNeg) + ((3 : Int32) * x1)), vI (0 : Int32), vI (99 : Int32)] [vI (2 : Int32), vR (wr w6 x0 4)] rfl (dd dtX6_pours 33 rfl) (okf6_within ((wi w6 (wr w6 x0 4) ((2 : Int32)).toNatClampNeg) + ((3 : Int32) * x1)) (0 : Int32) (99 : Int32) w6) moX6_within msX6_within (bw_mem4 205 rfl rfl) rfl (Nat.le_of_ble_eq_true rfl) ⟨(Nat.le_of_ble_eq_true rfl), (Nat.le_of_ble_eq_true rfl)⟩ ⟨(Nat.le_of_ble_eq_true rfl), (Nat.le_of_ble_eq_true rfl)⟩ (fun z9 h10 e11 => ?_)
    refine WPe_st (st2 := [vI z9.1, vI (2 : Int32), vR (wr w6 x0 4)]) rfl ?_
    refine WPe_ck fun h12 => ?_
    refine WPe_iast (pc := 49) (dd dtX6_pours 34 rfl) (shL (e11.at (shE h8.1) (by decide))) h12 ?_
    refine WPe_lw fun w13 e14 => ?_
    refine WPe_iconst (pc := 50) (1 : Int32) (dd dtX6_pours 35 rfl) (by decide) ?_
    exact WPe_zreturn (pc := 51) (ty := .boolean) (dd dtX6_pours 36 rfl) rfl rfl rfl ⟨(Nat.le_of_ble_eq_true rfl), (Nat.le_of_ble_eq_true rfl)⟩
  · refine WPe_iconst (pc := 13) (0 : Int32) (dd dtX6_pours 8 rfl) (by decide) ?_
    exact WPe_zreturn (pc := 14) (ty := .boolean) (dd dtX6_pours 9 rfl) rfl rfl rfl ⟨(Nat.le_of_ble_eq_true rfl), (Nat.le_of_ble_eq_true rfl)⟩
theorem okf6_pours (x0 : Nat) (x1 : Int32) (w : Wd) : ∀ z, f6_pours x0 x1 w = some z → OkM mX6_pours 2 0 0 [vR x0, vI x1] w (rtI z.1) z.2 :=
  OkM.of (rt := rtI) moX6_pours (Nat.le_of_ble_eq_true rfl) (fun X => wpf6_pours X w x0 x1 w)
def tbX6_pour : List (Nat × Instr × Nat) := [(0, .iload_n 1, 1), (1, .iconst 1, 1), (2, .iconst 3, 1), (3, .invokestatic 75, 3), (6, .ifCond .ne 6, 3), (9, .bipush (-2), 2), (11, .ireturn, 1), (12, .aload_n 0, 1), (13, .iload_n 1, 1), (14, .invokevirtual 179, 3), (17, .ifCond .eq 12, 3), (20, .aload_n 0, 1), (21, .getfield 19, 3), (24, .iconst 2, 1), (25, .iaload, 1), (26, .goto 5, 3), (29, .bipush (-3), 2), (31, .ireturn, 1)]
set_option maxRecDepth 20000 in
theorem dtX6_pour : ∀ x ∈ tbX6_pour, decode cX6_pour x.1 = .ok x.2 := by decide +kernel
noncomputable def f6_pour (x0 : Nat) (x1 : Int32) (w : Wd) : Option (Int32 × Wd) :=
  (f6_in x1 (1 : Int32) (3 : Int32) w).bind fun z1 => (if z1.1 = (0 : Int32) then (some ((-2 : Int32), z1.2)) else (ck (tg z1.2 x0 = 6) ((f6_pours x0 x1 z1.2).bind fun z6 => (if z6.1 = (0 : Int32) then (some ((-3 : Int32), z6.2)) else (ck (tg z6.2 (wr z6.2 x0 4) = 20 ∧ vp_in (2 : Int32) (ln z6.2 (wr z6.2 x0 4))) (some ((wi z6.2 (wr z6.2 x0 4) ((2 : Int32)).toNatClampNeg), z6.2)))))))
theorem wpf6_pour (X : CX) (w0 : Wd) (x0 : Nat) (x1 : Int32) (w : Wd) : WPe rtI X (mX6_pour, 3, 0, 0, w0) 0 0 (f6_pour x0 x1 w) 0 [(0, vR x0), (1, vI x1)] [] w := by
  unfold f6_pour
  refine WPe_iload_n (pc := 0) 1 (dd dtX6_pour 0 rfl) rfl ?_
  refine WPe_iconst (pc := 1) (1 : Int32) (dd dtX6_pour 1 rfl) (by decide) ?_
  refine WPe_iconst (pc := 2) (3 : Int32) (dd dtX6_pour 2 rfl) (by decide) ?_
  refine WPe_callS (pc := 3) (rtc := rtI) (Mc := mX6_in) (d' := 1) (mc' := 0) (ms' := 0) [vI x1, vI (1 : Int32), vI (3 : Int32)] [] rfl (dd dtX6_pour 3 rfl) (okf6_in x1 (1 : Int32) (3 : Int32) w) moX6_in msX6_in (bw_mem4 14 rfl rfl) rfl (Nat.le_of_ble_eq_true rfl) ⟨(Nat.le_of_ble_eq_true rfl), (Nat.le_of_ble_eq_true rfl)⟩ ⟨(Nat.le_of_ble_eq_true rfl), (Nat.le_of_ble_eq_true rfl)⟩ (fun z1 h2 e3 => ?_)
  refine WPe_st (st2 := [vI z1.1]) rfl ?_
  refine WPe_if_ne (pc := 6) 12 (dd dtX6_pour 4 rfl) (by decide) (fun h4 => ?_) (fun h4 => ?_)
  · refine WPe_bipush (pc := 9) (-2 : Int32) (dd dtX6_pour 5 rfl) (by decide) ?_
    exact WPe_ireturn (pc := 11) (dd dtX6_pour 6 rfl) rfl rfl ⟨(Nat.le_of_ble_eq_true rfl), (Nat.le_of_ble_eq_true rfl)⟩
  · refine WPe_aload_n (pc := 12) 0 (dd dtX6_pour 7 rfl) rfl ?_
    refine WPe_iload_n (pc := 13) 1 (dd dtX6_pour 8 rfl) rfl ?_
    refine WPe_ck fun h5 => ?_
    refine WPe_callV (pc := 14) (rtc := rtI) (Mc := mX6_pours) (d' := 2) (mc' := 0) (ms' := 0) [vI x1] [] rfl (dd dtX6_pour 9 rfl) (okf6_pours x0 x1 z1.2) moX6_pours miX6_pours (bw_mem4 236 rfl rfl) (Or.inl ⟨_, _, _, _, (shE h5), rfl⟩) rfl (Nat.le_of_ble_eq_true rfl) ⟨(Nat.le_of_ble_eq_true rfl), (Nat.le_of_ble_eq_true rfl)⟩ ⟨(Nat.le_of_ble_eq_true rfl), (Nat.le_of_ble_eq_true rfl)⟩ (fun z6 h7 e8 => ?_)
    refine WPe_st (st2 := [vI z6.1]) rfl ?_
    refine WPe_if_eq (pc := 17) 29 (dd dtX6_pour 10 rfl) (by decide) (fun h9 => ?_) (fun h9 => ?_)
    · refine WPe_bipush (pc := 29) (-3 : Int32) (dd dtX6_pour 16 rfl) (by decide) ?_
      exact WPe_ireturn (pc := 31) (dd dtX6_pour 17 rfl) rfl rfl ⟨(Nat.le_of_ble_eq_true rfl), (Nat.le_of_ble_eq_true rfl)⟩
    · refine WPe_aload_n (pc := 20) 0 (dd dtX6_pour 11 rfl) rfl ?_
      refine WPe_getR (pc := 21) (t := 6) (C := RX6) (T := TX6) 4 (dd dtX6_pour 12 rfl) (e8.at (shE h5) (by decide)) rfl (Nat.le_of_ble_eq_true rfl) rfl (bw_mem4 57 rfl rfl) ?_
      refine WPe_iconst (pc := 24) (2 : Int32) (dd dtX6_pour 13 rfl) (by decide) ?_
      refine WPe_ck fun h10 => ?_
      refine WPe_iald (pc := 25) (dd dtX6_pour 14 rfl) (shE h10.1) h10.2 ?_
      refine WPe_goto (pc := 26) 31 (dd dtX6_pour 15 rfl) (by decide) ?_
      exact WPe_ireturn (pc := 31) (dd dtX6_pour 17 rfl) rfl rfl ⟨(Nat.le_of_ble_eq_true rfl), (Nat.le_of_ble_eq_true rfl)⟩
theorem okf6_pour (x0 : Nat) (x1 : Int32) (w : Wd) : ∀ z, f6_pour x0 x1 w = some z → OkM mX6_pour 3 0 0 [vR x0, vI x1] w (rtI z.1) z.2 :=
  OkM.of (rt := rtI) moX6_pour (Nat.le_of_ble_eq_true rfl) (fun X => wpf6_pour X w x0 x1 w)
def tbX6_burns : List (Nat × Instr × Nat) := [(0, .aload_n 0, 1), (1, .getfield 19, 3), (4, .iconst 3, 1), (5, .dup2, 1), (6, .iaload, 1), (7, .iconst 1, 1), (8, .isub, 1), (9, .iastore, 1), (10, .aload_n 0, 1), (11, .getfield 19, 3), (14, .iconst 1, 1), (15, .aload_n 0, 1), (16, .getfield 19, 3), (19, .iconst 1, 1), (20, .iaload, 1), (21, .bipush 50, 2), (23, .iadd, 1), (24, .iconst 0, 1), (25, .sipush 999, 3), (28, .invokestatic 161, 3), (31, .iastore, 1), (32, .return_, 1)]
set_option maxRecDepth 20000 in
theorem dtX6_burns : ∀ x ∈ tbX6_burns, decode cX6_burns x.1 = .ok x.2 := by decide +kernel
noncomputable def f6_burns (x0 : Nat) (w : Wd) : Option (Unit × Wd) :=
  ck (tg w x0 = 6) (ck (tg w (wr w x0 4) = 20 ∧ vp_in (3 : Int32) (ln w (wr w x0 4))) (ck (vp_in (3 : Int32) (ln w (wr w x0 4))) (lw (sI w (wr w x0 4) ((3 : Int32)).toNatClampNeg ((wi w (wr w x0 4) ((3 : Int32)).toNatClampNeg) - (1 : Int32))) fun w4 => (ck (tg w4 (wr w4 x0 4) = 20 ∧ vp_in (1 : Int32) (ln w4 (wr w4 x0 4))) ((f6_within ((wi w4 (wr w4 x0 4) ((1 : Int32)).toNatClampNeg) + (50 : Int32)) (0 : Int32) (999 : Int32) w4).bind fun z7 => (ck (vp_in (1 : Int32) (ln z7.2 (wr w4 x0 4))) (lw (sI z7.2 (wr w4 x0 4) ((1 : Int32)).toNatClampNeg z7.1) fun w11 => (some ((), w11)))))))))
theorem wpf6_burns (X : CX) (w0 : Wd) (x0 : Nat) (w : Wd) : WPe rtV X (mX6_burns, 2, 0, 0, w0) 0 0 (f6_burns x0 w) 0 [(0, vR x0)] [] w := by
  unfold f6_burns
  refine WPe_aload_n (pc := 0) 0 (dd dtX6_burns 0 rfl) rfl ?_
  refine WPe_ck fun h1 => ?_
  refine WPe_getR (pc := 1) (t := 6) (C := RX6) (T := TX6) 4 (dd dtX6_burns 1 rfl) (shE h1) rfl (Nat.le_of_ble_eq_true rfl) rfl (bw_mem4 57 rfl rfl) ?_
  refine WPe_iconst (pc := 4) (3 : Int32) (dd dtX6_burns 2 rfl) (by decide) ?_
  refine WPe_dup2 (pc := 5) (dd dtX6_burns 3 rfl) rfl rfl ?_
  refine WPe_ck fun h2 => ?_
  refine WPe_iald (pc := 6) (dd dtX6_burns 4 rfl) (shE h2.1) h2.2 ?_
  refine WPe_iconst (pc := 7) (1 : Int32) (dd dtX6_burns 5 rfl) (by decide) ?_
  refine WPe_isub (pc := 8) (dd dtX6_burns 6 rfl) ?_
  refine WPe_ck fun h3 => ?_
  refine WPe_iast (pc := 9) (dd dtX6_burns 7 rfl) (shL (shE h2.1)) h3 ?_
  refine WPe_lw fun w4 e5 => ?_
  refine WPe_aload_n (pc := 10) 0 (dd dtX6_burns 8 rfl) rfl ?_
  refine WPe_getR (pc := 11) (t := 6) (C := RX6) (T := TX6) 4 (dd dtX6_burns 9 rfl) (shI e5 (shE h1)) rfl (Nat.le_of_ble_eq_true rfl) rfl (bw_mem4 57 rfl rfl) ?_
  refine WPe_iconst (pc := 14) (1 : Int32) (dd dtX6_burns 10 rfl) (by decide) ?_
  refine WPe_aload_n (pc := 15) 0 (dd dtX6_burns 11 rfl) rfl ?_
  refine WPe_getR (pc := 16) (t := 6) (C := RX6) (T := TX6) 4 (dd dtX6_burns 12 rfl) (shI e5 (shE h1)) rfl (Nat.le_of_ble_eq_true rfl) rfl (bw_mem4 57 rfl rfl) ?_
  refine WPe_iconst (pc := 19) (1 : Int32) (dd dtX6_burns 13 rfl) (by decide) ?_
  refine WPe_ck fun h6 => ?_
  refine WPe_iald (pc := 20) (dd dtX6_burns 14 rfl) (shE h6.1) h6.2 ?_
  refine WPe_bipush (pc := 21) (50 : Int32) (dd dtX6_burns 15 rfl) (by decide) ?_
  refine WPe_iadd (pc := 23) (dd dtX6_burns 16 rfl) ?_
  refine WPe_iconst (pc := 24) (0 : Int32) (dd dtX6_burns 17 rfl) (by decide) ?_
  refine WPe_sipush (pc := 25) (999 : Int32) (dd dtX6_burns 18 rfl) (by decide) ?_
  refine WPe_callS (pc := 28) (rtc := rtI) (Mc := mX6_within) (d' := 1) (mc' := 0) (ms' := 0) [vI ((wi w4 (wr w4 x0 4) ((1 : Int32)).toNatClampNeg) + (50 : Int32)), vI (0 : Int32), vI (999 : Int32)] [vI (1 : Int32), vR (wr w4 x0 4)] rfl (dd dtX6_burns 19 rfl) (okf6_within ((wi w4 (wr w4 x0 4) ((1 : Int32)).toNatClampNeg) + (50 : Int32)) (0 : Int32) (999 : Int32) w4) moX6_within msX6_within (bw_mem4 205 rfl rfl) rfl (Nat.le_of_ble_eq_true rfl) ⟨(Nat.le_of_ble_eq_true rfl), (Nat.le_of_ble_eq_true rfl)⟩ ⟨(Nat.le_of_ble_eq_true rfl), (Nat.le_of_ble_eq_true rfl)⟩ (fun z7 h8 e9 => ?_)
  refine WPe_st (st2 := [vI z7.1, vI (1 : Int32), vR (wr w4 x0 4)]) rfl ?_
  refine WPe_ck fun h10 => ?_
  refine WPe_iast (pc := 31) (dd dtX6_burns 20 rfl) (shL (e9.at (shE h6.1) (by decide))) h10 ?_
  refine WPe_lw fun w11 e12 => ?_
  exact WPe_return (pc := 32) (dd dtX6_burns 21 rfl) rfl rfl ⟨(Nat.le_of_ble_eq_true rfl), (Nat.le_of_ble_eq_true rfl)⟩
theorem okf6_burns (x0 : Nat) (w : Wd) : ∀ z, f6_burns x0 w = some z → OkM mX6_burns 2 0 0 [vR x0] w (rtV z.1) z.2 :=
  OkM.of (rt := rtV) moX6_burns (Nat.le_of_ble_eq_true rfl) (fun X => wpf6_burns X w x0 w)
def tbX6_stoke : List (Nat × Instr × Nat) := [(0, .aload_n 0, 1), (1, .getfield 19, 3), (4, .iconst 3, 1), (5, .iaload, 1), (6, .ifCond .ne 6, 3), (9, .bipush (-3), 2), (11, .ireturn, 1), (12, .aload_n 0, 1), (13, .invokevirtual 182, 3), (16, .aload_n 0, 1), (17, .getfield 19, 3), (20, .iconst 1, 1), (21, .iaload, 1), (22, .ireturn, 1)]
set_option maxRecDepth 20000 in
theorem dtX6_stoke : ∀ x ∈ tbX6_stoke, decode cX6_stoke x.1 = .ok x.2 := by decide +kernel
noncomputable def f6_stoke (x0 : Nat) (w : Wd) : Option (Int32 × Wd) :=
  ck (tg w x0 = 6) (ck (tg w (wr w x0 4) = 20 ∧ vp_in (3 : Int32) (ln w (wr w x0 4))) (if (wi w (wr w x0 4) ((3 : Int32)).toNatClampNeg) = (0 : Int32) then (some ((-3 : Int32), w)) else ((f6_burns x0 w).bind fun z4 => (ck (tg z4.2 (wr z4.2 x0 4) = 20 ∧ vp_in (1 : Int32) (ln z4.2 (wr z4.2 x0 4))) (some ((wi z4.2 (wr z4.2 x0 4) ((1 : Int32)).toNatClampNeg), z4.2))))))
theorem wpf6_stoke (X : CX) (w0 : Wd) (x0 : Nat) (w : Wd) : WPe rtI X (mX6_stoke, 3, 0, 0, w0) 0 0 (f6_stoke x0 w) 0 [(0, vR x0)] [] w := by
  unfold f6_stoke
  refine WPe_aload_n (pc := 0) 0 (dd dtX6_stoke 0 rfl) rfl ?_
  refine WPe_ck fun h1 => ?_
  refine WPe_getR (pc := 1) (t := 6) (C := RX6) (T := TX6) 4 (dd dtX6_stoke 1 rfl) (shE h1) rfl (Nat.le_of_ble_eq_true rfl) rfl (bw_mem4 57 rfl rfl) ?_
  refine WPe_iconst (pc := 4) (3 : Int32) (dd dtX6_stoke 2 rfl) (by decide) ?_
  refine WPe_ck fun h2 => ?_
  refine WPe_iald (pc := 5) (dd dtX6_stoke 3 rfl) (shE h2.1) h2.2 ?_
  refine WPe_if_ne (pc := 6) 12 (dd dtX6_stoke 4 rfl) (by decide) (fun h3 => ?_) (fun h3 => ?_)
  · refine WPe_bipush (pc := 9) (-3 : Int32) (dd dtX6_stoke 5 rfl) (by decide) ?_
    exact WPe_ireturn (pc := 11) (dd dtX6_stoke 6 rfl) rfl rfl ⟨(Nat.le_of_ble_eq_true rfl), (Nat.le_of_ble_eq_true rfl)⟩
  · refine WPe_aload_n (pc := 12) 0 (dd dtX6_stoke 7 rfl) rfl ?_
    refine WPe_callV (pc := 13) (rtc := rtV) (Mc := mX6_burns) (d' := 2) (mc' := 0) (ms' := 0) [] [] rfl (dd dtX6_stoke 8 rfl) (okf6_burns x0 w) moX6_burns miX6_burns (bw_mem5 4 rfl rfl) (Or.inl ⟨_, _, _, _, (shE h1), rfl⟩) rfl (Nat.le_of_ble_eq_true rfl) ⟨(Nat.le_of_ble_eq_true rfl), (Nat.le_of_ble_eq_true rfl)⟩ ⟨(Nat.le_of_ble_eq_true rfl), (Nat.le_of_ble_eq_true rfl)⟩ (fun z4 h5 e6 => ?_)
    refine WPe_st (st2 := []) rfl ?_
    refine WPe_aload_n (pc := 16) 0 (dd dtX6_stoke 9 rfl) rfl ?_
    refine WPe_getR (pc := 17) (t := 6) (C := RX6) (T := TX6) 4 (dd dtX6_stoke 10 rfl) (e6.at (shE h1) (by decide)) rfl (Nat.le_of_ble_eq_true rfl) rfl (bw_mem4 57 rfl rfl) ?_
    refine WPe_iconst (pc := 20) (1 : Int32) (dd dtX6_stoke 11 rfl) (by decide) ?_
    refine WPe_ck fun h7 => ?_
    refine WPe_iald (pc := 21) (dd dtX6_stoke 12 rfl) (shE h7.1) h7.2 ?_
    exact WPe_ireturn (pc := 22) (dd dtX6_stoke 13 rfl) rfl rfl ⟨(Nat.le_of_ble_eq_true rfl), (Nat.le_of_ble_eq_true rfl)⟩
theorem okf6_stoke (x0 : Nat) (w : Wd) : ∀ z, f6_stoke x0 w = some z → OkM mX6_stoke 3 0 0 [vR x0] w (rtI z.1) z.2 :=
  OkM.of (rt := rtI) moX6_stoke (Nat.le_of_ble_eq_true rfl) (fun X => wpf6_stoke X w x0 w)
def tbX6_door : List (Nat × Instr × Nat) := [(0, .aload_n 0, 1), (1, .iload_n 1, 1), (2, .invokevirtual 164, 3), (5, .ifCond .ne 6, 3), (8, .bipush (-5), 2), (10, .ireturn, 1), (11, .iload_n 2, 1), (12, .iconst 0, 1), (13, .iconst 3, 1), (14, .invokestatic 75, 3), (17, .ifCond .ne 6, 3), (20, .bipush (-7), 2), (22, .ireturn, 1), (23, .aload_n 0, 1), (24, .getfield 16, 3), (27, .iconst 3, 1), (28, .iload_n 1, 1), (29, .imul, 1), (30, .iaload, 1), (31, .istore_n 3, 1), (32, .iload_n 3, 1), (33, .iload_n 2, 1), (34, .if_icmp .ne 6, 3), (37, .bipush (-3), 2), (39, .ireturn, 1), (40, .iload_n 3, 1), (41, .iconst 3, 1), (42, .if_icmp .eq 8, 3), (45, .iload_n 2, 1), (46, .iconst 3, 1), (47, .if_icmp .ne 7, 3), (50, .aload_n 0, 1), (51, .invokevirtual 185, 3), (54, .aload_n 0, 1), (55, .getfield 16, 3), (58, .iconst 3, 1), (59, .iload_n 1, 1), (60, .imul, 1), (61, .iload_n 2, 1), (62, .iastore, 1), (63, .iload_n 3, 1), (64, .ireturn, 1)]
set_option maxRecDepth 20000 in
theorem dtX6_door : ∀ x ∈ tbX6_door, decode cX6_door x.1 = .ok x.2 := by decide +kernel
noncomputable def j6_door_54  (x0 : Nat) (x1 : Int32) (x2 : Int32) (x3 : Int32) (w : Wd) : Option (Int32 × Wd) :=
  ck (tg w x0 = 6) (ck (tg w (wr w x0 3) = 20 ∧ vp_in ((3 : Int32) * x1) (ln w (wr w x0 3))) (lw (sI w (wr w x0 3) (((3 : Int32) * x1)).toNatClampNeg x2) fun w19 => (some (x3, w19))))
theorem wpj6_door_54 (X : CX) (w0 : Wd)  (x0 : Nat) (x1 : Int32) (x2 : Int32) (x3 : Int32) (w : Wd) : WPe rtI X (mX6_door, 3, 0, 0, w0) 0 0 (j6_door_54  x0 x1 x2 x3 w) 54 [(0, vR x0), (1, vI x1), (2, vI x2), (3, vI x3)] [] w := by
  unfold j6_door_54
  refine WPe_aload_n (pc := 54) 0 (dd dtX6_door 33 rfl) rfl ?_
  refine WPe_ck fun h17 => ?_
  refine WPe_getR (pc := 55) (t := 6) (C := RX6) (T := TX6) 3 (dd dtX6_door 34 rfl) (shE h17) rfl (Nat.le_of_ble_eq_true rfl) rfl (bw_mem4 56 rfl rfl) ?_
  refine WPe_iconst (pc := 58) (3 : Int32) (dd dtX6_door 35 rfl) (by decide) ?_
  refine WPe_iload_n (pc := 59) 1 (dd dtX6_door 36 rfl) rfl ?_
  refine WPe_imul (pc := 60) (dd dtX6_door 37 rfl) ?_
  refine WPe_iload_n (pc := 61) 2 (dd dtX6_door 38 rfl) rfl ?_
  refine WPe_ck fun h18 => ?_
  refine WPe_iast (pc := 62) (dd dtX6_door 39 rfl) (shE h18.1) h18.2 ?_
  refine WPe_lw fun w19 e20 => ?_
  refine WPe_iload_n (pc := 63) 3 (dd dtX6_door 40 rfl) rfl ?_
  exact WPe_ireturn (pc := 64) (dd dtX6_door 41 rfl) rfl rfl ⟨(Nat.le_of_ble_eq_true rfl), (Nat.le_of_ble_eq_true rfl)⟩
noncomputable def j6_door_50  (x0 : Nat) (x1 : Int32) (x2 : Int32) (x3 : Int32) (w : Wd) : Option (Int32 × Wd) :=
  ck (tg w x0 = 6) ((f6_lessSteam x0 w).bind fun z14 => (j6_door_54 x0 x1 x2 x3 z14.2))
theorem wpj6_door_50 (X : CX) (w0 : Wd)  (x0 : Nat) (x1 : Int32) (x2 : Int32) (x3 : Int32) (w : Wd) : WPe rtI X (mX6_door, 3, 0, 0, w0) 0 0 (j6_door_50  x0 x1 x2 x3 w) 50 [(0, vR x0), (1, vI x1), (2, vI x2), (3, vI x3)] [] w := by
  unfold j6_door_50
  refine WPe_aload_n (pc := 50) 0 (dd dtX6_door 31 rfl) rfl ?_
  refine WPe_ck fun h13 => ?_
  refine WPe_callV (pc := 51) (rtc := rtV) (Mc := mX6_lessSteam) (d' := 1) (mc' := 0) (ms' := 0) [] [] rfl (dd dtX6_door 32 rfl) (okf6_lessSteam x0 w) moX6_lessSteam miX6_lessSteam (bw_mem5 12 rfl rfl) (Or.inl ⟨_, _, _, _, (shE h13), rfl⟩) rfl (Nat.le_of_ble_eq_true rfl) ⟨(Nat.le_of_ble_eq_true rfl), (Nat.le_of_ble_eq_true rfl)⟩ ⟨(Nat.le_of_ble_eq_true rfl), (Nat.le_of_ble_eq_true rfl)⟩ (fun z14 h15 e16 => ?_)
  refine WPe_st (st2 := []) rfl ?_
  refine WPe_sub [0, 1, 2, 3] rfl ?_
  exact wpj6_door_54 X w0  x0 x1 x2 x3 z14.2
noncomputable def f6_door (x0 : Nat) (x1 : Int32) (x2 : Int32) (w : Wd) : Option (Int32 × Wd) :=
  ck (tg w x0 = 6) ((f6_isOne x0 x1 w).bind fun z2 => (if z2.1 = (0 : Int32) then (some ((-5 : Int32), z2.2)) else ((f6_in x2 (0 : Int32) (3 : Int32) z2.2).bind fun z6 => (if z6.1 = (0 : Int32) then (some ((-7 : Int32), z6.2)) else (ck (tg z6.2 (wr z6.2 x0 3) = 20 ∧ vp_in ((3 : Int32) * x1) (ln z6.2 (wr z6.2 x0 3))) (if (wi z6.2 (wr z6.2 x0 3) (((3 : Int32) * x1)).toNatClampNeg) = x2 then (some ((-3 : Int32), z6.2)) else (if (wi z6.2 (wr z6.2 x0 3) (((3 : Int32) * x1)).toNatClampNeg) = (3 : Int32) then (j6_door_50 x0 x1 x2 (wi z6.2 (wr z6.2 x0 3) (((3 : Int32) * x1)).toNatClampNeg) z6.2) else (if x2 = (3 : Int32) then (j6_door_50 x0 x1 x2 (wi z6.2 (wr z6.2 x0 3) (((3 : Int32) * x1)).toNatClampNeg) z6.2) else (j6_door_54 x0 x1 x2 (wi z6.2 (wr z6.2 x0 3) (((3 : Int32) * x1)).toNatClampNeg) z6.2)))))))))
theorem wpf6_door (X : CX) (w0 : Wd) (x0 : Nat) (x1 : Int32) (x2 : Int32) (w : Wd) : WPe rtI X (mX6_door, 3, 0, 0, w0) 0 0 (f6_door x0 x1 x2 w) 0 [(0, vR x0), (1, vI x1), (2, vI x2)] [] w := by
  unfold f6_door
  refine WPe_aload_n (pc := 0) 0 (dd dtX6_door 0 rfl) rfl ?_
  refine WPe_iload_n (pc := 1) 1 (dd dtX6_door 1 rfl) rfl ?_
  refine WPe_ck fun h1 => ?_
  refine WPe_callV (pc := 2) (rtc := rtI) (Mc := mX6_isOne) (d' := 2) (mc' := 0) (ms' := 0) [vI x1] [] rfl (dd dtX6_door 2 rfl) (okf6_isOne x0 x1 w) moX6_isOne miX6_isOne (bw_mem4 190 rfl rfl) (Or.inl ⟨_, _, _, _, (shE h1), rfl⟩) rfl (Nat.le_of_ble_eq_true rfl) ⟨(Nat.le_of_ble_eq_true rfl), (Nat.le_of_ble_eq_true rfl)⟩ ⟨(Nat.le_of_ble_eq_true rfl), (Nat.le_of_ble_eq_true rfl)⟩ (fun z2 h3 e4 => ?_)
  refine WPe_st (st2 := [vI z2.1]) rfl ?_
  refine WPe_if_ne (pc := 5) 11 (dd dtX6_door 3 rfl) (by decide) (fun h5 => ?_) (fun h5 => ?_)
  · refine WPe_bipush (pc := 8) (-5 : Int32) (dd dtX6_door 4 rfl) (by decide) ?_
    exact WPe_ireturn (pc := 10) (dd dtX6_door 5 rfl) rfl rfl ⟨(Nat.le_of_ble_eq_true rfl), (Nat.le_of_ble_eq_true rfl)⟩
  · refine WPe_iload_n (pc := 11) 2 (dd dtX6_door 6 rfl) rfl ?_
    refine WPe_iconst (pc := 12) (0 : Int32) (dd dtX6_door 7 rfl) (by decide) ?_
    refine WPe_iconst (pc := 13) (3 : Int32) (dd dtX6_door 8 rfl) (by decide) ?_
    refine WPe_callS (pc := 14) (rtc := rtI) (Mc := mX6_in) (d' := 1) (mc' := 0) (ms' := 0) [vI x2, vI (0 : Int32), vI (3 : Int32)] [] rfl (dd dtX6_door 9 rfl) (okf6_in x2 (0 : Int32) (3 : Int32) z2.2) moX6_in msX6_in (bw_mem4 14 rfl rfl) rfl (Nat.le_of_ble_eq_true rfl) ⟨(Nat.le_of_ble_eq_true rfl), (Nat.le_of_ble_eq_true rfl)⟩ ⟨(Nat.le_of_ble_eq_true rfl), (Nat.le_of_ble_eq_true rfl)⟩ (fun z6 h7 e8 => ?_)
    refine WPe_st (st2 := [vI z6.1]) rfl ?_
    refine WPe_if_ne (pc := 17) 23 (dd dtX6_door 10 rfl) (by decide) (fun h9 => ?_) (fun h9 => ?_)
    · refine WPe_bipush (pc := 20) (-7 : Int32) (dd dtX6_door 11 rfl) (by decide) ?_
      exact WPe_ireturn (pc := 22) (dd dtX6_door 12 rfl) rfl rfl ⟨(Nat.le_of_ble_eq_true rfl), (Nat.le_of_ble_eq_true rfl)⟩
    · refine WPe_aload_n (pc := 23) 0 (dd dtX6_door 13 rfl) rfl ?_
      refine WPe_getR (pc := 24) (t := 6) (C := RX6) (T := TX6) 3 (dd dtX6_door 14 rfl) (e8.at (e4.at (shE h1) (by decide)) (by decide)) rfl (Nat.le_of_ble_eq_true rfl) rfl (bw_mem4 56 rfl rfl) ?_
      refine WPe_iconst (pc := 27) (3 : Int32) (dd dtX6_door 15 rfl) (by decide) ?_
      refine WPe_iload_n (pc := 28) 1 (dd dtX6_door 16 rfl) rfl ?_
      refine WPe_imul (pc := 29) (dd dtX6_door 17 rfl) ?_
      refine WPe_ck fun h10 => ?_
      refine WPe_iald (pc := 30) (dd dtX6_door 18 rfl) (shE h10.1) h10.2 ?_
      refine WPe_istore_n (pc := 31) (ls' := [(3, vI (wi z6.2 (wr z6.2 x0 3) (((3 : Int32) * x1)).toNatClampNeg)), (0, vR x0), (1, vI x1), (2, vI x2)]) (dd dtX6_door 19 rfl) (Nat.le_of_ble_eq_true rfl) rfl ?_
      refine WPe_iload_n (pc := 32) 0 (dd dtX6_door 20 rfl) rfl ?_
      refine WPe_iload_n (pc := 33) 3 (dd dtX6_door 21 rfl) rfl ?_
      refine WPe_icmp_ne (pc := 34) 40 (dd dtX6_door 22 rfl) (by decide) (fun h11 => ?_) (fun h11 => ?_)
      · refine WPe_bipush (pc := 37) (-3 : Int32) (dd dtX6_door 23 rfl) (by decide) ?_
        exact WPe_ireturn (pc := 39) (dd dtX6_door 24 rfl) rfl rfl ⟨(Nat.le_of_ble_eq_true rfl), (Nat.le_of_ble_eq_true rfl)⟩
      · refine WPe_iload_n (pc := 40) 0 (dd dtX6_door 25 rfl) rfl ?_
        refine WPe_iconst (pc := 41) (3 : Int32) (dd dtX6_door 26 rfl) (by decide) ?_
        refine WPe_icmp_eq (pc := 42) 50 (dd dtX6_door 27 rfl) (by decide) (fun h12 => ?_) (fun h12 => ?_)
        · refine WPe_sub [1, 2, 3, 0] rfl ?_
          exact wpj6_door_50 X w0  x0 x1 x2 (wi z6.2 (wr z6.2 x0 3) (((3 : Int32) * x1)).toNatClampNeg) z6.2
        · refine WPe_iload_n (pc := 45) 3 (dd dtX6_door 28 rfl) rfl ?_
          refine WPe_iconst (pc := 46) (3 : Int32) (dd dtX6_door 29 rfl) (by decide) ?_
          refine WPe_icmp_ne (pc := 47) 54 (dd dtX6_door 30 rfl) (by decide) (fun h21 => ?_) (fun h21 => ?_)
          · refine WPe_sub [1, 2, 3, 0] rfl ?_
            exact wpj6_door_50 X w0  x0 x1 x2 (wi z6.2 (wr z6.2 x0 3) (((3 : Int32) * x1)).toNatClampNeg) z6.2
          · refine WPe_sub [1, 2, 3, 0] rfl ?_
            exact wpj6_door_54 X w0  x0 x1 x2 (wi z6.2 (wr z6.2 x0 3) (((3 : Int32) * x1)).toNatClampNeg) z6.2
theorem okf6_door (x0 : Nat) (x1 : Int32) (x2 : Int32) (w : Wd) : ∀ z, f6_door x0 x1 x2 w = some z → OkM mX6_door 3 0 0 [vR x0, vI x1, vI x2] w (rtI z.1) z.2 :=
  OkM.of (rt := rtI) moX6_door (Nat.le_of_ble_eq_true rfl) (fun X => wpf6_door X w x0 x1 x2 w)
def tbX6_goesOut : List (Nat × Instr × Nat) := [(0, .aload_n 0, 1), (1, .iload_n 1, 1), (2, .invokevirtual 170, 3), (5, .istore_n 2, 1), (6, .aload_n 0, 1), (7, .iload_n 1, 1), (8, .invokevirtual 176, 3), (11, .istore_n 3, 1), (12, .aload_n 0, 1), (13, .getfield 16, 3), (16, .iconst 3, 1), (17, .iload_n 1, 1), (18, .imul, 1), (19, .iconst 1, 1), (20, .iadd, 1), (21, .aload_n 0, 1), (22, .getfield 16, 3), (25, .iconst 3, 1), (26, .iload_n 1, 1), (27, .imul, 1), (28, .iconst 1, 1), (29, .iadd, 1), (30, .iaload, 1), (31, .iload_n 2, 1), (32, .iadd, 1), (33, .iconst 0, 1), (34, .sipush 999, 3), (37, .invokestatic 161, 3), (40, .iastore, 1), (41, .aload_n 0, 1), (42, .getfield 16, 3), (45, .iconst 3, 1), (46, .iload_n 1, 1), (47, .imul, 1), (48, .iconst 2, 1), (49, .iadd, 1), (50, .aload_n 0, 1), (51, .getfield 16, 3), (54, .iconst 3, 1), (55, .iload_n 1, 1), (56, .imul, 1), (57, .iconst 2, 1), (58, .iadd, 1), (59, .iaload, 1), (60, .iload_n 3, 1), (61, .iadd, 1), (62, .iconst 0, 1), (63, .sipush 999, 3), (66, .invokestatic 161, 3), (69, .iastore, 1), (70, .aload_n 0, 1), (71, .getfield 16, 3), (74, .iconst 3, 1), (75, .iload_n 1, 1), (76, .imul, 1), (77, .iconst 1, 1), (78, .iadd, 1), (79, .iaload, 1), (80, .aload_n 0, 1), (81, .iload_n 1, 1), (82, .invokevirtual 173, 3), (85, .if_icmp .gt 5, 3), (88, .iconst 0, 1), (89, .ireturn, 1), (90, .aload_n 0, 1), (91, .getfield 16, 3), (94, .iconst 3, 1), (95, .iload_n 1, 1), (96, .imul, 1), (97, .iconst 3, 1), (98, .iastore, 1), (99, .aload_n 0, 1), (100, .invokevirtual 185, 3), (103, .iconst 1, 1), (104, .ireturn, 1)]
set_option maxRecDepth 20000 in
theorem dtX6_goesOut : ∀ x ∈ tbX6_goesOut, decode cX6_goesOut x.1 = .ok x.2 := by decide +kernel
noncomputable def f6_goesOut (x0 : Nat) (x1 : Int32) (w : Wd) : Option (Int32 × Wd) :=
  ck (tg w x0 = 6) ((f6_feelsOf x0 x1 w).bind fun z2 => ((f6_gladOf x0 x1 z2.2).bind fun z5 => (ck (tg z5.2 (wr z5.2 x0 3) = 20 ∧ vp_in (((3 : Int32) * x1) + (1 : Int32)) (ln z5.2 (wr z5.2 x0 3))) ((f6_within ((wi z5.2 (wr z5.2 x0 3) ((((3 : Int32) * x1) + (1 : Int32))).toNatClampNeg) + z2.1) (0 : Int32) (999 : Int32) z5.2).bind fun z9 => (ck (vp_in (((3 : Int32) * x1) + (1 : Int32)) (ln z9.2 (wr z5.2 x0 3))) (lw (sI z9.2 (wr z5.2 x0 3) ((((3 : Int32) * x1) + (1 : Int32))).toNatClampNeg z9.1) fun w13 => (ck (tg w13 (wr w13 x0 3) = 20 ∧ vp_in (((3 : Int32) * x1) + (2 : Int32)) (ln w13 (wr w13 x0 3))) ((f6_within ((wi w13 (wr w13 x0 3) ((((3 : Int32) * x1) + (2 : Int32))).toNatClampNeg) + z5.1) (0 : Int32) (999 : Int32) w13).bind fun z16 => (ck (vp_in (((3 : Int32) * x1) + (2 : Int32)) (ln z16.2 (wr w13 x0 3))) (lw (sI z16.2 (wr w13 x0 3) ((((3 : Int32) * x1) + (2 : Int32))).toNatClampNeg z16.1) fun w20 => (ck (tg w20 (wr w20 x0 3) = 20 ∧ vp_in (((3 : Int32) * x1) + (1 : Int32)) (ln w20 (wr w20 x0 3))) ((f6_bearsOf x0 x1 w20).bind fun z23 => (if z23.1 < (wi w20 (wr w20 x0 3) ((((3 : Int32) * x1) + (1 : Int32))).toNatClampNeg) then (ck (tg z23.2 (wr z23.2 x0 3) = 20 ∧ vp_in ((3 : Int32) * x1) (ln z23.2 (wr z23.2 x0 3))) (lw (sI z23.2 (wr z23.2 x0 3) (((3 : Int32) * x1)).toNatClampNeg (3 : Int32)) fun w28 => ((f6_lessSteam x0 w28).bind fun z30 => (some ((1 : Int32), z30.2))))) else (some ((0 : Int32), z23.2)))))))))))))))
theorem wpf6_goesOut (X : CX) (w0 : Wd) (x0 : Nat) (x1 : Int32) (w : Wd) : WPe rtI X (mX6_goesOut, 5, 0, 0, w0) 0 0 (f6_goesOut x0 x1 w) 0 [(0, vR x0), (1, vI x1)] [] w := by
  unfold f6_goesOut
  refine WPe_aload_n (pc := 0) 0 (dd dtX6_goesOut 0 rfl) rfl ?_
  refine WPe_iload_n (pc := 1) 1 (dd dtX6_goesOut 1 rfl) rfl ?_
  refine WPe_ck fun h1 => ?_
  refine WPe_callV (pc := 2) (rtc := rtI) (Mc := mX6_feelsOf) (d' := 4) (mc' := 0) (ms' := 0) [vI x1] [] rfl (dd dtX6_goesOut 2 rfl) (okf6_feelsOf x0 x1 w) moX6_feelsOf miX6_feelsOf (bw_mem4 220 rfl rfl) (Or.inl ⟨_, _, _, _, (shE h1), rfl⟩) rfl (Nat.le_of_ble_eq_true rfl) ⟨(Nat.le_of_ble_eq_true rfl), (Nat.le_of_ble_eq_true rfl)⟩ ⟨(Nat.le_of_ble_eq_true rfl), (Nat.le_of_ble_eq_true rfl)⟩ (fun z2 h3 e4 => ?_)
  refine WPe_st (st2 := [vI z2.1]) rfl ?_
  refine WPe_istore_n (pc := 5) (ls' := [(2, vI z2.1), (0, vR x0), (1, vI x1)]) (dd dtX6_goesOut 3 rfl) (Nat.le_of_ble_eq_true rfl) rfl ?_
  refine WPe_aload_n (pc := 6) 1 (dd dtX6_goesOut 4 rfl) rfl ?_
  refine WPe_iload_n (pc := 7) 2 (dd dtX6_goesOut 5 rfl) rfl ?_
  refine WPe_callV (pc := 8) (rtc := rtI) (Mc := mX6_gladOf) (d' := 4) (mc' := 0) (ms' := 0) [vI x1] [] rfl (dd dtX6_goesOut 6 rfl) (okf6_gladOf x0 x1 z2.2) moX6_gladOf miX6_gladOf (bw_mem4 228 rfl rfl) (Or.inl ⟨_, _, _, _, (e4.at (shE h1) (by decide)), rfl⟩) rfl (Nat.le_of_ble_eq_true rfl) ⟨(Nat.le_of_ble_eq_true rfl), (Nat.le_of_ble_eq_true rfl)⟩ ⟨(Nat.le_of_ble_eq_true rfl), (Nat.le_of_ble_eq_true rfl)⟩ (fun z5 h6 e7 => ?_)
  refine WPe_st (st2 := [vI z5.1]) rfl ?_
  refine WPe_istore_n (pc := 11) (ls' := [(3, vI z5.1), (2, vI z2.1), (0, vR x0), (1, vI x1)]) (dd dtX6_goesOut 7 rfl) (Nat.le_of_ble_eq_true rfl) rfl ?_
  refine WPe_aload_n (pc := 12) 2 (dd dtX6_goesOut 8 rfl) rfl ?_
  refine WPe_getR (pc := 13) (t := 6) (C := RX6) (T := TX6) 3 (dd dtX6_goesOut 9 rfl) (e7.at (e4.at (shE h1) (by decide)) (by decide)) rfl (Nat.le_of_ble_eq_true rfl) rfl (bw_mem4 56 rfl rfl) ?_
  refine WPe_iconst (pc := 16) (3 : Int32) (dd dtX6_goesOut 10 rfl) (by decide) ?_
  refine WPe_iload_n (pc := 17) 3 (dd dtX6_goesOut 11 rfl) rfl ?_
  refine WPe_imul (pc := 18) (dd dtX6_goesOut 12 rfl) ?_
  refine WPe_iconst (pc := 19) (1 : Int32) (dd dtX6_goesOut 13 rfl) (by decide) ?_
  refine WPe_iadd (pc := 20) (dd dtX6_goesOut 14 rfl) ?_
  refine WPe_aload_n (pc := 21) 2 (dd dtX6_goesOut 15 rfl) rfl ?_
  refine WPe_getR (pc := 22) (t := 6) (C := RX6) (T := TX6) 3 (dd dtX6_goesOut 16 rfl) (e7.at (e4.at (shE h1) (by decide)) (by decide)) rfl (Nat.le_of_ble_eq_true rfl) rfl (bw_mem4 56 rfl rfl) ?_
  refine WPe_iconst (pc := 25) (3 : Int32) (dd dtX6_goesOut 17 rfl) (by decide) ?_
  refine WPe_iload_n (pc := 26) 3 (dd dtX6_goesOut 18 rfl) rfl ?_
  refine WPe_imul (pc := 27) (dd dtX6_goesOut 19 rfl) ?_
  refine WPe_iconst (pc := 28) (1 : Int32) (dd dtX6_goesOut 20 rfl) (by decide) ?_
  refine WPe_iadd (pc := 29) (dd dtX6_goesOut 21 rfl) ?_
  refine WPe_ck fun h8 => ?_
  refine WPe_iald (pc := 30) (dd dtX6_goesOut 22 rfl) (shE h8.1) h8.2 ?_
  refine WPe_iload_n (pc := 31) 1 (dd dtX6_goesOut 23 rfl) rfl ?_
  refine WPe_iadd (pc := 32) (dd dtX6_goesOut 24 rfl) ?_
  refine WPe_iconst (pc := 33) (0 : Int32) (dd dtX6_goesOut 25 rfl) (by decide) ?_
  refine WPe_sipush (pc := 34) (999 : Int32) (dd dtX6_goesOut 26 rfl) (by decide) ?_
  refine WPe_callS (pc := 37) (rtc := rtI) (Mc := mX6_within) (d' := 1) (mc' := 0) (ms' := 0) [vI ((wi z5.2 (wr z5.2 x0 3) ((((3 : Int32) * x1) + (1 : Int32))).toNatClampNeg) + z2.1), vI (0 : Int32), vI (999 : Int32)] [vI (((3 : Int32) * x1) + (1 : Int32)), vR (wr z5.2 x0 3)] rfl (dd dtX6_goesOut 27 rfl) (okf6_within ((wi z5.2 (wr z5.2 x0 3) ((((3 : Int32) * x1) + (1 : Int32))).toNatClampNeg) + z2.1) (0 : Int32) (999 : Int32) z5.2) moX6_within msX6_within (bw_mem4 205 rfl rfl) rfl (Nat.le_of_ble_eq_true rfl) ⟨(Nat.le_of_ble_eq_true rfl), (Nat.le_of_ble_eq_true rfl)⟩ ⟨(Nat.le_of_ble_eq_true rfl), (Nat.le_of_ble_eq_true rfl)⟩ (fun z9 h10 e11 => ?_)
  refine WPe_st (st2 := [vI z9.1, vI (((3 : Int32) * x1) + (1 : Int32)), vR (wr z5.2 x0 3)]) rfl ?_
  refine WPe_ck fun h12 => ?_
  refine WPe_iast (pc := 40) (dd dtX6_goesOut 28 rfl) (shL (e11.at (shE h8.1) (by decide))) h12 ?_
  refine WPe_lw fun w13 e14 => ?_
  refine WPe_aload_n (pc := 41) 2 (dd dtX6_goesOut 29 rfl) rfl ?_
  refine WPe_getR (pc := 42) (t := 6) (C := RX6) (T := TX6) 3 (dd dtX6_goesOut 30 rfl) (shI e14 (e11.at (e7.at (e4.at (shE h1) (by decide)) (by decide)) (by decide))) rfl (Nat.le_of_ble_eq_true rfl) rfl (bw_mem4 56 rfl rfl) ?_
  refine WPe_iconst (pc := 45) (3 : Int32) (dd dtX6_goesOut 31 rfl) (by decide) ?_
  refine WPe_iload_n (pc := 46) 3 (dd dtX6_goesOut 32 rfl) rfl ?_
  refine WPe_imul (pc := 47) (dd dtX6_goesOut 33 rfl) ?_
  refine WPe_iconst (pc := 48) (2 : Int32) (dd dtX6_goesOut 34 rfl) (by decide) ?_
  refine WPe_iadd (pc := 49) (dd dtX6_goesOut 35 rfl) ?_
  refine WPe_aload_n (pc := 50) 2 (dd dtX6_goesOut 36 rfl) rfl ?_
  refine WPe_getR (pc := 51) (t := 6) (C := RX6) (T := TX6) 3 (dd dtX6_goesOut 37 rfl) (shI e14 (e11.at (e7.at (e4.at (shE h1) (by decide)) (by decide)) (by decide))) rfl (Nat.le_of_ble_eq_true rfl) rfl (bw_mem4 56 rfl rfl) ?_
  refine WPe_iconst (pc := 54) (3 : Int32) (dd dtX6_goesOut 38 rfl) (by decide) ?_
  refine WPe_iload_n (pc := 55) 3 (dd dtX6_goesOut 39 rfl) rfl ?_
  refine WPe_imul (pc := 56) (dd dtX6_goesOut 40 rfl) ?_
  refine WPe_iconst (pc := 57) (2 : Int32) (dd dtX6_goesOut 41 rfl) (by decide) ?_
  refine WPe_iadd (pc := 58) (dd dtX6_goesOut 42 rfl) ?_
  refine WPe_ck fun h15 => ?_
  refine WPe_iald (pc := 59) (dd dtX6_goesOut 43 rfl) (shE h15.1) h15.2 ?_
  refine WPe_iload_n (pc := 60) 0 (dd dtX6_goesOut 44 rfl) rfl ?_
  refine WPe_iadd (pc := 61) (dd dtX6_goesOut 45 rfl) ?_
  refine WPe_iconst (pc := 62) (0 : Int32) (dd dtX6_goesOut 46 rfl) (by decide) ?_
  refine WPe_sipush (pc := 63) (999 : Int32) (dd dtX6_goesOut 47 rfl) (by decide) ?_
  refine WPe_callS (pc := 66) (rtc := rtI) (Mc := mX6_within) (d' := 1) (mc' := 0) (ms' := 0) [vI ((wi w13 (wr w13 x0 3) ((((3 : Int32) * x1) + (2 : Int32))).toNatClampNeg) + z5.1), vI (0 : Int32), vI (999 : Int32)] [vI (((3 : Int32) * x1) + (2 : Int32)), vR (wr w13 x0 3)] rfl (dd dtX6_goesOut 48 rfl) (okf6_within ((wi w13 (wr w13 x0 3) ((((3 : Int32) * x1) + (2 : Int32))).toNatClampNeg) + z5.1) (0 : Int32) (999 : Int32) w13) moX6_within msX6_within (bw_mem4 205 rfl rfl) rfl (Nat.le_of_ble_eq_true rfl) ⟨(Nat.le_of_ble_eq_true rfl), (Nat.le_of_ble_eq_true rfl)⟩ ⟨(Nat.le_of_ble_eq_true rfl), (Nat.le_of_ble_eq_true rfl)⟩ (fun z16 h17 e18 => ?_)
  refine WPe_st (st2 := [vI z16.1, vI (((3 : Int32) * x1) + (2 : Int32)), vR (wr w13 x0 3)]) rfl ?_
  refine WPe_ck fun h19 => ?_
  refine WPe_iast (pc := 69) (dd dtX6_goesOut 49 rfl) (shL (e18.at (shE h15.1) (by decide))) h19 ?_
  refine WPe_lw fun w20 e21 => ?_
  refine WPe_aload_n (pc := 70) 2 (dd dtX6_goesOut 50 rfl) rfl ?_
  refine WPe_getR (pc := 71) (t := 6) (C := RX6) (T := TX6) 3 (dd dtX6_goesOut 51 rfl) (shI e21 (e18.at (shI e14 (e11.at (e7.at (e4.at (shE h1) (by decide)) (by decide)) (by decide))) (by decide))) rfl (Nat.le_of_ble_eq_true rfl) rfl (bw_mem4 56 rfl rfl) ?_
  refine WPe_iconst (pc := 74) (3 : Int32) (dd dtX6_goesOut 52 rfl) (by decide) ?_
  refine WPe_iload_n (pc := 75) 3 (dd dtX6_goesOut 53 rfl) rfl ?_
  refine WPe_imul (pc := 76) (dd dtX6_goesOut 54 rfl) ?_
  refine WPe_iconst (pc := 77) (1 : Int32) (dd dtX6_goesOut 55 rfl) (by decide) ?_
  refine WPe_iadd (pc := 78) (dd dtX6_goesOut 56 rfl) ?_
  refine WPe_ck fun h22 => ?_
  refine WPe_iald (pc := 79) (dd dtX6_goesOut 57 rfl) (shE h22.1) h22.2 ?_
  refine WPe_aload_n (pc := 80) 2 (dd dtX6_goesOut 58 rfl) rfl ?_
  refine WPe_iload_n (pc := 81) 3 (dd dtX6_goesOut 59 rfl) rfl ?_
  refine WPe_callV (pc := 82) (rtc := rtI) (Mc := mX6_bearsOf) (d' := 4) (mc' := 0) (ms' := 0) [vI x1] [vI (wi w20 (wr w20 x0 3) ((((3 : Int32) * x1) + (1 : Int32))).toNatClampNeg)] rfl (dd dtX6_goesOut 60 rfl) (okf6_bearsOf x0 x1 w20) moX6_bearsOf miX6_bearsOf (bw_mem4 224 rfl rfl) (Or.inl ⟨_, _, _, _, (shI e21 (e18.at (shI e14 (e11.at (e7.at (e4.at (shE h1) (by decide)) (by decide)) (by decide))) (by decide))), rfl⟩) rfl (Nat.le_of_ble_eq_true rfl) ⟨(Nat.le_of_ble_eq_true rfl), (Nat.le_of_ble_eq_true rfl)⟩ ⟨(Nat.le_of_ble_eq_true rfl), (Nat.le_of_ble_eq_true rfl)⟩ (fun z23 h24 e25 => ?_)
  refine WPe_st (st2 := [vI z23.1, vI (wi w20 (wr w20 x0 3) ((((3 : Int32) * x1) + (1 : Int32))).toNatClampNeg)]) rfl ?_
  refine WPe_icmp_gt (pc := 85) 90 (dd dtX6_goesOut 61 rfl) (by decide) (fun h26 => ?_) (fun h26 => ?_)
  · refine WPe_aload_n (pc := 90) 2 (dd dtX6_goesOut 64 rfl) rfl ?_
    refine WPe_getR (pc := 91) (t := 6) (C := RX6) (T := TX6) 3 (dd dtX6_goesOut 65 rfl) (e25.at (shI e21 (e18.at (shI e14 (e11.at (e7.at (e4.at (shE h1) (by decide)) (by decide)) (by decide))) (by decide))) (by decide)) rfl (Nat.le_of_ble_eq_true rfl) rfl (bw_mem4 56 rfl rfl) ?_
    refine WPe_iconst (pc := 94) (3 : Int32) (dd dtX6_goesOut 66 rfl) (by decide) ?_
    refine WPe_iload_n (pc := 95) 3 (dd dtX6_goesOut 67 rfl) rfl ?_
    refine WPe_imul (pc := 96) (dd dtX6_goesOut 68 rfl) ?_
    refine WPe_iconst (pc := 97) (3 : Int32) (dd dtX6_goesOut 69 rfl) (by decide) ?_
    refine WPe_ck fun h27 => ?_
    refine WPe_iast (pc := 98) (dd dtX6_goesOut 70 rfl) (shE h27.1) h27.2 ?_
    refine WPe_lw fun w28 e29 => ?_
    refine WPe_aload_n (pc := 99) 2 (dd dtX6_goesOut 71 rfl) rfl ?_
    refine WPe_callV (pc := 100) (rtc := rtV) (Mc := mX6_lessSteam) (d' := 1) (mc' := 0) (ms' := 0) [] [] rfl (dd dtX6_goesOut 72 rfl) (okf6_lessSteam x0 w28) moX6_lessSteam miX6_lessSteam (bw_mem5 12 rfl rfl) (Or.inl ⟨_, _, _, _, (shI e29 (e25.at (shI e21 (e18.at (shI e14 (e11.at (e7.at (e4.at (shE h1) (by decide)) (by decide)) (by decide))) (by decide))) (by decide))), rfl⟩) rfl (Nat.le_of_ble_eq_true rfl) ⟨(Nat.le_of_ble_eq_true rfl), (Nat.le_of_ble_eq_true rfl)⟩ ⟨(Nat.le_of_ble_eq_true rfl), (Nat.le_of_ble_eq_true rfl)⟩ (fun z30 h31 e32 => ?_)
    refine WPe_st (st2 := []) rfl ?_
    refine WPe_iconst (pc := 103) (1 : Int32) (dd dtX6_goesOut 73 rfl) (by decide) ?_
    exact WPe_zreturn (pc := 104) (ty := .boolean) (dd dtX6_goesOut 74 rfl) rfl rfl rfl ⟨(Nat.le_of_ble_eq_true rfl), (Nat.le_of_ble_eq_true rfl)⟩
  · refine WPe_iconst (pc := 88) (0 : Int32) (dd dtX6_goesOut 62 rfl) (by decide) ?_
    exact WPe_zreturn (pc := 89) (ty := .boolean) (dd dtX6_goesOut 63 rfl) rfl rfl rfl ⟨(Nat.le_of_ble_eq_true rfl), (Nat.le_of_ble_eq_true rfl)⟩
theorem okf6_goesOut (x0 : Nat) (x1 : Int32) (w : Wd) : ∀ z, f6_goesOut x0 x1 w = some z → OkM mX6_goesOut 5 0 0 [vR x0, vI x1] w (rtI z.1) z.2 :=
  OkM.of (rt := rtI) moX6_goesOut (Nat.le_of_ble_eq_true rfl) (fun X => wpf6_goesOut X w x0 x1 w)
def tbX6_minuteOf : List (Nat × Instr × Nat) := [(0, .iconst 0, 1), (1, .istore_n 1, 1), (2, .iconst 0, 1), (3, .istore_n 2, 1), (4, .iload_n 2, 1), (5, .aload_n 0, 1), (6, .getfield 72, 3), (9, .if_icmp .ge 78, 3), (12, .aload_n 0, 1), (13, .iload_n 2, 1), (14, .invokevirtual 79, 3), (17, .ifCond .eq 24, 3), (20, .iload_n 1, 1), (21, .aload_n 0, 1), (22, .iload_n 2, 1), (23, .invokevirtual 188, 3), (26, .ifCond .eq 9, 3), (29, .iconst 1, 1), (30, .iload_n 2, 1), (31, .ishl, 1), (32, .goto 4, 3), (35, .iconst 0, 1), (36, .ior, 1), (37, .istore_n 1, 1), (38, .goto 43, 3), (41, .aload_n 0, 1), (42, .getfield 16, 3), (45, .iconst 3, 1), (46, .iload_n 2, 1), (47, .imul, 1), (48, .iconst 1, 1), (49, .iadd, 1), (50, .aload_n 0, 1), (51, .getfield 16, 3), (54, .iconst 3, 1), (55, .iload_n 2, 1), (56, .imul, 1), (57, .iconst 1, 1), (58, .iadd, 1), (59, .iaload, 1), (60, .iconst 5, 1), (61, .if_icmp .ge 7, 3), (64, .iconst 0, 1), (65, .goto 15, 3), (68, .aload_n 0, 1), (69, .getfield 16, 3), (72, .iconst 3, 1), (73, .iload_n 2, 1), (74, .imul, 1), (75, .iconst 1, 1), (76, .iadd, 1), (77, .iaload, 1), (78, .iconst 5, 1), (79, .isub, 1), (80, .iastore, 1), (81, .iinc 2 1, 3), (84, .goto (-80), 3), (87, .aload_n 0, 1), (88, .invokevirtual 185, 3), (91, .aload_n 0, 1), (92, .getfield 19, 3), (95, .iconst 1, 1), (96, .aload_n 0, 1), (97, .getfield 19, 3), (100, .iconst 1, 1), (101, .iaload, 1), (102, .iconst 2, 1), (103, .if_icmp .ge 7, 3), (106, .iconst 0, 1), (107, .goto 11, 3), (110, .aload_n 0, 1), (111, .getfield 19, 3), (114, .iconst 1, 1), (115, .iaload, 1), (116, .iconst 2, 1), (117, .isub, 1), (118, .iastore, 1), (119, .aload_n 0, 1), (120, .getfield 19, 3), (123, .iconst 0, 1), (124, .dup2, 1), (125, .iaload, 1), (126, .iconst 1, 1), (127, .iadd, 1), (128, .iastore, 1), (129, .iload_n 1, 1), (130, .ireturn, 1)]
set_option maxRecDepth 20000 in
theorem dtX6_minuteOf : ∀ x ∈ tbX6_minuteOf, decode cX6_minuteOf x.1 = .ok x.2 := by decide +kernel
noncomputable def j6_minuteOf_118  (x0 : Nat) (x1 : Int32) (s0 : Int32) (s1 : Int32) (s2 : Nat) (w : Wd) : Option (Int32 × Wd) :=
  ck (tg w s2 = 20 ∧ vp_in s1 (ln w s2)) (lw (sI w s2 (s1).toNatClampNeg s0) fun w10 => (ck (tg w10 x0 = 6) (ck (tg w10 (wr w10 x0 4) = 20 ∧ vp_in (0 : Int32) (ln w10 (wr w10 x0 4))) (ck (vp_in (0 : Int32) (ln w10 (wr w10 x0 4))) (lw (sI w10 (wr w10 x0 4) ((0 : Int32)).toNatClampNeg ((wi w10 (wr w10 x0 4) ((0 : Int32)).toNatClampNeg) + (1 : Int32))) fun w15 => (some (x1, w15)))))))
theorem wpj6_minuteOf_118 (X : CX) (w0 : Wd)  (x0 : Nat) (x1 : Int32) (s0 : Int32) (s1 : Int32) (s2 : Nat) (w : Wd) : WPe rtI X (mX6_minuteOf, 6, 0, 0, w0) 0 0 (j6_minuteOf_118  x0 x1 s0 s1 s2 w) 118 [(0, vR x0), (1, vI x1)] [vI s0, vI s1, vR s2] w := by
  unfold j6_minuteOf_118
  refine WPe_ck fun h9 => ?_
  refine WPe_iast (pc := 118) (dd dtX6_minuteOf 76 rfl) (shE h9.1) h9.2 ?_
  refine WPe_lw fun w10 e11 => ?_
  refine WPe_aload_n (pc := 119) 0 (dd dtX6_minuteOf 77 rfl) rfl ?_
  refine WPe_ck fun h12 => ?_
  refine WPe_getR (pc := 120) (t := 6) (C := RX6) (T := TX6) 4 (dd dtX6_minuteOf 78 rfl) (shE h12) rfl (Nat.le_of_ble_eq_true rfl) rfl (bw_mem4 57 rfl rfl) ?_
  refine WPe_iconst (pc := 123) (0 : Int32) (dd dtX6_minuteOf 79 rfl) (by decide) ?_
  refine WPe_dup2 (pc := 124) (dd dtX6_minuteOf 80 rfl) rfl rfl ?_
  refine WPe_ck fun h13 => ?_
  refine WPe_iald (pc := 125) (dd dtX6_minuteOf 81 rfl) (shE h13.1) h13.2 ?_
  refine WPe_iconst (pc := 126) (1 : Int32) (dd dtX6_minuteOf 82 rfl) (by decide) ?_
  refine WPe_iadd (pc := 127) (dd dtX6_minuteOf 83 rfl) ?_
  refine WPe_ck fun h14 => ?_
  refine WPe_iast (pc := 128) (dd dtX6_minuteOf 84 rfl) (shL (shE h13.1)) h14 ?_
  refine WPe_lw fun w15 e16 => ?_
  refine WPe_iload_n (pc := 129) 1 (dd dtX6_minuteOf 85 rfl) rfl ?_
  exact WPe_ireturn (pc := 130) (dd dtX6_minuteOf 86 rfl) rfl rfl ⟨(Nat.le_of_ble_eq_true rfl), (Nat.le_of_ble_eq_true rfl)⟩
noncomputable def j6_minuteOf_81 (k4 : Nat × Int32 × Int32 → Wd → Option (Int32 × Wd)) (x0 : Nat) (x1 : Int32) (x2 : Int32) (w : Wd) : Option (Int32 × Wd) :=
  k4 (x0, x1, (x2 + (1 : Int32))) w
theorem wpj6_minuteOf_81 (X : CX) (w0 : Wd) (k4 : Nat × Int32 × Int32 → Wd → Option (Int32 × Wd)) (hk4 : ∀ (v : Nat × Int32 × Int32) (w : Wd), WPe rtI X (mX6_minuteOf, 6, 0, 0, w0) 0 0 (k4 v w) 4 [(0, vR v.1), (1, vI v.2.1), (2, vI v.2.2)] [] w) (x0 : Nat) (x1 : Int32) (x2 : Int32) (w : Wd) : WPe rtI X (mX6_minuteOf, 6, 0, 0, w0) 0 0 (j6_minuteOf_81 k4 x0 x1 x2 w) 81 [(0, vR x0), (1, vI x1), (2, vI x2)] [] w := by
  unfold j6_minuteOf_81
  refine WPe_iinc (pc := 81) (ls' := [(2, vI (x2 + (1 : Int32))), (0, vR x0), (1, vI x1)]) 2 (x2 + (1 : Int32)) (dd dtX6_minuteOf 55 rfl) rfl (congrArg (HAdd.hAdd _) (by decide : Int32.ofInt (1) = (1 : Int32))) (Nat.le_of_ble_eq_true rfl) rfl ?_
  refine WPe_goto (pc := 84) 4 (dd dtX6_minuteOf 56 rfl) (by decide) ?_
  refine WPe_sub [1, 2, 0] rfl ?_
  exact hk4 (x0, x1, (x2 + (1 : Int32))) w
noncomputable def j6_minuteOf_80 (k4 : Nat × Int32 × Int32 → Wd → Option (Int32 × Wd)) (x0 : Nat) (x1 : Int32) (x2 : Int32) (s0 : Int32) (s1 : Int32) (s2 : Nat) (w : Wd) : Option (Int32 × Wd) :=
  ck (tg w s2 = 20 ∧ vp_in s1 (ln w s2)) (lw (sI w s2 (s1).toNatClampNeg s0) fun w25 => (j6_minuteOf_81 k4 x0 x1 x2 w25))
theorem wpj6_minuteOf_80 (X : CX) (w0 : Wd) (k4 : Nat × Int32 × Int32 → Wd → Option (Int32 × Wd)) (hk4 : ∀ (v : Nat × Int32 × Int32) (w : Wd), WPe rtI X (mX6_minuteOf, 6, 0, 0, w0) 0 0 (k4 v w) 4 [(0, vR v.1), (1, vI v.2.1), (2, vI v.2.2)] [] w) (x0 : Nat) (x1 : Int32) (x2 : Int32) (s0 : Int32) (s1 : Int32) (s2 : Nat) (w : Wd) : WPe rtI X (mX6_minuteOf, 6, 0, 0, w0) 0 0 (j6_minuteOf_80 k4 x0 x1 x2 s0 s1 s2 w) 80 [(0, vR x0), (1, vI x1), (2, vI x2)] [vI s0, vI s1, vR s2] w := by
  unfold j6_minuteOf_80
  refine WPe_ck fun h24 => ?_
  refine WPe_iast (pc := 80) (dd dtX6_minuteOf 54 rfl) (shE h24.1) h24.2 ?_
  refine WPe_lw fun w25 e26 => ?_
  refine WPe_sub [0, 1, 2] rfl ?_
  exact wpj6_minuteOf_81 X w0 k4 hk4 x0 x1 x2 w25
noncomputable def j6_minuteOf_36 (k4 : Nat × Int32 × Int32 → Wd → Option (Int32 × Wd)) (x0 : Nat) (x2 : Int32) (s0 : Int32) (s1 : Int32) (w : Wd) : Option (Int32 × Wd) :=
  j6_minuteOf_81 k4 x0 (s1 ||| s0) x2 w
theorem wpj6_minuteOf_36 (X : CX) (w0 : Wd) (k4 : Nat × Int32 × Int32 → Wd → Option (Int32 × Wd)) (hk4 : ∀ (v : Nat × Int32 × Int32) (w : Wd), WPe rtI X (mX6_minuteOf, 6, 0, 0, w0) 0 0 (k4 v w) 4 [(0, vR v.1), (1, vI v.2.1), (2, vI v.2.2)] [] w) (x0 : Nat) (x2 : Int32) (s0 : Int32) (s1 : Int32) (w : Wd) : WPe rtI X (mX6_minuteOf, 6, 0, 0, w0) 0 0 (j6_minuteOf_36 k4 x0 x2 s0 s1 w) 36 [(0, vR x0), (2, vI x2)] [vI s0, vI s1] w := by
  unfold j6_minuteOf_36
  refine WPe_ior (pc := 36) (dd dtX6_minuteOf 22 rfl) ?_
  refine WPe_istore_n (pc := 37) (ls' := [(1, vI (s1 ||| s0)), (0, vR x0), (2, vI x2)]) (dd dtX6_minuteOf 23 rfl) (Nat.le_of_ble_eq_true rfl) rfl ?_
  refine WPe_goto (pc := 38) 81 (dd dtX6_minuteOf 24 rfl) (by decide) ?_
  refine WPe_sub [1, 0, 2] rfl ?_
  exact wpj6_minuteOf_81 X w0 k4 hk4 x0 (s1 ||| s0) x2 w
noncomputable def b6_minuteOf_4 (k4 : Nat × Int32 × Int32 → Wd → Option (Int32 × Wd)) (v : Nat × Int32 × Int32) (w : Wd) : Option (Int32 × Wd) :=
  ck (tg w v.1 = 6) (if (wi w v.1 0) ≤ v.2.2 then ((f6_lessSteam v.1 w).bind fun z3 => (ck (tg z3.2 (wr z3.2 v.1 4) = 20 ∧ vp_in (1 : Int32) (ln z3.2 (wr z3.2 v.1 4))) (if (2 : Int32) ≤ (wi z3.2 (wr z3.2 v.1 4) ((1 : Int32)).toNatClampNeg) then (ck (vp_in (1 : Int32) (ln z3.2 (wr z3.2 v.1 4))) (j6_minuteOf_118 v.1 v.2.1 ((wi z3.2 (wr z3.2 v.1 4) ((1 : Int32)).toNatClampNeg) - (2 : Int32)) (1 : Int32) (wr z3.2 v.1 4) z3.2)) else (j6_minuteOf_118 v.1 v.2.1 (0 : Int32) (1 : Int32) (wr z3.2 v.1 4) z3.2)))) else ((f6_isIn v.1 v.2.2 w).bind fun z17 => (if z17.1 = (0 : Int32) then (ck (tg z17.2 (wr z17.2 v.1 3) = 20 ∧ vp_in (((3 : Int32) * v.2.2) + (1 : Int32)) (ln z17.2 (wr z17.2 v.1 3))) (if (5 : Int32) ≤ (wi z17.2 (wr z17.2 v.1 3) ((((3 : Int32) * v.2.2) + (1 : Int32))).toNatClampNeg) then (ck (vp_in (((3 : Int32) * v.2.2) + (1 : Int32)) (ln z17.2 (wr z17.2 v.1 3))) (j6_minuteOf_80 k4 v.1 v.2.1 v.2.2 ((wi z17.2 (wr z17.2 v.1 3) ((((3 : Int32) * v.2.2) + (1 : Int32))).toNatClampNeg) - (5 : Int32)) (((3 : Int32) * v.2.2) + (1 : Int32)) (wr z17.2 v.1 3) z17.2)) else (j6_minuteOf_80 k4 v.1 v.2.1 v.2.2 (0 : Int32) (((3 : Int32) * v.2.2) + (1 : Int32)) (wr z17.2 v.1 3) z17.2))) else ((f6_goesOut v.1 v.2.2 z17.2).bind fun z27 => (if z27.1 = (0 : Int32) then (j6_minuteOf_36 k4 v.1 v.2.2 (0 : Int32) v.2.1 z27.2) else (j6_minuteOf_36 k4 v.1 v.2.2 ((1 : Int32) <<< (v.2.2 &&& 31)) v.2.1 z27.2))))))
theorem wpb6_minuteOf_4 (X : CX) (w0 : Wd) (k4 : Nat × Int32 × Int32 → Wd → Option (Int32 × Wd)) (hk4 : ∀ (v : Nat × Int32 × Int32) (w : Wd), WPe rtI X (mX6_minuteOf, 6, 0, 0, w0) 0 0 (k4 v w) 4 [(0, vR v.1), (1, vI v.2.1), (2, vI v.2.2)] [] w) (v : Nat × Int32 × Int32) (w : Wd) : WPe rtI X (mX6_minuteOf, 6, 0, 0, w0) 0 0 (b6_minuteOf_4 k4 v w) 4 [(0, vR v.1), (1, vI v.2.1), (2, vI v.2.2)] [] w := by
  unfold b6_minuteOf_4
  refine WPe_iload_n (pc := 4) 2 (dd dtX6_minuteOf 4 rfl) rfl ?_
  refine WPe_aload_n (pc := 5) 0 (dd dtX6_minuteOf 5 rfl) rfl ?_
  refine WPe_ck fun h1 => ?_
  refine WPe_getI (pc := 6) (t := 6) (C := RX6) (T := TX6) 0 (dd dtX6_minuteOf 6 rfl) (shE h1) rfl (Nat.le_of_ble_eq_true rfl) rfl (bw_mem4 53 rfl rfl) ?_
  refine WPe_icmp_ge (pc := 9) 87 (dd dtX6_minuteOf 7 rfl) (by decide) (fun h2 => ?_) (fun h2 => ?_)
  · refine WPe_aload_n (pc := 87) 0 (dd dtX6_minuteOf 57 rfl) rfl ?_
    refine WPe_callV (pc := 88) (rtc := rtV) (Mc := mX6_lessSteam) (d' := 1) (mc' := 0) (ms' := 0) [] [] rfl (dd dtX6_minuteOf 58 rfl) (okf6_lessSteam v.1 w) moX6_lessSteam miX6_lessSteam (bw_mem5 12 rfl rfl) (Or.inl ⟨_, _, _, _, (shE h1), rfl⟩) rfl (Nat.le_of_ble_eq_true rfl) ⟨(Nat.le_of_ble_eq_true rfl), (Nat.le_of_ble_eq_true rfl)⟩ ⟨(Nat.le_of_ble_eq_true rfl), (Nat.le_of_ble_eq_true rfl)⟩ (fun z3 h4 e5 => ?_)
    refine WPe_st (st2 := []) rfl ?_
    refine WPe_aload_n (pc := 91) 0 (dd dtX6_minuteOf 59 rfl) rfl ?_
    refine WPe_getR (pc := 92) (t := 6) (C := RX6) (T := TX6) 4 (dd dtX6_minuteOf 60 rfl) (e5.at (shE h1) (by decide)) rfl (Nat.le_of_ble_eq_true rfl) rfl (bw_mem4 57 rfl rfl) ?_
    refine WPe_iconst (pc := 95) (1 : Int32) (dd dtX6_minuteOf 61 rfl) (by decide) ?_
    refine WPe_aload_n (pc := 96) 0 (dd dtX6_minuteOf 62 rfl) rfl ?_
    refine WPe_getR (pc := 97) (t := 6) (C := RX6) (T := TX6) 4 (dd dtX6_minuteOf 63 rfl) (e5.at (shE h1) (by decide)) rfl (Nat.le_of_ble_eq_true rfl) rfl (bw_mem4 57 rfl rfl) ?_
    refine WPe_iconst (pc := 100) (1 : Int32) (dd dtX6_minuteOf 64 rfl) (by decide) ?_
    refine WPe_ck fun h6 => ?_
    refine WPe_iald (pc := 101) (dd dtX6_minuteOf 65 rfl) (shE h6.1) h6.2 ?_
    refine WPe_iconst (pc := 102) (2 : Int32) (dd dtX6_minuteOf 66 rfl) (by decide) ?_
    refine WPe_icmp_ge (pc := 103) 110 (dd dtX6_minuteOf 67 rfl) (by decide) (fun h7 => ?_) (fun h7 => ?_)
    · refine WPe_aload_n (pc := 110) 0 (dd dtX6_minuteOf 70 rfl) rfl ?_
      refine WPe_getR (pc := 111) (t := 6) (C := RX6) (T := TX6) 4 (dd dtX6_minuteOf 71 rfl) (e5.at (shE h1) (by decide)) rfl (Nat.le_of_ble_eq_true rfl) rfl (bw_mem4 57 rfl rfl) ?_
      refine WPe_iconst (pc := 114) (1 : Int32) (dd dtX6_minuteOf 72 rfl) (by decide) ?_
      refine WPe_ck fun h8 => ?_
      refine WPe_iald (pc := 115) (dd dtX6_minuteOf 73 rfl) (shL (shE h6.1)) h8 ?_
      refine WPe_iconst (pc := 116) (2 : Int32) (dd dtX6_minuteOf 74 rfl) (by decide) ?_
      refine WPe_isub (pc := 117) (dd dtX6_minuteOf 75 rfl) ?_
      refine WPe_sub [0, 1] rfl ?_
      exact wpj6_minuteOf_118 X w0  v.1 v.2.1 ((wi z3.2 (wr z3.2 v.1 4) ((1 : Int32)).toNatClampNeg) - (2 : Int32)) (1 : Int32) (wr z3.2 v.1 4) z3.2
    · refine WPe_iconst (pc := 106) (0 : Int32) (dd dtX6_minuteOf 68 rfl) (by decide) ?_
      refine WPe_goto (pc := 107) 118 (dd dtX6_minuteOf 69 rfl) (by decide) ?_
      refine WPe_sub [0, 1] rfl ?_
      exact wpj6_minuteOf_118 X w0  v.1 v.2.1 (0 : Int32) (1 : Int32) (wr z3.2 v.1 4) z3.2
  · refine WPe_aload_n (pc := 12) 0 (dd dtX6_minuteOf 8 rfl) rfl ?_
    refine WPe_iload_n (pc := 13) 2 (dd dtX6_minuteOf 9 rfl) rfl ?_
    refine WPe_callV (pc := 14) (rtc := rtI) (Mc := mX6_isIn) (d' := 1) (mc' := 0) (ms' := 0) [vI v.2.2] [] rfl (dd dtX6_minuteOf 10 rfl) (okf6_isIn v.1 v.2.2 w) moX6_isIn miX6_isIn (bw_mem4 158 rfl rfl) (Or.inl ⟨_, _, _, _, (shE h1), rfl⟩) rfl (Nat.le_of_ble_eq_true rfl) ⟨(Nat.le_of_ble_eq_true rfl), (Nat.le_of_ble_eq_true rfl)⟩ ⟨(Nat.le_of_ble_eq_true rfl), (Nat.le_of_ble_eq_true rfl)⟩ (fun z17 h18 e19 => ?_)
    refine WPe_st (st2 := [vI z17.1]) rfl ?_
    refine WPe_if_eq (pc := 17) 41 (dd dtX6_minuteOf 11 rfl) (by decide) (fun h20 => ?_) (fun h20 => ?_)
    · refine WPe_aload_n (pc := 41) 0 (dd dtX6_minuteOf 25 rfl) rfl ?_
      refine WPe_getR (pc := 42) (t := 6) (C := RX6) (T := TX6) 3 (dd dtX6_minuteOf 26 rfl) (e19.at (shE h1) (by decide)) rfl (Nat.le_of_ble_eq_true rfl) rfl (bw_mem4 56 rfl rfl) ?_
      refine WPe_iconst (pc := 45) (3 : Int32) (dd dtX6_minuteOf 27 rfl) (by decide) ?_
      refine WPe_iload_n (pc := 46) 2 (dd dtX6_minuteOf 28 rfl) rfl ?_
      refine WPe_imul (pc := 47) (dd dtX6_minuteOf 29 rfl) ?_
      refine WPe_iconst (pc := 48) (1 : Int32) (dd dtX6_minuteOf 30 rfl) (by decide) ?_
      refine WPe_iadd (pc := 49) (dd dtX6_minuteOf 31 rfl) ?_
      refine WPe_aload_n (pc := 50) 0 (dd dtX6_minuteOf 32 rfl) rfl ?_
      refine WPe_getR (pc := 51) (t := 6) (C := RX6) (T := TX6) 3 (dd dtX6_minuteOf 33 rfl) (e19.at (shE h1) (by decide)) rfl (Nat.le_of_ble_eq_true rfl) rfl (bw_mem4 56 rfl rfl) ?_
      refine WPe_iconst (pc := 54) (3 : Int32) (dd dtX6_minuteOf 34 rfl) (by decide) ?_
      refine WPe_iload_n (pc := 55) 2 (dd dtX6_minuteOf 35 rfl) rfl ?_
      refine WPe_imul (pc := 56) (dd dtX6_minuteOf 36 rfl) ?_
      refine WPe_iconst (pc := 57) (1 : Int32) (dd dtX6_minuteOf 37 rfl) (by decide) ?_
      refine WPe_iadd (pc := 58) (dd dtX6_minuteOf 38 rfl) ?_
      refine WPe_ck fun h21 => ?_
      refine WPe_iald (pc := 59) (dd dtX6_minuteOf 39 rfl) (shE h21.1) h21.2 ?_
      refine WPe_iconst (pc := 60) (5 : Int32) (dd dtX6_minuteOf 40 rfl) (by decide) ?_
      refine WPe_icmp_ge (pc := 61) 68 (dd dtX6_minuteOf 41 rfl) (by decide) (fun h22 => ?_) (fun h22 => ?_)
      · refine WPe_aload_n (pc := 68) 0 (dd dtX6_minuteOf 44 rfl) rfl ?_
        refine WPe_getR (pc := 69) (t := 6) (C := RX6) (T := TX6) 3 (dd dtX6_minuteOf 45 rfl) (e19.at (shE h1) (by decide)) rfl (Nat.le_of_ble_eq_true rfl) rfl (bw_mem4 56 rfl rfl) ?_
        refine WPe_iconst (pc := 72) (3 : Int32) (dd dtX6_minuteOf 46 rfl) (by decide) ?_
        refine WPe_iload_n (pc := 73) 2 (dd dtX6_minuteOf 47 rfl) rfl ?_
        refine WPe_imul (pc := 74) (dd dtX6_minuteOf 48 rfl) ?_
        refine WPe_iconst (pc := 75) (1 : Int32) (dd dtX6_minuteOf 49 rfl) (by decide) ?_
        refine WPe_iadd (pc := 76) (dd dtX6_minuteOf 50 rfl) ?_
        refine WPe_ck fun h23 => ?_
        refine WPe_iald (pc := 77) (dd dtX6_minuteOf 51 rfl) (shL (shE h21.1)) h23 ?_
        refine WPe_iconst (pc := 78) (5 : Int32) (dd dtX6_minuteOf 52 rfl) (by decide) ?_
        refine WPe_isub (pc := 79) (dd dtX6_minuteOf 53 rfl) ?_
        refine WPe_sub [0, 1, 2] rfl ?_
        exact wpj6_minuteOf_80 X w0 k4 hk4 v.1 v.2.1 v.2.2 ((wi z17.2 (wr z17.2 v.1 3) ((((3 : Int32) * v.2.2) + (1 : Int32))).toNatClampNeg) - (5 : Int32)) (((3 : Int32) * v.2.2) + (1 : Int32)) (wr z17.2 v.1 3) z17.2
      · refine WPe_iconst (pc := 64) (0 : Int32) (dd dtX6_minuteOf 42 rfl) (by decide) ?_
        refine WPe_goto (pc := 65) 80 (dd dtX6_minuteOf 43 rfl) (by decide) ?_
        refine WPe_sub [0, 1, 2] rfl ?_
        exact wpj6_minuteOf_80 X w0 k4 hk4 v.1 v.2.1 v.2.2 (0 : Int32) (((3 : Int32) * v.2.2) + (1 : Int32)) (wr z17.2 v.1 3) z17.2
    · refine WPe_iload_n (pc := 20) 1 (dd dtX6_minuteOf 12 rfl) rfl ?_
      refine WPe_aload_n (pc := 21) 0 (dd dtX6_minuteOf 13 rfl) rfl ?_
      refine WPe_iload_n (pc := 22) 2 (dd dtX6_minuteOf 14 rfl) rfl ?_
      refine WPe_callV (pc := 23) (rtc := rtI) (Mc := mX6_goesOut) (d' := 5) (mc' := 0) (ms' := 0) [vI v.2.2] [vI v.2.1] rfl (dd dtX6_minuteOf 15 rfl) (okf6_goesOut v.1 v.2.2 z17.2) moX6_goesOut miX6_goesOut (bw_mem5 24 rfl rfl) (Or.inl ⟨_, _, _, _, (e19.at (shE h1) (by decide)), rfl⟩) rfl (Nat.le_of_ble_eq_true rfl) ⟨(Nat.le_of_ble_eq_true rfl), (Nat.le_of_ble_eq_true rfl)⟩ ⟨(Nat.le_of_ble_eq_true rfl), (Nat.le_of_ble_eq_true rfl)⟩ (fun z27 h28 e29 => ?_)
      refine WPe_st (st2 := [vI z27.1, vI v.2.1]) rfl ?_
      refine WPe_if_eq (pc := 26) 35 (dd dtX6_minuteOf 16 rfl) (by decide) (fun h30 => ?_) (fun h30 => ?_)
      · refine WPe_iconst (pc := 35) (0 : Int32) (dd dtX6_minuteOf 21 rfl) (by decide) ?_
        refine WPe_sub [0, 2] rfl ?_
        exact wpj6_minuteOf_36 X w0 k4 hk4 v.1 v.2.2 (0 : Int32) v.2.1 z27.2
      · refine WPe_iconst (pc := 29) (1 : Int32) (dd dtX6_minuteOf 17 rfl) (by decide) ?_
        refine WPe_iload_n (pc := 30) 2 (dd dtX6_minuteOf 18 rfl) rfl ?_
        refine WPe_ishl (pc := 31) (dd dtX6_minuteOf 19 rfl) ?_
        refine WPe_goto (pc := 32) 36 (dd dtX6_minuteOf 20 rfl) (by decide) ?_
        refine WPe_sub [0, 2] rfl ?_
        exact wpj6_minuteOf_36 X w0 k4 hk4 v.1 v.2.2 ((1 : Int32) <<< (v.2.2 &&& 31)) v.2.1 z27.2
theorem wplb6_minuteOf_4 (X : CX) (w0 : Wd)  : ∀ (n9 : Nat) (v : Nat × Int32 × Int32) (w : Wd), WPe rtI X (mX6_minuteOf, 6, 0, 0, w0) 0 0 (loopF (b6_minuteOf_4 ) n9 v w) 4 [(0, vR v.1), (1, vI v.2.1), (2, vI v.2.2)] [] w :=
  WPe_loop (rt := rtI) (X := X) (M := (mX6_minuteOf, 6, 0, 0, w0)) (fun v : Nat × Int32 × Int32 => [(0, vR v.1), (1, vI v.2.1), (2, vI v.2.2)]) (fun k hk v w => wpb6_minuteOf_4 X w0  k hk v w)
noncomputable def f6_minuteOf (x0 : Nat) (w : Wd) : Option (Int32 × Wd) :=
  loopF (b6_minuteOf_4) FU (x0, (0 : Int32), (0 : Int32)) w
theorem wpf6_minuteOf (X : CX) (w0 : Wd) (x0 : Nat) (w : Wd) : WPe rtI X (mX6_minuteOf, 6, 0, 0, w0) 0 0 (f6_minuteOf x0 w) 0 [(0, vR x0)] [] w := by
  unfold f6_minuteOf
  refine WPe_iconst (pc := 0) (0 : Int32) (dd dtX6_minuteOf 0 rfl) (by decide) ?_
  refine WPe_istore_n (pc := 1) (ls' := [(1, vI (0 : Int32)), (0, vR x0)]) (dd dtX6_minuteOf 1 rfl) (Nat.le_of_ble_eq_true rfl) rfl ?_
  refine WPe_iconst (pc := 2) (0 : Int32) (dd dtX6_minuteOf 2 rfl) (by decide) ?_
  refine WPe_istore_n (pc := 3) (ls' := [(2, vI (0 : Int32)), (1, vI (0 : Int32)), (0, vR x0)]) (dd dtX6_minuteOf 3 rfl) (Nat.le_of_ble_eq_true rfl) rfl ?_
  refine WPe_sub [2, 1, 0] rfl ?_
  exact wplb6_minuteOf_4 X w0  FU _ _
theorem okf6_minuteOf (x0 : Nat) (w : Wd) : ∀ z, f6_minuteOf x0 w = some z → OkM mX6_minuteOf 6 0 0 [vR x0] w (rtI z.1) z.2 :=
  OkM.of (rt := rtI) moX6_minuteOf (Nat.le_of_ble_eq_true rfl) (fun X => wpf6_minuteOf X w x0 w)
def tbX6_minute : List (Nat × Instr × Nat) := [(0, .aload_n 0, 1), (1, .getfield 19, 3), (4, .iconst 0, 1), (5, .iaload, 1), (6, .sipush 999, 3), (9, .if_icmp .ne 8, 3), (12, .bipush (-3), 2), (14, .goto 7, 3), (17, .aload_n 0, 1), (18, .invokevirtual 191, 3), (21, .ireturn, 1)]
set_option maxRecDepth 20000 in
theorem dtX6_minute : ∀ x ∈ tbX6_minute, decode cX6_minute x.1 = .ok x.2 := by decide +kernel
noncomputable def f6_minute (x0 : Nat) (w : Wd) : Option (Int32 × Wd) :=
  ck (tg w x0 = 6) (ck (tg w (wr w x0 4) = 20 ∧ vp_in (0 : Int32) (ln w (wr w x0 4))) (if (wi w (wr w x0 4) ((0 : Int32)).toNatClampNeg) = (999 : Int32) then (some ((-3 : Int32), w)) else ((f6_minuteOf x0 w).bind fun z4 => (some (z4.1, z4.2)))))
theorem wpf6_minute (X : CX) (w0 : Wd) (x0 : Nat) (w : Wd) : WPe rtI X (mX6_minute, 7, 0, 0, w0) 0 0 (f6_minute x0 w) 0 [(0, vR x0)] [] w := by
  unfold f6_minute
  refine WPe_aload_n (pc := 0) 0 (dd dtX6_minute 0 rfl) rfl ?_
  refine WPe_ck fun h1 => ?_
  refine WPe_getR (pc := 1) (t := 6) (C := RX6) (T := TX6) 4 (dd dtX6_minute 1 rfl) (shE h1) rfl (Nat.le_of_ble_eq_true rfl) rfl (bw_mem4 57 rfl rfl) ?_
  refine WPe_iconst (pc := 4) (0 : Int32) (dd dtX6_minute 2 rfl) (by decide) ?_
  refine WPe_ck fun h2 => ?_
  refine WPe_iald (pc := 5) (dd dtX6_minute 3 rfl) (shE h2.1) h2.2 ?_
  refine WPe_sipush (pc := 6) (999 : Int32) (dd dtX6_minute 4 rfl) (by decide) ?_
  refine WPe_icmp_ne (pc := 9) 17 (dd dtX6_minute 5 rfl) (by decide) (fun h3 => ?_) (fun h3 => ?_)
  · refine WPe_bipush (pc := 12) (-3 : Int32) (dd dtX6_minute 6 rfl) (by decide) ?_
    refine WPe_goto (pc := 14) 21 (dd dtX6_minute 7 rfl) (by decide) ?_
    exact WPe_ireturn (pc := 21) (dd dtX6_minute 10 rfl) rfl rfl ⟨(Nat.le_of_ble_eq_true rfl), (Nat.le_of_ble_eq_true rfl)⟩
  · refine WPe_aload_n (pc := 17) 0 (dd dtX6_minute 8 rfl) rfl ?_
    refine WPe_callV (pc := 18) (rtc := rtI) (Mc := mX6_minuteOf) (d' := 6) (mc' := 0) (ms' := 0) [] [] rfl (dd dtX6_minute 9 rfl) (okf6_minuteOf x0 w) moX6_minuteOf miX6_minuteOf (bw_mem5 20 rfl rfl) (Or.inl ⟨_, _, _, _, (shE h1), rfl⟩) rfl (Nat.le_of_ble_eq_true rfl) ⟨(Nat.le_of_ble_eq_true rfl), (Nat.le_of_ble_eq_true rfl)⟩ ⟨(Nat.le_of_ble_eq_true rfl), (Nat.le_of_ble_eq_true rfl)⟩ (fun z4 h5 e6 => ?_)
    refine WPe_st (st2 := [vI z4.1]) rfl ?_
    exact WPe_ireturn (pc := 21) (dd dtX6_minute 10 rfl) rfl rfl ⟨(Nat.le_of_ble_eq_true rfl), (Nat.le_of_ble_eq_true rfl)⟩
theorem okf6_minute (x0 : Nat) (w : Wd) : ∀ z, f6_minute x0 w = some z → OkM mX6_minute 7 0 0 [vR x0] w (rtI z.1) z.2 :=
  OkM.of (rt := rtI) moX6_minute (Nat.le_of_ble_eq_true rfl) (fun X => wpf6_minute X w x0 w)
def tbX6_keeps : List (Nat × Instr × Nat) := [(0, .iconst 0, 1), (1, .istore_n 1, 1), (2, .iload_n 1, 1), (3, .bipush 18, 2), (5, .if_icmp .ge 21, 3), (8, .aload_n 0, 1), (9, .getfield 61, 3), (12, .iload_n 1, 1), (13, .aload_n 0, 1), (14, .getfield 16, 3), (17, .iload_n 1, 1), (18, .iaload, 1), (19, .iastore, 1), (20, .iinc 1 1, 3), (23, .goto (-21), 3), (26, .iconst 0, 1), (27, .istore_n 1, 1), (28, .iload_n 1, 1), (29, .iconst 4, 1), (30, .if_icmp .ge 24, 3), (33, .aload_n 0, 1), (34, .getfield 61, 3), (37, .bipush 18, 2), (39, .iload_n 1, 1), (40, .iadd, 1), (41, .aload_n 0, 1), (42, .getfield 19, 3), (45, .iload_n 1, 1), (46, .iaload, 1), (47, .iastore, 1), (48, .iinc 1 1, 3), (51, .goto (-23), 3), (54, .return_, 1)]
set_option maxRecDepth 20000 in
theorem dtX6_keeps : ∀ x ∈ tbX6_keeps, decode cX6_keeps x.1 = .ok x.2 := by decide +kernel
noncomputable def b6_keeps_28 (k28 : Nat × Int32 → Wd → Option (Unit × Wd)) (v : Nat × Int32) (w : Wd) : Option (Unit × Wd) :=
  if (4 : Int32) ≤ v.2 then (some ((), w)) else (ck (tg w v.1 = 6) (ck (tg w (wr w v.1 4) = 20 ∧ vp_in v.2 (ln w (wr w v.1 4))) (ck (tg w (wr w v.1 29) = 20 ∧ vp_in ((18 : Int32) + v.2) (ln w (wr w v.1 29))) (lw (sI w (wr w v.1 29) (((18 : Int32) + v.2)).toNatClampNeg (wi w (wr w v.1 4) (v.2).toNatClampNeg)) fun w6 => (k28 (v.1, (v.2 + (1 : Int32))) w6)))))
theorem wpb6_keeps_28 (X : CX) (w0 : Wd) (k28 : Nat × Int32 → Wd → Option (Unit × Wd)) (hk28 : ∀ (v : Nat × Int32) (w : Wd), WPe rtV X (mX6_keeps, 1, 0, 0, w0) 0 0 (k28 v w) 28 [(0, vR v.1), (1, vI v.2)] [] w) (v : Nat × Int32) (w : Wd) : WPe rtV X (mX6_keeps, 1, 0, 0, w0) 0 0 (b6_keeps_28 k28 v w) 28 [(0, vR v.1), (1, vI v.2)] [] w := by
  unfold b6_keeps_28
  refine WPe_iload_n (pc := 28) 1 (dd dtX6_keeps 17 rfl) rfl ?_
  refine WPe_iconst (pc := 29) (4 : Int32) (dd dtX6_keeps 18 rfl) (by decide) ?_
  refine WPe_icmp_ge (pc := 30) 54 (dd dtX6_keeps 19 rfl) (by decide) (fun h2 => ?_) (fun h2 => ?_)
  · exact WPe_return (pc := 54) (dd dtX6_keeps 32 rfl) rfl rfl ⟨(Nat.le_of_ble_eq_true rfl), (Nat.le_of_ble_eq_true rfl)⟩
  · refine WPe_aload_n (pc := 33) 0 (dd dtX6_keeps 20 rfl) rfl ?_
    refine WPe_ck fun h3 => ?_
    refine WPe_getR (pc := 34) (t := 6) (C := RX6) (T := TX6) 29 (dd dtX6_keeps 21 rfl) (shE h3) rfl (Nat.le_of_ble_eq_true rfl) rfl (bw_mem4 82 rfl rfl) ?_
    refine WPe_bipush (pc := 37) (18 : Int32) (dd dtX6_keeps 22 rfl) (by decide) ?_
    refine WPe_iload_n (pc := 39) 1 (dd dtX6_keeps 23 rfl) rfl ?_
    refine WPe_iadd (pc := 40) (dd dtX6_keeps 24 rfl) ?_
    refine WPe_aload_n (pc := 41) 0 (dd dtX6_keeps 25 rfl) rfl ?_
    refine WPe_getR (pc := 42) (t := 6) (C := RX6) (T := TX6) 4 (dd dtX6_keeps 26 rfl) (shE h3) rfl (Nat.le_of_ble_eq_true rfl) rfl (bw_mem4 57 rfl rfl) ?_
    refine WPe_iload_n (pc := 45) 1 (dd dtX6_keeps 27 rfl) rfl ?_
    refine WPe_ck fun h4 => ?_
    refine WPe_iald (pc := 46) (dd dtX6_keeps 28 rfl) (shE h4.1) h4.2 ?_
    refine WPe_ck fun h5 => ?_
    refine WPe_iast (pc := 47) (dd dtX6_keeps 29 rfl) (shE h5.1) h5.2 ?_
    refine WPe_lw fun w6 e7 => ?_
    refine WPe_iinc (pc := 48) (ls' := [(1, vI (v.2 + (1 : Int32))), (0, vR v.1)]) 1 (v.2 + (1 : Int32)) (dd dtX6_keeps 30 rfl) rfl (congrArg (HAdd.hAdd _) (by decide : Int32.ofInt (1) = (1 : Int32))) (Nat.le_of_ble_eq_true rfl) rfl ?_
    refine WPe_goto (pc := 51) 28 (dd dtX6_keeps 31 rfl) (by decide) ?_
    refine WPe_sub [1, 0] rfl ?_
    exact hk28 (v.1, (v.2 + (1 : Int32))) w6
theorem wplb6_keeps_28 (X : CX) (w0 : Wd)  : ∀ (n9 : Nat) (v : Nat × Int32) (w : Wd), WPe rtV X (mX6_keeps, 1, 0, 0, w0) 0 0 (loopF (b6_keeps_28 ) n9 v w) 28 [(0, vR v.1), (1, vI v.2)] [] w :=
  WPe_loop (rt := rtV) (X := X) (M := (mX6_keeps, 1, 0, 0, w0)) (fun v : Nat × Int32 => [(0, vR v.1), (1, vI v.2)]) (fun k hk v w => wpb6_keeps_28 X w0  k hk v w)
noncomputable def b6_keeps_2 (k2 : Nat × Int32 → Wd → Option (Unit × Wd)) (v : Nat × Int32) (w : Wd) : Option (Unit × Wd) :=
  if (18 : Int32) ≤ v.2 then (loopF (b6_keeps_28) FU (v.1, (0 : Int32)) w) else (ck (tg w v.1 = 6) (ck (tg w (wr w v.1 3) = 20 ∧ vp_in v.2 (ln w (wr w v.1 3))) (ck (tg w (wr w v.1 29) = 20 ∧ vp_in v.2 (ln w (wr w v.1 29))) (lw (sI w (wr w v.1 29) (v.2).toNatClampNeg (wi w (wr w v.1 3) (v.2).toNatClampNeg)) fun w11 => (k2 (v.1, (v.2 + (1 : Int32))) w11)))))
theorem wpb6_keeps_2 (X : CX) (w0 : Wd) (k2 : Nat × Int32 → Wd → Option (Unit × Wd)) (hk2 : ∀ (v : Nat × Int32) (w : Wd), WPe rtV X (mX6_keeps, 1, 0, 0, w0) 0 0 (k2 v w) 2 [(0, vR v.1), (1, vI v.2)] [] w) (v : Nat × Int32) (w : Wd) : WPe rtV X (mX6_keeps, 1, 0, 0, w0) 0 0 (b6_keeps_2 k2 v w) 2 [(0, vR v.1), (1, vI v.2)] [] w := by
  unfold b6_keeps_2
  refine WPe_iload_n (pc := 2) 1 (dd dtX6_keeps 2 rfl) rfl ?_
  refine WPe_bipush (pc := 3) (18 : Int32) (dd dtX6_keeps 3 rfl) (by decide) ?_
  refine WPe_icmp_ge (pc := 5) 26 (dd dtX6_keeps 4 rfl) (by decide) (fun h1 => ?_) (fun h1 => ?_)
  · refine WPe_iconst (pc := 26) (0 : Int32) (dd dtX6_keeps 15 rfl) (by decide) ?_
    refine WPe_istore_n (pc := 27) (ls' := [(1, vI (0 : Int32)), (0, vR v.1)]) (dd dtX6_keeps 16 rfl) (Nat.le_of_ble_eq_true rfl) rfl ?_
    refine WPe_sub [1, 0] rfl ?_
    exact wplb6_keeps_28 X w0  FU _ _
  · refine WPe_aload_n (pc := 8) 0 (dd dtX6_keeps 5 rfl) rfl ?_
    refine WPe_ck fun h8 => ?_
    refine WPe_getR (pc := 9) (t := 6) (C := RX6) (T := TX6) 29 (dd dtX6_keeps 6 rfl) (shE h8) rfl (Nat.le_of_ble_eq_true rfl) rfl (bw_mem4 82 rfl rfl) ?_
    refine WPe_iload_n (pc := 12) 1 (dd dtX6_keeps 7 rfl) rfl ?_
    refine WPe_aload_n (pc := 13) 0 (dd dtX6_keeps 8 rfl) rfl ?_
    refine WPe_getR (pc := 14) (t := 6) (C := RX6) (T := TX6) 3 (dd dtX6_keeps 9 rfl) (shE h8) rfl (Nat.le_of_ble_eq_true rfl) rfl (bw_mem4 56 rfl rfl) ?_
    refine WPe_iload_n (pc := 17) 1 (dd dtX6_keeps 10 rfl) rfl ?_
    refine WPe_ck fun h9 => ?_
    refine WPe_iald (pc := 18) (dd dtX6_keeps 11 rfl) (shE h9.1) h9.2 ?_
    refine WPe_ck fun h10 => ?_
    refine WPe_iast (pc := 19) (dd dtX6_keeps 12 rfl) (shE h10.1) h10.2 ?_
    refine WPe_lw fun w11 e12 => ?_
    refine WPe_iinc (pc := 20) (ls' := [(1, vI (v.2 + (1 : Int32))), (0, vR v.1)]) 1 (v.2 + (1 : Int32)) (dd dtX6_keeps 13 rfl) rfl (congrArg (HAdd.hAdd _) (by decide : Int32.ofInt (1) = (1 : Int32))) (Nat.le_of_ble_eq_true rfl) rfl ?_
    refine WPe_goto (pc := 23) 2 (dd dtX6_keeps 14 rfl) (by decide) ?_
    refine WPe_sub [1, 0] rfl ?_
    exact hk2 (v.1, (v.2 + (1 : Int32))) w11
theorem wplb6_keeps_2 (X : CX) (w0 : Wd)  : ∀ (n9 : Nat) (v : Nat × Int32) (w : Wd), WPe rtV X (mX6_keeps, 1, 0, 0, w0) 0 0 (loopF (b6_keeps_2 ) n9 v w) 2 [(0, vR v.1), (1, vI v.2)] [] w :=
  WPe_loop (rt := rtV) (X := X) (M := (mX6_keeps, 1, 0, 0, w0)) (fun v : Nat × Int32 => [(0, vR v.1), (1, vI v.2)]) (fun k hk v w => wpb6_keeps_2 X w0  k hk v w)
noncomputable def f6_keeps (x0 : Nat) (w : Wd) : Option (Unit × Wd) :=
  loopF (b6_keeps_2) FU (x0, (0 : Int32)) w
theorem wpf6_keeps (X : CX) (w0 : Wd) (x0 : Nat) (w : Wd) : WPe rtV X (mX6_keeps, 1, 0, 0, w0) 0 0 (f6_keeps x0 w) 0 [(0, vR x0)] [] w := by
  unfold f6_keeps
  refine WPe_iconst (pc := 0) (0 : Int32) (dd dtX6_keeps 0 rfl) (by decide) ?_
  refine WPe_istore_n (pc := 1) (ls' := [(1, vI (0 : Int32)), (0, vR x0)]) (dd dtX6_keeps 1 rfl) (Nat.le_of_ble_eq_true rfl) rfl ?_
  refine WPe_sub [1, 0] rfl ?_
  exact wplb6_keeps_2 X w0  FU _ _
theorem okf6_keeps (x0 : Nat) (w : Wd) : ∀ z, f6_keeps x0 w = some z → OkM mX6_keeps 1 0 0 [vR x0] w (rtV z.1) z.2 :=
  OkM.of (rt := rtV) moX6_keeps (Nat.le_of_ble_eq_true rfl) (fun X => wpf6_keeps X w x0 w)
def tbX6_lays : List (Nat × Instr × Nat) := [(0, .iconst 0, 1), (1, .istore_n 1, 1), (2, .iload_n 1, 1), (3, .bipush 18, 2), (5, .if_icmp .ge 21, 3), (8, .aload_n 0, 1), (9, .getfield 16, 3), (12, .iload_n 1, 1), (13, .aload_n 0, 1), (14, .getfield 61, 3), (17, .iload_n 1, 1), (18, .iaload, 1), (19, .iastore, 1), (20, .iinc 1 1, 3), (23, .goto (-21), 3), (26, .iconst 0, 1), (27, .istore_n 1, 1), (28, .iload_n 1, 1), (29, .iconst 4, 1), (30, .if_icmp .ge 24, 3), (33, .aload_n 0, 1), (34, .getfield 19, 3), (37, .iload_n 1, 1), (38, .aload_n 0, 1), (39, .getfield 61, 3), (42, .bipush 18, 2), (44, .iload_n 1, 1), (45, .iadd, 1), (46, .iaload, 1), (47, .iastore, 1), (48, .iinc 1 1, 3), (51, .goto (-23), 3), (54, .return_, 1)]
set_option maxRecDepth 20000 in
theorem dtX6_lays : ∀ x ∈ tbX6_lays, decode cX6_lays x.1 = .ok x.2 := by decide +kernel
noncomputable def b6_lays_28 (k28 : Nat × Int32 → Wd → Option (Unit × Wd)) (v : Nat × Int32) (w : Wd) : Option (Unit × Wd) :=
  if (4 : Int32) ≤ v.2 then (some ((), w)) else (ck (tg w v.1 = 6) (ck (tg w (wr w v.1 29) = 20 ∧ vp_in ((18 : Int32) + v.2) (ln w (wr w v.1 29))) (ck (tg w (wr w v.1 4) = 20 ∧ vp_in v.2 (ln w (wr w v.1 4))) (lw (sI w (wr w v.1 4) (v.2).toNatClampNeg (wi w (wr w v.1 29) (((18 : Int32) + v.2)).toNatClampNeg)) fun w6 => (k28 (v.1, (v.2 + (1 : Int32))) w6)))))
theorem wpb6_lays_28 (X : CX) (w0 : Wd) (k28 : Nat × Int32 → Wd → Option (Unit × Wd)) (hk28 : ∀ (v : Nat × Int32) (w : Wd), WPe rtV X (mX6_lays, 1, 0, 0, w0) 0 0 (k28 v w) 28 [(0, vR v.1), (1, vI v.2)] [] w) (v : Nat × Int32) (w : Wd) : WPe rtV X (mX6_lays, 1, 0, 0, w0) 0 0 (b6_lays_28 k28 v w) 28 [(0, vR v.1), (1, vI v.2)] [] w := by
  unfold b6_lays_28
  refine WPe_iload_n (pc := 28) 1 (dd dtX6_lays 17 rfl) rfl ?_
  refine WPe_iconst (pc := 29) (4 : Int32) (dd dtX6_lays 18 rfl) (by decide) ?_
  refine WPe_icmp_ge (pc := 30) 54 (dd dtX6_lays 19 rfl) (by decide) (fun h2 => ?_) (fun h2 => ?_)
  · exact WPe_return (pc := 54) (dd dtX6_lays 32 rfl) rfl rfl ⟨(Nat.le_of_ble_eq_true rfl), (Nat.le_of_ble_eq_true rfl)⟩
  · refine WPe_aload_n (pc := 33) 0 (dd dtX6_lays 20 rfl) rfl ?_
    refine WPe_ck fun h3 => ?_
    refine WPe_getR (pc := 34) (t := 6) (C := RX6) (T := TX6) 4 (dd dtX6_lays 21 rfl) (shE h3) rfl (Nat.le_of_ble_eq_true rfl) rfl (bw_mem4 57 rfl rfl) ?_
    refine WPe_iload_n (pc := 37) 1 (dd dtX6_lays 22 rfl) rfl ?_
    refine WPe_aload_n (pc := 38) 0 (dd dtX6_lays 23 rfl) rfl ?_
    refine WPe_getR (pc := 39) (t := 6) (C := RX6) (T := TX6) 29 (dd dtX6_lays 24 rfl) (shE h3) rfl (Nat.le_of_ble_eq_true rfl) rfl (bw_mem4 82 rfl rfl) ?_
    refine WPe_bipush (pc := 42) (18 : Int32) (dd dtX6_lays 25 rfl) (by decide) ?_
    refine WPe_iload_n (pc := 44) 1 (dd dtX6_lays 26 rfl) rfl ?_
    refine WPe_iadd (pc := 45) (dd dtX6_lays 27 rfl) ?_
    refine WPe_ck fun h4 => ?_
    refine WPe_iald (pc := 46) (dd dtX6_lays 28 rfl) (shE h4.1) h4.2 ?_
    refine WPe_ck fun h5 => ?_
    refine WPe_iast (pc := 47) (dd dtX6_lays 29 rfl) (shE h5.1) h5.2 ?_
    refine WPe_lw fun w6 e7 => ?_
    refine WPe_iinc (pc := 48) (ls' := [(1, vI (v.2 + (1 : Int32))), (0, vR v.1)]) 1 (v.2 + (1 : Int32)) (dd dtX6_lays 30 rfl) rfl (congrArg (HAdd.hAdd _) (by decide : Int32.ofInt (1) = (1 : Int32))) (Nat.le_of_ble_eq_true rfl) rfl ?_
    refine WPe_goto (pc := 51) 28 (dd dtX6_lays 31 rfl) (by decide) ?_
    refine WPe_sub [1, 0] rfl ?_
    exact hk28 (v.1, (v.2 + (1 : Int32))) w6
theorem wplb6_lays_28 (X : CX) (w0 : Wd)  : ∀ (n9 : Nat) (v : Nat × Int32) (w : Wd), WPe rtV X (mX6_lays, 1, 0, 0, w0) 0 0 (loopF (b6_lays_28 ) n9 v w) 28 [(0, vR v.1), (1, vI v.2)] [] w :=
  WPe_loop (rt := rtV) (X := X) (M := (mX6_lays, 1, 0, 0, w0)) (fun v : Nat × Int32 => [(0, vR v.1), (1, vI v.2)]) (fun k hk v w => wpb6_lays_28 X w0  k hk v w)
noncomputable def b6_lays_2 (k2 : Nat × Int32 → Wd → Option (Unit × Wd)) (v : Nat × Int32) (w : Wd) : Option (Unit × Wd) :=
  if (18 : Int32) ≤ v.2 then (loopF (b6_lays_28) FU (v.1, (0 : Int32)) w) else (ck (tg w v.1 = 6) (ck (tg w (wr w v.1 29) = 20 ∧ vp_in v.2 (ln w (wr w v.1 29))) (ck (tg w (wr w v.1 3) = 20 ∧ vp_in v.2 (ln w (wr w v.1 3))) (lw (sI w (wr w v.1 3) (v.2).toNatClampNeg (wi w (wr w v.1 29) (v.2).toNatClampNeg)) fun w11 => (k2 (v.1, (v.2 + (1 : Int32))) w11)))))
theorem wpb6_lays_2 (X : CX) (w0 : Wd) (k2 : Nat × Int32 → Wd → Option (Unit × Wd)) (hk2 : ∀ (v : Nat × Int32) (w : Wd), WPe rtV X (mX6_lays, 1, 0, 0, w0) 0 0 (k2 v w) 2 [(0, vR v.1), (1, vI v.2)] [] w) (v : Nat × Int32) (w : Wd) : WPe rtV X (mX6_lays, 1, 0, 0, w0) 0 0 (b6_lays_2 k2 v w) 2 [(0, vR v.1), (1, vI v.2)] [] w := by
  unfold b6_lays_2
  refine WPe_iload_n (pc := 2) 1 (dd dtX6_lays 2 rfl) rfl ?_
  refine WPe_bipush (pc := 3) (18 : Int32) (dd dtX6_lays 3 rfl) (by decide) ?_
  refine WPe_icmp_ge (pc := 5) 26 (dd dtX6_lays 4 rfl) (by decide) (fun h1 => ?_) (fun h1 => ?_)
  · refine WPe_iconst (pc := 26) (0 : Int32) (dd dtX6_lays 15 rfl) (by decide) ?_
    refine WPe_istore_n (pc := 27) (ls' := [(1, vI (0 : Int32)), (0, vR v.1)]) (dd dtX6_lays 16 rfl) (Nat.le_of_ble_eq_true rfl) rfl ?_
    refine WPe_sub [1, 0] rfl ?_
    exact wplb6_lays_28 X w0  FU _ _
  · refine WPe_aload_n (pc := 8) 0 (dd dtX6_lays 5 rfl) rfl ?_
    refine WPe_ck fun h8 => ?_
    refine WPe_getR (pc := 9) (t := 6) (C := RX6) (T := TX6) 3 (dd dtX6_lays 6 rfl) (shE h8) rfl (Nat.le_of_ble_eq_true rfl) rfl (bw_mem4 56 rfl rfl) ?_
    refine WPe_iload_n (pc := 12) 1 (dd dtX6_lays 7 rfl) rfl ?_
    refine WPe_aload_n (pc := 13) 0 (dd dtX6_lays 8 rfl) rfl ?_
    refine WPe_getR (pc := 14) (t := 6) (C := RX6) (T := TX6) 29 (dd dtX6_lays 9 rfl) (shE h8) rfl (Nat.le_of_ble_eq_true rfl) rfl (bw_mem4 82 rfl rfl) ?_
    refine WPe_iload_n (pc := 17) 1 (dd dtX6_lays 10 rfl) rfl ?_
    refine WPe_ck fun h9 => ?_
    refine WPe_iald (pc := 18) (dd dtX6_lays 11 rfl) (shE h9.1) h9.2 ?_
    refine WPe_ck fun h10 => ?_
    refine WPe_iast (pc := 19) (dd dtX6_lays 12 rfl) (shE h10.1) h10.2 ?_
    refine WPe_lw fun w11 e12 => ?_
    refine WPe_iinc (pc := 20) (ls' := [(1, vI (v.2 + (1 : Int32))), (0, vR v.1)]) 1 (v.2 + (1 : Int32)) (dd dtX6_lays 13 rfl) rfl (congrArg (HAdd.hAdd _) (by decide : Int32.ofInt (1) = (1 : Int32))) (Nat.le_of_ble_eq_true rfl) rfl ?_
    refine WPe_goto (pc := 23) 2 (dd dtX6_lays 14 rfl) (by decide) ?_
    refine WPe_sub [1, 0] rfl ?_
    exact hk2 (v.1, (v.2 + (1 : Int32))) w11
theorem wplb6_lays_2 (X : CX) (w0 : Wd)  : ∀ (n9 : Nat) (v : Nat × Int32) (w : Wd), WPe rtV X (mX6_lays, 1, 0, 0, w0) 0 0 (loopF (b6_lays_2 ) n9 v w) 2 [(0, vR v.1), (1, vI v.2)] [] w :=
  WPe_loop (rt := rtV) (X := X) (M := (mX6_lays, 1, 0, 0, w0)) (fun v : Nat × Int32 => [(0, vR v.1), (1, vI v.2)]) (fun k hk v w => wpb6_lays_2 X w0  k hk v w)
noncomputable def f6_lays (x0 : Nat) (w : Wd) : Option (Unit × Wd) :=
  loopF (b6_lays_2) FU (x0, (0 : Int32)) w
theorem wpf6_lays (X : CX) (w0 : Wd) (x0 : Nat) (w : Wd) : WPe rtV X (mX6_lays, 1, 0, 0, w0) 0 0 (f6_lays x0 w) 0 [(0, vR x0)] [] w := by
  unfold f6_lays
  refine WPe_iconst (pc := 0) (0 : Int32) (dd dtX6_lays 0 rfl) (by decide) ?_
  refine WPe_istore_n (pc := 1) (ls' := [(1, vI (0 : Int32)), (0, vR x0)]) (dd dtX6_lays 1 rfl) (Nat.le_of_ble_eq_true rfl) rfl ?_
  refine WPe_sub [1, 0] rfl ?_
  exact wplb6_lays_2 X w0  FU _ _
theorem okf6_lays (x0 : Nat) (w : Wd) : ∀ z, f6_lays x0 w = some z → OkM mX6_lays 1 0 0 [vR x0] w (rtV z.1) z.2 :=
  OkM.of (rt := rtV) moX6_lays (Nat.le_of_ble_eq_true rfl) (fun X => wpf6_lays X w x0 w)
def tbX6_goes : List (Nat × Instr × Nat) := [(0, .iconst 0, 1), (1, .istore_n 2, 1), (2, .iload_n 2, 1), (3, .iload_n 1, 1), (4, .if_icmp .ge 14, 3), (7, .aload_n 0, 1), (8, .invokevirtual 191, 3), (11, .pop, 1), (12, .iinc 2 1, 3), (15, .goto (-13), 3), (18, .return_, 1)]
set_option maxRecDepth 20000 in
theorem dtX6_goes : ∀ x ∈ tbX6_goes, decode cX6_goes x.1 = .ok x.2 := by decide +kernel
noncomputable def b6_goes_2 (k2 : Nat × Int32 × Int32 → Wd → Option (Unit × Wd)) (v : Nat × Int32 × Int32) (w : Wd) : Option (Unit × Wd) :=
  if v.2.1 ≤ v.2.2 then (some ((), w)) else (ck (tg w v.1 = 6) ((f6_minuteOf v.1 w).bind fun z3 => (k2 (v.1, v.2.1, (v.2.2 + (1 : Int32))) z3.2)))
theorem wpb6_goes_2 (X : CX) (w0 : Wd) (k2 : Nat × Int32 × Int32 → Wd → Option (Unit × Wd)) (hk2 : ∀ (v : Nat × Int32 × Int32) (w : Wd), WPe rtV X (mX6_goes, 7, 0, 0, w0) 0 0 (k2 v w) 2 [(0, vR v.1), (1, vI v.2.1), (2, vI v.2.2)] [] w) (v : Nat × Int32 × Int32) (w : Wd) : WPe rtV X (mX6_goes, 7, 0, 0, w0) 0 0 (b6_goes_2 k2 v w) 2 [(0, vR v.1), (1, vI v.2.1), (2, vI v.2.2)] [] w := by
  unfold b6_goes_2
  refine WPe_iload_n (pc := 2) 2 (dd dtX6_goes 2 rfl) rfl ?_
  refine WPe_iload_n (pc := 3) 1 (dd dtX6_goes 3 rfl) rfl ?_
  refine WPe_icmp_ge (pc := 4) 18 (dd dtX6_goes 4 rfl) (by decide) (fun h1 => ?_) (fun h1 => ?_)
  · exact WPe_return (pc := 18) (dd dtX6_goes 10 rfl) rfl rfl ⟨(Nat.le_of_ble_eq_true rfl), (Nat.le_of_ble_eq_true rfl)⟩
  · refine WPe_aload_n (pc := 7) 0 (dd dtX6_goes 5 rfl) rfl ?_
    refine WPe_ck fun h2 => ?_
    refine WPe_callV (pc := 8) (rtc := rtI) (Mc := mX6_minuteOf) (d' := 6) (mc' := 0) (ms' := 0) [] [] rfl (dd dtX6_goes 6 rfl) (okf6_minuteOf v.1 w) moX6_minuteOf miX6_minuteOf (bw_mem5 20 rfl rfl) (Or.inl ⟨_, _, _, _, (shE h2), rfl⟩) rfl (Nat.le_of_ble_eq_true rfl) ⟨(Nat.le_of_ble_eq_true rfl), (Nat.le_of_ble_eq_true rfl)⟩ ⟨(Nat.le_of_ble_eq_true rfl), (Nat.le_of_ble_eq_true rfl)⟩ (fun z3 h4 e5 => ?_)
    refine WPe_st (st2 := [vI z3.1]) rfl ?_
    refine WPe_pop (pc := 11) (dd dtX6_goes 7 rfl) rfl ?_
    refine WPe_iinc (pc := 12) (ls' := [(2, vI (v.2.2 + (1 : Int32))), (0, vR v.1), (1, vI v.2.1)]) 2 (v.2.2 + (1 : Int32)) (dd dtX6_goes 8 rfl) rfl (congrArg (HAdd.hAdd _) (by decide : Int32.ofInt (1) = (1 : Int32))) (Nat.le_of_ble_eq_true rfl) rfl ?_
    refine WPe_goto (pc := 15) 2 (dd dtX6_goes 9 rfl) (by decide) ?_
    refine WPe_sub [1, 2, 0] rfl ?_
    exact hk2 (v.1, v.2.1, (v.2.2 + (1 : Int32))) z3.2
theorem wplb6_goes_2 (X : CX) (w0 : Wd)  : ∀ (n9 : Nat) (v : Nat × Int32 × Int32) (w : Wd), WPe rtV X (mX6_goes, 7, 0, 0, w0) 0 0 (loopF (b6_goes_2 ) n9 v w) 2 [(0, vR v.1), (1, vI v.2.1), (2, vI v.2.2)] [] w :=
  WPe_loop (rt := rtV) (X := X) (M := (mX6_goes, 7, 0, 0, w0)) (fun v : Nat × Int32 × Int32 => [(0, vR v.1), (1, vI v.2.1), (2, vI v.2.2)]) (fun k hk v w => wpb6_goes_2 X w0  k hk v w)
noncomputable def f6_goes (x0 : Nat) (x1 : Int32) (w : Wd) : Option (Unit × Wd) :=
  loopF (b6_goes_2) FU (x0, x1, (0 : Int32)) w
theorem wpf6_goes (X : CX) (w0 : Wd) (x0 : Nat) (x1 : Int32) (w : Wd) : WPe rtV X (mX6_goes, 7, 0, 0, w0) 0 0 (f6_goes x0 x1 w) 0 [(0, vR x0), (1, vI x1)] [] w := by
  unfold f6_goes
  refine WPe_iconst (pc := 0) (0 : Int32) (dd dtX6_goes 0 rfl) (by decide) ?_
  refine WPe_istore_n (pc := 1) (ls' := [(2, vI (0 : Int32)), (0, vR x0), (1, vI x1)]) (dd dtX6_goes 1 rfl) (Nat.le_of_ble_eq_true rfl) rfl ?_
  refine WPe_sub [1, 2, 0] rfl ?_
  exact wplb6_goes_2 X w0  FU _ _
theorem okf6_goes (x0 : Nat) (x1 : Int32) (w : Wd) : ∀ z, f6_goes x0 x1 w = some z → OkM mX6_goes 7 0 0 [vR x0, vI x1] w (rtV z.1) z.2 :=
  OkM.of (rt := rtV) moX6_goes (Nat.le_of_ble_eq_true rfl) (fun X => wpf6_goes X w x0 x1 w)
def tbX6_toldBehind : List (Nat × Instr × Nat) := [(0, .iload_n 1, 1), (1, .iconst 4, 1), (2, .if_icmp .ge 40, 3), (5, .iload_n 1, 1), (6, .ifCond .ne 10, 3), (9, .aload_n 0, 1), (10, .invokevirtual 194, 3), (13, .goto 28, 3), (16, .iload_n 1, 1), (17, .iconst 1, 1), (18, .if_icmp .ne 10, 3), (21, .aload_n 0, 1), (22, .invokevirtual 86, 3), (25, .goto 16, 3), (28, .aload_n 0, 1), (29, .getfield 19, 3), (32, .iload_n 1, 1), (33, .iconst 1, 1), (34, .isub, 1), (35, .iconst 0, 1), (36, .iconst 3, 1), (37, .invokestatic 161, 3), (40, .iaload, 1), (41, .ireturn, 1), (42, .iload_n 1, 1), (43, .bipush 20, 2), (45, .if_icmp .ge 19, 3), (48, .aload_n 0, 1), (49, .getfield 16, 3), (52, .iconst 3, 1), (53, .iload_n 1, 1), (54, .bipush 10, 2), (56, .isub, 1), (57, .imul, 1), (58, .iconst 1, 1), (59, .iadd, 1), (60, .iaload, 1), (61, .goto 16, 3), (64, .aload_n 0, 1), (65, .getfield 16, 3), (68, .iconst 3, 1), (69, .iload_n 1, 1), (70, .bipush 20, 2), (72, .isub, 1), (73, .imul, 1), (74, .iconst 2, 1), (75, .iadd, 1), (76, .iaload, 1), (77, .ireturn, 1)]
set_option maxRecDepth 20000 in
theorem dtX6_toldBehind : ∀ x ∈ tbX6_toldBehind, decode cX6_toldBehind x.1 = .ok x.2 := by decide +kernel
noncomputable def f6_toldBehind (x0 : Nat) (x1 : Int32) (w : Wd) : Option (Int32 × Wd) :=
  if (4 : Int32) ≤ x1 then (if (20 : Int32) ≤ x1 then (ck (tg w x0 = 6) (ck (tg w (wr w x0 3) = 20 ∧ vp_in (((3 : Int32) * (x1 - (20 : Int32))) + (2 : Int32)) (ln w (wr w x0 3))) (some ((wi w (wr w x0 3) ((((3 : Int32) * (x1 - (20 : Int32))) + (2 : Int32))).toNatClampNeg), w)))) else (ck (tg w x0 = 6) (ck (tg w (wr w x0 3) = 20 ∧ vp_in (((3 : Int32) * (x1 - (10 : Int32))) + (1 : Int32)) (ln w (wr w x0 3))) (some ((wi w (wr w x0 3) ((((3 : Int32) * (x1 - (10 : Int32))) + (1 : Int32))).toNatClampNeg), w))))) else (if x1 = (0 : Int32) then (ck (tg w x0 = 6) ((f6_inSet x0 w).bind fun z9 => (some (z9.1, z9.2)))) else (if x1 = (1 : Int32) then (ck (tg w x0 = 6) ((f6_joyAll x0 w).bind fun z14 => (some (z14.1, z14.2)))) else (ck (tg w x0 = 6) ((f6_within (x1 - (1 : Int32)) (0 : Int32) (3 : Int32) w).bind fun z18 => (ck (tg z18.2 (wr w x0 4) = 20 ∧ vp_in z18.1 (ln z18.2 (wr w x0 4))) (some ((wi z18.2 (wr w x0 4) (z18.1).toNatClampNeg), z18.2)))))))
theorem wpf6_toldBehind (X : CX) (w0 : Wd) (x0 : Nat) (x1 : Int32) (w : Wd) : WPe rtI X (mX6_toldBehind, 3, 0, 0, w0) 0 0 (f6_toldBehind x0 x1 w) 0 [(0, vR x0), (1, vI x1)] [] w := by
  unfold f6_toldBehind
  refine WPe_iload_n (pc := 0) 1 (dd dtX6_toldBehind 0 rfl) rfl ?_
  refine WPe_iconst (pc := 1) (4 : Int32) (dd dtX6_toldBehind 1 rfl) (by decide) ?_
  refine WPe_icmp_ge (pc := 2) 42 (dd dtX6_toldBehind 2 rfl) (by decide) (fun h1 => ?_) (fun h1 => ?_)
  · refine WPe_iload_n (pc := 42) 1 (dd dtX6_toldBehind 24 rfl) rfl ?_
    refine WPe_bipush (pc := 43) (20 : Int32) (dd dtX6_toldBehind 25 rfl) (by decide) ?_
    refine WPe_icmp_ge (pc := 45) 64 (dd dtX6_toldBehind 26 rfl) (by decide) (fun h2 => ?_) (fun h2 => ?_)
    · refine WPe_aload_n (pc := 64) 0 (dd dtX6_toldBehind 38 rfl) rfl ?_
      refine WPe_ck fun h3 => ?_
      refine WPe_getR (pc := 65) (t := 6) (C := RX6) (T := TX6) 3 (dd dtX6_toldBehind 39 rfl) (shE h3) rfl (Nat.le_of_ble_eq_true rfl) rfl (bw_mem4 56 rfl rfl) ?_
      refine WPe_iconst (pc := 68) (3 : Int32) (dd dtX6_toldBehind 40 rfl) (by decide) ?_
      refine WPe_iload_n (pc := 69) 1 (dd dtX6_toldBehind 41 rfl) rfl ?_
      refine WPe_bipush (pc := 70) (20 : Int32) (dd dtX6_toldBehind 42 rfl) (by decide) ?_
      refine WPe_isub (pc := 72) (dd dtX6_toldBehind 43 rfl) ?_
      refine WPe_imul (pc := 73) (dd dtX6_toldBehind 44 rfl) ?_
      refine WPe_iconst (pc := 74) (2 : Int32) (dd dtX6_toldBehind 45 rfl) (by decide) ?_
      refine WPe_iadd (pc := 75) (dd dtX6_toldBehind 46 rfl) ?_
      refine WPe_ck fun h4 => ?_
      refine WPe_iald (pc := 76) (dd dtX6_toldBehind 47 rfl) (shE h4.1) h4.2 ?_
      exact WPe_ireturn (pc := 77) (dd dtX6_toldBehind 48 rfl) rfl rfl ⟨(Nat.le_of_ble_eq_true rfl), (Nat.le_of_ble_eq_true rfl)⟩
    · refine WPe_aload_n (pc := 48) 0 (dd dtX6_toldBehind 27 rfl) rfl ?_
      refine WPe_ck fun h5 => ?_
      refine WPe_getR (pc := 49) (t := 6) (C := RX6) (T := TX6) 3 (dd dtX6_toldBehind 28 rfl) (shE h5) rfl (Nat.le_of_ble_eq_true rfl) rfl (bw_mem4 56 rfl rfl) ?_
      refine WPe_iconst (pc := 52) (3 : Int32) (dd dtX6_toldBehind 29 rfl) (by decide) ?_
      refine WPe_iload_n (pc := 53) 1 (dd dtX6_toldBehind 30 rfl) rfl ?_
      refine WPe_bipush (pc := 54) (10 : Int32) (dd dtX6_toldBehind 31 rfl) (by decide) ?_
      refine WPe_isub (pc := 56) (dd dtX6_toldBehind 32 rfl) ?_
      refine WPe_imul (pc := 57) (dd dtX6_toldBehind 33 rfl) ?_
      refine WPe_iconst (pc := 58) (1 : Int32) (dd dtX6_toldBehind 34 rfl) (by decide) ?_
      refine WPe_iadd (pc := 59) (dd dtX6_toldBehind 35 rfl) ?_
      refine WPe_ck fun h6 => ?_
      refine WPe_iald (pc := 60) (dd dtX6_toldBehind 36 rfl) (shE h6.1) h6.2 ?_
      refine WPe_goto (pc := 61) 77 (dd dtX6_toldBehind 37 rfl) (by decide) ?_
      exact WPe_ireturn (pc := 77) (dd dtX6_toldBehind 48 rfl) rfl rfl ⟨(Nat.le_of_ble_eq_true rfl), (Nat.le_of_ble_eq_true rfl)⟩
  · refine WPe_iload_n (pc := 5) 1 (dd dtX6_toldBehind 3 rfl) rfl ?_
    refine WPe_if_ne (pc := 6) 16 (dd dtX6_toldBehind 4 rfl) (by decide) (fun h7 => ?_) (fun h7 => ?_)
    · refine WPe_aload_n (pc := 9) 0 (dd dtX6_toldBehind 5 rfl) rfl ?_
      refine WPe_ck fun h8 => ?_
      refine WPe_callV (pc := 10) (rtc := rtI) (Mc := mX6_inSet) (d' := 2) (mc' := 0) (ms' := 0) [] [] rfl (dd dtX6_toldBehind 6 rfl) (okf6_inSet x0 w) moX6_inSet miX6_inSet (bw_mem5 44 rfl rfl) (Or.inl ⟨_, _, _, _, (shE h8), rfl⟩) rfl (Nat.le_of_ble_eq_true rfl) ⟨(Nat.le_of_ble_eq_true rfl), (Nat.le_of_ble_eq_true rfl)⟩ ⟨(Nat.le_of_ble_eq_true rfl), (Nat.le_of_ble_eq_true rfl)⟩ (fun z9 h10 e11 => ?_)
      refine WPe_st (st2 := [vI z9.1]) rfl ?_
      refine WPe_goto (pc := 13) 41 (dd dtX6_toldBehind 7 rfl) (by decide) ?_
      exact WPe_ireturn (pc := 41) (dd dtX6_toldBehind 23 rfl) rfl rfl ⟨(Nat.le_of_ble_eq_true rfl), (Nat.le_of_ble_eq_true rfl)⟩
    · refine WPe_iload_n (pc := 16) 1 (dd dtX6_toldBehind 8 rfl) rfl ?_
      refine WPe_iconst (pc := 17) (1 : Int32) (dd dtX6_toldBehind 9 rfl) (by decide) ?_
      refine WPe_icmp_ne (pc := 18) 28 (dd dtX6_toldBehind 10 rfl) (by decide) (fun h12 => ?_) (fun h12 => ?_)
      · refine WPe_aload_n (pc := 21) 0 (dd dtX6_toldBehind 11 rfl) rfl ?_
        refine WPe_ck fun h13 => ?_
        refine WPe_callV (pc := 22) (rtc := rtI) (Mc := mX6_joyAll) (d' := 1) (mc' := 0) (ms' := 0) [] [] rfl (dd dtX6_toldBehind 12 rfl) (okf6_joyAll x0 w) moX6_joyAll miX6_joyAll (bw_mem4 162 rfl rfl) (Or.inl ⟨_, _, _, _, (shE h13), rfl⟩) rfl (Nat.le_of_ble_eq_true rfl) ⟨(Nat.le_of_ble_eq_true rfl), (Nat.le_of_ble_eq_true rfl)⟩ ⟨(Nat.le_of_ble_eq_true rfl), (Nat.le_of_ble_eq_true rfl)⟩ (fun z14 h15 e16 => ?_)
        refine WPe_st (st2 := [vI z14.1]) rfl ?_
        refine WPe_goto (pc := 25) 41 (dd dtX6_toldBehind 13 rfl) (by decide) ?_
        exact WPe_ireturn (pc := 41) (dd dtX6_toldBehind 23 rfl) rfl rfl ⟨(Nat.le_of_ble_eq_true rfl), (Nat.le_of_ble_eq_true rfl)⟩
      · refine WPe_aload_n (pc := 28) 0 (dd dtX6_toldBehind 14 rfl) rfl ?_
        refine WPe_ck fun h17 => ?_
        refine WPe_getR (pc := 29) (t := 6) (C := RX6) (T := TX6) 4 (dd dtX6_toldBehind 15 rfl) (shE h17) rfl (Nat.le_of_ble_eq_true rfl) rfl (bw_mem4 57 rfl rfl) ?_
        refine WPe_iload_n (pc := 32) 1 (dd dtX6_toldBehind 16 rfl) rfl ?_
        refine WPe_iconst (pc := 33) (1 : Int32) (dd dtX6_toldBehind 17 rfl) (by decide) ?_
        refine WPe_isub (pc := 34) (dd dtX6_toldBehind 18 rfl) ?_
        refine WPe_iconst (pc := 35) (0 : Int32) (dd dtX6_toldBehind 19 rfl) (by decide) ?_
        refine WPe_iconst (pc := 36) (3 : Int32) (dd dtX6_toldBehind 20 rfl) (by decide) ?_
        refine WPe_callS (pc := 37) (rtc := rtI) (Mc := mX6_within) (d' := 1) (mc' := 0) (ms' := 0) [vI (x1 - (1 : Int32)), vI (0 : Int32), vI (3 : Int32)] [vR (wr w x0 4)] rfl (dd dtX6_toldBehind 21 rfl) (okf6_within (x1 - (1 : Int32)) (0 : Int32) (3 : Int32) w) moX6_within msX6_within (bw_mem4 205 rfl rfl) rfl (Nat.le_of_ble_eq_true rfl) ⟨(Nat.le_of_ble_eq_true rfl), (Nat.le_of_ble_eq_true rfl)⟩ ⟨(Nat.le_of_ble_eq_true rfl), (Nat.le_of_ble_eq_true rfl)⟩ (fun z18 h19 e20 => ?_)
        refine WPe_st (st2 := [vI z18.1, vR (wr w x0 4)]) rfl ?_
        refine WPe_ck fun h21 => ?_
        refine WPe_iald (pc := 40) (dd dtX6_toldBehind 22 rfl) (shE h21.1) h21.2 ?_
        exact WPe_ireturn (pc := 41) (dd dtX6_toldBehind 23 rfl) rfl rfl ⟨(Nat.le_of_ble_eq_true rfl), (Nat.le_of_ble_eq_true rfl)⟩
theorem okf6_toldBehind (x0 : Nat) (x1 : Int32) (w : Wd) : ∀ z, f6_toldBehind x0 x1 w = some z → OkM mX6_toldBehind 3 0 0 [vR x0, vI x1] w (rtI z.1) z.2 :=
  OkM.of (rt := rtI) moX6_toldBehind (Nat.le_of_ble_eq_true rfl) (fun X => wpf6_toldBehind X w x0 x1 w)
def tbX6_run : List (Nat × Instr × Nat) := [(0, .iload_n 2, 1), (1, .iconst 0, 1), (2, .iconst 3, 1), (3, .invokestatic 75, 3), (6, .ifCond .ne 35, 3), (9, .iload_n 2, 1), (10, .bipush 10, 2), (12, .bipush 9, 2), (14, .aload_n 0, 1), (15, .getfield 72, 3), (18, .iadd, 1), (19, .invokestatic 75, 3), (22, .ifCond .ne 19, 3), (25, .iload_n 2, 1), (26, .bipush 20, 2), (28, .bipush 19, 2), (30, .aload_n 0, 1), (31, .getfield 72, 3), (34, .iadd, 1), (35, .invokestatic 75, 3), (38, .ifCond .eq 7, 3), (41, .iconst 1, 1), (42, .goto 4, 3), (45, .iconst 0, 1), (46, .istore_n 3, 1), (47, .iload_n 1, 1), (48, .iconst 0, 1), (49, .bipush 40, 2), (51, .invokestatic 75, 3), (54, .ifCond .eq 7, 3), (57, .iload_n 3, 1), (58, .ifCond .ne 6, 3), (61, .bipush (-2), 2), (63, .ireturn, 1), (64, .aload_n 0, 1), (65, .invokevirtual 197, 3), (68, .aload_n 0, 1), (69, .iload_n 1, 1), (70, .invokevirtual 200, 3), (73, .aload_n 0, 1), (74, .iload_n 2, 1), (75, .invokevirtual 203, 3), (78, .istore 4, 2), (80, .aload_n 0, 1), (81, .invokevirtual 206, 3), (84, .iload 4, 2), (86, .ireturn, 1)]
set_option maxRecDepth 20000 in
theorem dtX6_run : ∀ x ∈ tbX6_run, decode cX6_run x.1 = .ok x.2 := by decide +kernel
noncomputable def j6_run_46  (x0 : Nat) (x1 : Int32) (x2 : Int32) (s0 : Int32) (w : Wd) : Option (Int32 × Wd) :=
  (f6_in x1 (0 : Int32) (40 : Int32) w).bind fun z14 => (if z14.1 = (0 : Int32) then (some ((-2 : Int32), z14.2)) else (if s0 = (0 : Int32) then (some ((-2 : Int32), z14.2)) else (ck (tg z14.2 x0 = 6) ((f6_keeps x0 z14.2).bind fun z20 => ((f6_goes x0 x1 z20.2).bind fun z23 => ((f6_toldBehind x0 x2 z23.2).bind fun z26 => ((f6_lays x0 z26.2).bind fun z29 => (some (z26.1, z29.2)))))))))
theorem wpj6_run_46 (X : CX) (w0 : Wd)  (x0 : Nat) (x1 : Int32) (x2 : Int32) (s0 : Int32) (w : Wd) : WPe rtI X (mX6_run, 8, 0, 0, w0) 0 0 (j6_run_46  x0 x1 x2 s0 w) 46 [(0, vR x0), (1, vI x1), (2, vI x2)] [vI s0] w := by
  unfold j6_run_46
  refine WPe_istore_n (pc := 46) (ls' := [(3, vI s0), (0, vR x0), (1, vI x1), (2, vI x2)]) (dd dtX6_run 24 rfl) (Nat.le_of_ble_eq_true rfl) rfl ?_
  refine WPe_iload_n (pc := 47) 2 (dd dtX6_run 25 rfl) rfl ?_
  refine WPe_iconst (pc := 48) (0 : Int32) (dd dtX6_run 26 rfl) (by decide) ?_
  refine WPe_bipush (pc := 49) (40 : Int32) (dd dtX6_run 27 rfl) (by decide) ?_
  refine WPe_callS (pc := 51) (rtc := rtI) (Mc := mX6_in) (d' := 1) (mc' := 0) (ms' := 0) [vI x1, vI (0 : Int32), vI (40 : Int32)] [] rfl (dd dtX6_run 28 rfl) (okf6_in x1 (0 : Int32) (40 : Int32) w) moX6_in msX6_in (bw_mem4 14 rfl rfl) rfl (Nat.le_of_ble_eq_true rfl) ⟨(Nat.le_of_ble_eq_true rfl), (Nat.le_of_ble_eq_true rfl)⟩ ⟨(Nat.le_of_ble_eq_true rfl), (Nat.le_of_ble_eq_true rfl)⟩ (fun z14 h15 e16 => ?_)
  refine WPe_st (st2 := [vI z14.1]) rfl ?_
  refine WPe_if_eq (pc := 54) 61 (dd dtX6_run 29 rfl) (by decide) (fun h17 => ?_) (fun h17 => ?_)
  · refine WPe_bipush (pc := 61) (-2 : Int32) (dd dtX6_run 32 rfl) (by decide) ?_
    exact WPe_ireturn (pc := 63) (dd dtX6_run 33 rfl) rfl rfl ⟨(Nat.le_of_ble_eq_true rfl), (Nat.le_of_ble_eq_true rfl)⟩
  · refine WPe_iload_n (pc := 57) 0 (dd dtX6_run 30 rfl) rfl ?_
    refine WPe_if_ne (pc := 58) 64 (dd dtX6_run 31 rfl) (by decide) (fun h18 => ?_) (fun h18 => ?_)
    · refine WPe_bipush (pc := 61) (-2 : Int32) (dd dtX6_run 32 rfl) (by decide) ?_
      exact WPe_ireturn (pc := 63) (dd dtX6_run 33 rfl) rfl rfl ⟨(Nat.le_of_ble_eq_true rfl), (Nat.le_of_ble_eq_true rfl)⟩
    · refine WPe_aload_n (pc := 64) 1 (dd dtX6_run 34 rfl) rfl ?_
      refine WPe_ck fun h19 => ?_
      refine WPe_callV (pc := 65) (rtc := rtV) (Mc := mX6_keeps) (d' := 1) (mc' := 0) (ms' := 0) [] [] rfl (dd dtX6_run 35 rfl) (okf6_keeps x0 z14.2) moX6_keeps miX6_keeps (bw_mem5 32 rfl rfl) (Or.inl ⟨_, _, _, _, (shE h19), rfl⟩) rfl (Nat.le_of_ble_eq_true rfl) ⟨(Nat.le_of_ble_eq_true rfl), (Nat.le_of_ble_eq_true rfl)⟩ ⟨(Nat.le_of_ble_eq_true rfl), (Nat.le_of_ble_eq_true rfl)⟩ (fun z20 h21 e22 => ?_)
      refine WPe_st (st2 := []) rfl ?_
      refine WPe_aload_n (pc := 68) 1 (dd dtX6_run 36 rfl) rfl ?_
      refine WPe_iload_n (pc := 69) 2 (dd dtX6_run 37 rfl) rfl ?_
      refine WPe_callV (pc := 70) (rtc := rtV) (Mc := mX6_goes) (d' := 7) (mc' := 0) (ms' := 0) [vI x1] [] rfl (dd dtX6_run 38 rfl) (okf6_goes x0 x1 z20.2) moX6_goes miX6_goes (bw_mem5 36 rfl rfl) (Or.inl ⟨_, _, _, _, (e22.at (shE h19) (by decide)), rfl⟩) rfl (Nat.le_of_ble_eq_true rfl) ⟨(Nat.le_of_ble_eq_true rfl), (Nat.le_of_ble_eq_true rfl)⟩ ⟨(Nat.le_of_ble_eq_true rfl), (Nat.le_of_ble_eq_true rfl)⟩ (fun z23 h24 e25 => ?_)
      refine WPe_st (st2 := []) rfl ?_
      refine WPe_aload_n (pc := 73) 1 (dd dtX6_run 39 rfl) rfl ?_
      refine WPe_iload_n (pc := 74) 3 (dd dtX6_run 40 rfl) rfl ?_
      refine WPe_callV (pc := 75) (rtc := rtI) (Mc := mX6_toldBehind) (d' := 3) (mc' := 0) (ms' := 0) [vI x2] [] rfl (dd dtX6_run 41 rfl) (okf6_toldBehind x0 x2 z23.2) moX6_toldBehind miX6_toldBehind (bw_mem5 40 rfl rfl) (Or.inl ⟨_, _, _, _, (e25.at (e22.at (shE h19) (by decide)) (by decide)), rfl⟩) rfl (Nat.le_of_ble_eq_true rfl) ⟨(Nat.le_of_ble_eq_true rfl), (Nat.le_of_ble_eq_true rfl)⟩ ⟨(Nat.le_of_ble_eq_true rfl), (Nat.le_of_ble_eq_true rfl)⟩ (fun z26 h27 e28 => ?_)
      refine WPe_st (st2 := [vI z26.1]) rfl ?_
      refine WPe_istore (pc := 78) (ls' := [(4, vI z26.1), (3, vI s0), (0, vR x0), (1, vI x1), (2, vI x2)]) (dd dtX6_run 42 rfl) (Nat.le_of_ble_eq_true rfl) rfl ?_
      refine WPe_aload_n (pc := 80) 2 (dd dtX6_run 43 rfl) rfl ?_
      refine WPe_callV (pc := 81) (rtc := rtV) (Mc := mX6_lays) (d' := 1) (mc' := 0) (ms' := 0) [] [] rfl (dd dtX6_run 44 rfl) (okf6_lays x0 z26.2) moX6_lays miX6_lays (bw_mem5 48 rfl rfl) (Or.inl ⟨_, _, _, _, (e28.at (e25.at (e22.at (shE h19) (by decide)) (by decide)) (by decide)), rfl⟩) rfl (Nat.le_of_ble_eq_true rfl) ⟨(Nat.le_of_ble_eq_true rfl), (Nat.le_of_ble_eq_true rfl)⟩ ⟨(Nat.le_of_ble_eq_true rfl), (Nat.le_of_ble_eq_true rfl)⟩ (fun z29 h30 e31 => ?_)
      refine WPe_st (st2 := []) rfl ?_
      refine WPe_iload (pc := 84) 0 (dd dtX6_run 45 rfl) rfl ?_
      exact WPe_ireturn (pc := 86) (dd dtX6_run 46 rfl) rfl rfl ⟨(Nat.le_of_ble_eq_true rfl), (Nat.le_of_ble_eq_true rfl)⟩
noncomputable def j6_run_41  (x0 : Nat) (x1 : Int32) (x2 : Int32) (w : Wd) : Option (Int32 × Wd) :=
  j6_run_46 x0 x1 x2 (1 : Int32) w
theorem wpj6_run_41 (X : CX) (w0 : Wd)  (x0 : Nat) (x1 : Int32) (x2 : Int32) (w : Wd) : WPe rtI X (mX6_run, 8, 0, 0, w0) 0 0 (j6_run_41  x0 x1 x2 w) 41 [(0, vR x0), (1, vI x1), (2, vI x2)] [] w := by
  unfold j6_run_41
  refine WPe_iconst (pc := 41) (1 : Int32) (dd dtX6_run 21 rfl) (by decide) ?_
  refine WPe_goto (pc := 42) 46 (dd dtX6_run 22 rfl) (by decide) ?_
  refine WPe_sub [0, 1, 2] rfl ?_
  exact wpj6_run_46 X w0  x0 x1 x2 (1 : Int32) w
noncomputable def f6_run (x0 : Nat) (x1 : Int32) (x2 : Int32) (w : Wd) : Option (Int32 × Wd) :=
  (f6_in x2 (0 : Int32) (3 : Int32) w).bind fun z1 => (if z1.1 = (0 : Int32) then (ck (tg z1.2 x0 = 6) ((f6_in x2 (10 : Int32) ((9 : Int32) + (wi z1.2 x0 0)) z1.2).bind fun z6 => (if z6.1 = (0 : Int32) then ((f6_in x2 (20 : Int32) ((19 : Int32) + (wi z6.2 x0 0)) z6.2).bind fun z10 => (if z10.1 = (0 : Int32) then (j6_run_46 x0 x1 x2 (0 : Int32) z10.2) else (j6_run_41 x0 x1 x2 z10.2))) else (j6_run_41 x0 x1 x2 z6.2)))) else (j6_run_41 x0 x1 x2 z1.2))
theorem wpf6_run (X : CX) (w0 : Wd) (x0 : Nat) (x1 : Int32) (x2 : Int32) (w : Wd) : WPe rtI X (mX6_run, 8, 0, 0, w0) 0 0 (f6_run x0 x1 x2 w) 0 [(0, vR x0), (1, vI x1), (2, vI x2)] [] w := by
  unfold f6_run
  refine WPe_iload_n (pc := 0) 2 (dd dtX6_run 0 rfl) rfl ?_
  refine WPe_iconst (pc := 1) (0 : Int32) (dd dtX6_run 1 rfl) (by decide) ?_
  refine WPe_iconst (pc := 2) (3 : Int32) (dd dtX6_run 2 rfl) (by decide) ?_
  refine WPe_callS (pc := 3) (rtc := rtI) (Mc := mX6_in) (d' := 1) (mc' := 0) (ms' := 0) [vI x2, vI (0 : Int32), vI (3 : Int32)] [] rfl (dd dtX6_run 3 rfl) (okf6_in x2 (0 : Int32) (3 : Int32) w) moX6_in msX6_in (bw_mem4 14 rfl rfl) rfl (Nat.le_of_ble_eq_true rfl) ⟨(Nat.le_of_ble_eq_true rfl), (Nat.le_of_ble_eq_true rfl)⟩ ⟨(Nat.le_of_ble_eq_true rfl), (Nat.le_of_ble_eq_true rfl)⟩ (fun z1 h2 e3 => ?_)
  refine WPe_st (st2 := [vI z1.1]) rfl ?_
  refine WPe_if_ne (pc := 6) 41 (dd dtX6_run 4 rfl) (by decide) (fun h4 => ?_) (fun h4 => ?_)
  · refine WPe_iload_n (pc := 9) 2 (dd dtX6_run 5 rfl) rfl ?_
    refine WPe_bipush (pc := 10) (10 : Int32) (dd dtX6_run 6 rfl) (by decide) ?_
    refine WPe_bipush (pc := 12) (9 : Int32) (dd dtX6_run 7 rfl) (by decide) ?_
    refine WPe_aload_n (pc := 14) 0 (dd dtX6_run 8 rfl) rfl ?_
    refine WPe_ck fun h5 => ?_
    refine WPe_getI (pc := 15) (t := 6) (C := RX6) (T := TX6) 0 (dd dtX6_run 9 rfl) (shE h5) rfl (Nat.le_of_ble_eq_true rfl) rfl (bw_mem4 53 rfl rfl) ?_
    refine WPe_iadd (pc := 18) (dd dtX6_run 10 rfl) ?_
    refine WPe_callS (pc := 19) (rtc := rtI) (Mc := mX6_in) (d' := 1) (mc' := 0) (ms' := 0) [vI x2, vI (10 : Int32), vI ((9 : Int32) + (wi z1.2 x0 0))] [] rfl (dd dtX6_run 11 rfl) (okf6_in x2 (10 : Int32) ((9 : Int32) + (wi z1.2 x0 0)) z1.2) moX6_in msX6_in (bw_mem4 14 rfl rfl) rfl (Nat.le_of_ble_eq_true rfl) ⟨(Nat.le_of_ble_eq_true rfl), (Nat.le_of_ble_eq_true rfl)⟩ ⟨(Nat.le_of_ble_eq_true rfl), (Nat.le_of_ble_eq_true rfl)⟩ (fun z6 h7 e8 => ?_)
    refine WPe_st (st2 := [vI z6.1]) rfl ?_
    refine WPe_if_ne (pc := 22) 41 (dd dtX6_run 12 rfl) (by decide) (fun h9 => ?_) (fun h9 => ?_)
    · refine WPe_iload_n (pc := 25) 2 (dd dtX6_run 13 rfl) rfl ?_
      refine WPe_bipush (pc := 26) (20 : Int32) (dd dtX6_run 14 rfl) (by decide) ?_
      refine WPe_bipush (pc := 28) (19 : Int32) (dd dtX6_run 15 rfl) (by decide) ?_
      refine WPe_aload_n (pc := 30) 0 (dd dtX6_run 16 rfl) rfl ?_
      refine WPe_getI (pc := 31) (t := 6) (C := RX6) (T := TX6) 0 (dd dtX6_run 17 rfl) (e8.at (shE h5) (by decide)) rfl (Nat.le_of_ble_eq_true rfl) rfl (bw_mem4 53 rfl rfl) ?_
      refine WPe_iadd (pc := 34) (dd dtX6_run 18 rfl) ?_
      refine WPe_callS (pc := 35) (rtc := rtI) (Mc := mX6_in) (d' := 1) (mc' := 0) (ms' := 0) [vI x2, vI (20 : Int32), vI ((19 : Int32) + (wi z6.2 x0 0))] [] rfl (dd dtX6_run 19 rfl) (okf6_in x2 (20 : Int32) ((19 : Int32) + (wi z6.2 x0 0)) z6.2) moX6_in msX6_in (bw_mem4 14 rfl rfl) rfl (Nat.le_of_ble_eq_true rfl) ⟨(Nat.le_of_ble_eq_true rfl), (Nat.le_of_ble_eq_true rfl)⟩ ⟨(Nat.le_of_ble_eq_true rfl), (Nat.le_of_ble_eq_true rfl)⟩ (fun z10 h11 e12 => ?_)
      refine WPe_st (st2 := [vI z10.1]) rfl ?_
      refine WPe_if_eq (pc := 38) 45 (dd dtX6_run 20 rfl) (by decide) (fun h13 => ?_) (fun h13 => ?_)
      · refine WPe_iconst (pc := 45) (0 : Int32) (dd dtX6_run 23 rfl) (by decide) ?_
        refine WPe_sub [0, 1, 2] rfl ?_
        exact wpj6_run_46 X w0  x0 x1 x2 (0 : Int32) z10.2
      · refine WPe_sub [0, 1, 2] rfl ?_
        exact wpj6_run_41 X w0  x0 x1 x2 z10.2
    · refine WPe_sub [0, 1, 2] rfl ?_
      exact wpj6_run_41 X w0  x0 x1 x2 z6.2
  · refine WPe_sub [0, 1, 2] rfl ?_
    exact wpj6_run_41 X w0  x0 x1 x2 z1.2
theorem okf6_run (x0 : Nat) (x1 : Int32) (x2 : Int32) (w : Wd) : ∀ z, f6_run x0 x1 x2 w = some z → OkM mX6_run 8 0 0 [vR x0, vI x1, vI x2] w (rtI z.1) z.2 :=
  OkM.of (rt := rtI) moX6_run (Nat.le_of_ble_eq_true rfl) (fun X => wpf6_run X w x0 x1 x2 w)
def tbX6_leavesOf : List (Nat × Instr × Nat) := [(0, .iconst (-1), 1), (1, .istore_n 2, 1), (2, .aload_n 0, 1), (3, .invokevirtual 197, 3), (6, .iconst 0, 1), (7, .istore_n 3, 1), (8, .iload_n 3, 1), (9, .bipush 40, 2), (11, .if_icmp .gt 33, 3), (14, .iload_n 2, 1), (15, .iconst (-1), 1), (16, .if_icmp .ne 28, 3), (19, .aload_n 0, 1), (20, .iload_n 1, 1), (21, .invokevirtual 79, 3), (24, .ifCond .eq 7, 3), (27, .iconst (-1), 1), (28, .goto 4, 3), (31, .iload_n 3, 1), (32, .istore_n 2, 1), (33, .aload_n 0, 1), (34, .invokevirtual 191, 3), (37, .pop, 1), (38, .iinc 3 1, 3), (41, .goto (-33), 3), (44, .aload_n 0, 1), (45, .invokevirtual 206, 3), (48, .iload_n 2, 1), (49, .ireturn, 1)]
set_option maxRecDepth 20000 in
theorem dtX6_leavesOf : ∀ x ∈ tbX6_leavesOf, decode cX6_leavesOf x.1 = .ok x.2 := by decide +kernel
noncomputable def j6_leavesOf_44  (x0 : Nat) (x2 : Int32) (w : Wd) : Option (Int32 × Wd) :=
  ck (tg w x0 = 6) ((f6_lays x0 w).bind fun z7 => (some (x2, z7.2)))
theorem wpj6_leavesOf_44 (X : CX) (w0 : Wd)  (x0 : Nat) (x2 : Int32) (w : Wd) : WPe rtI X (mX6_leavesOf, 7, 0, 0, w0) 0 0 (j6_leavesOf_44  x0 x2 w) 44 [(0, vR x0), (2, vI x2)] [] w := by
  unfold j6_leavesOf_44
  refine WPe_aload_n (pc := 44) 0 (dd dtX6_leavesOf 25 rfl) rfl ?_
  refine WPe_ck fun h6 => ?_
  refine WPe_callV (pc := 45) (rtc := rtV) (Mc := mX6_lays) (d' := 1) (mc' := 0) (ms' := 0) [] [] rfl (dd dtX6_leavesOf 26 rfl) (okf6_lays x0 w) moX6_lays miX6_lays (bw_mem5 48 rfl rfl) (Or.inl ⟨_, _, _, _, (shE h6), rfl⟩) rfl (Nat.le_of_ble_eq_true rfl) ⟨(Nat.le_of_ble_eq_true rfl), (Nat.le_of_ble_eq_true rfl)⟩ ⟨(Nat.le_of_ble_eq_true rfl), (Nat.le_of_ble_eq_true rfl)⟩ (fun z7 h8 e9 => ?_)
  refine WPe_st (st2 := []) rfl ?_
  refine WPe_iload_n (pc := 48) 1 (dd dtX6_leavesOf 27 rfl) rfl ?_
  exact WPe_ireturn (pc := 49) (dd dtX6_leavesOf 28 rfl) rfl rfl ⟨(Nat.le_of_ble_eq_true rfl), (Nat.le_of_ble_eq_true rfl)⟩
noncomputable def j6_leavesOf_32 (k8 : Nat × Int32 × Int32 × Int32 → Wd → Option (Int32 × Wd)) (x0 : Nat) (x1 : Int32) (x3 : Int32) (s0 : Int32) (w : Wd) : Option (Int32 × Wd) :=
  ck (tg w x0 = 6) ((f6_minuteOf x0 w).bind fun z17 => (k8 (x0, x1, s0, (x3 + (1 : Int32))) z17.2))
theorem wpj6_leavesOf_32 (X : CX) (w0 : Wd) (k8 : Nat × Int32 × Int32 × Int32 → Wd → Option (Int32 × Wd)) (hk8 : ∀ (v : Nat × Int32 × Int32 × Int32) (w : Wd), WPe rtI X (mX6_leavesOf, 7, 0, 0, w0) 0 0 (k8 v w) 8 [(0, vR v.1), (1, vI v.2.1), (2, vI v.2.2.1), (3, vI v.2.2.2)] [] w) (x0 : Nat) (x1 : Int32) (x3 : Int32) (s0 : Int32) (w : Wd) : WPe rtI X (mX6_leavesOf, 7, 0, 0, w0) 0 0 (j6_leavesOf_32 k8 x0 x1 x3 s0 w) 32 [(0, vR x0), (1, vI x1), (3, vI x3)] [vI s0] w := by
  unfold j6_leavesOf_32
  refine WPe_istore_n (pc := 32) (ls' := [(2, vI s0), (0, vR x0), (1, vI x1), (3, vI x3)]) (dd dtX6_leavesOf 19 rfl) (Nat.le_of_ble_eq_true rfl) rfl ?_
  refine WPe_aload_n (pc := 33) 1 (dd dtX6_leavesOf 20 rfl) rfl ?_
  refine WPe_ck fun h16 => ?_
  refine WPe_callV (pc := 34) (rtc := rtI) (Mc := mX6_minuteOf) (d' := 6) (mc' := 0) (ms' := 0) [] [] rfl (dd dtX6_leavesOf 21 rfl) (okf6_minuteOf x0 w) moX6_minuteOf miX6_minuteOf (bw_mem5 20 rfl rfl) (Or.inl ⟨_, _, _, _, (shE h16), rfl⟩) rfl (Nat.le_of_ble_eq_true rfl) ⟨(Nat.le_of_ble_eq_true rfl), (Nat.le_of_ble_eq_true rfl)⟩ ⟨(Nat.le_of_ble_eq_true rfl), (Nat.le_of_ble_eq_true rfl)⟩ (fun z17 h18 e19 => ?_)
  refine WPe_st (st2 := [vI z17.1]) rfl ?_
  refine WPe_pop (pc := 37) (dd dtX6_leavesOf 22 rfl) rfl ?_
  refine WPe_iinc (pc := 38) (ls' := [(3, vI (x3 + (1 : Int32))), (2, vI s0), (0, vR x0), (1, vI x1)]) 3 (x3 + (1 : Int32)) (dd dtX6_leavesOf 23 rfl) rfl (congrArg (HAdd.hAdd _) (by decide : Int32.ofInt (1) = (1 : Int32))) (Nat.le_of_ble_eq_true rfl) rfl ?_
  refine WPe_goto (pc := 41) 8 (dd dtX6_leavesOf 24 rfl) (by decide) ?_
  refine WPe_sub [2, 3, 1, 0] rfl ?_
  exact hk8 (x0, x1, s0, (x3 + (1 : Int32))) z17.2
noncomputable def b6_leavesOf_8 (k8 : Nat × Int32 × Int32 × Int32 → Wd → Option (Int32 × Wd)) (v : Nat × Int32 × Int32 × Int32) (w : Wd) : Option (Int32 × Wd) :=
  if (40 : Int32) < v.2.2.2 then (j6_leavesOf_44 v.1 v.2.2.1 w) else (if v.2.2.1 = (-1 : Int32) then (ck (tg w v.1 = 6) ((f6_isIn v.1 v.2.1 w).bind fun z12 => (if z12.1 = (0 : Int32) then (j6_leavesOf_32 k8 v.1 v.2.1 v.2.2.2 v.2.2.2 z12.2) else (j6_leavesOf_32 k8 v.1 v.2.1 v.2.2.2 (-1 : Int32) z12.2)))) else (j6_leavesOf_44 v.1 v.2.2.1 w))
theorem wpb6_leavesOf_8 (X : CX) (w0 : Wd) (k8 : Nat × Int32 × Int32 × Int32 → Wd → Option (Int32 × Wd)) (hk8 : ∀ (v : Nat × Int32 × Int32 × Int32) (w : Wd), WPe rtI X (mX6_leavesOf, 7, 0, 0, w0) 0 0 (k8 v w) 8 [(0, vR v.1), (1, vI v.2.1), (2, vI v.2.2.1), (3, vI v.2.2.2)] [] w) (v : Nat × Int32 × Int32 × Int32) (w : Wd) : WPe rtI X (mX6_leavesOf, 7, 0, 0, w0) 0 0 (b6_leavesOf_8 k8 v w) 8 [(0, vR v.1), (1, vI v.2.1), (2, vI v.2.2.1), (3, vI v.2.2.2)] [] w := by
  unfold b6_leavesOf_8
  refine WPe_iload_n (pc := 8) 3 (dd dtX6_leavesOf 6 rfl) rfl ?_
  refine WPe_bipush (pc := 9) (40 : Int32) (dd dtX6_leavesOf 7 rfl) (by decide) ?_
  refine WPe_icmp_gt (pc := 11) 44 (dd dtX6_leavesOf 8 rfl) (by decide) (fun h5 => ?_) (fun h5 => ?_)
  · refine WPe_sub [0, 2] rfl ?_
    exact wpj6_leavesOf_44 X w0  v.1 v.2.2.1 w
  · refine WPe_iload_n (pc := 14) 2 (dd dtX6_leavesOf 9 rfl) rfl ?_
    refine WPe_iconst (pc := 15) (-1 : Int32) (dd dtX6_leavesOf 10 rfl) (by decide) ?_
    refine WPe_icmp_ne (pc := 16) 44 (dd dtX6_leavesOf 11 rfl) (by decide) (fun h10 => ?_) (fun h10 => ?_)
    · refine WPe_aload_n (pc := 19) 0 (dd dtX6_leavesOf 12 rfl) rfl ?_
      refine WPe_iload_n (pc := 20) 1 (dd dtX6_leavesOf 13 rfl) rfl ?_
      refine WPe_ck fun h11 => ?_
      refine WPe_callV (pc := 21) (rtc := rtI) (Mc := mX6_isIn) (d' := 1) (mc' := 0) (ms' := 0) [vI v.2.1] [] rfl (dd dtX6_leavesOf 14 rfl) (okf6_isIn v.1 v.2.1 w) moX6_isIn miX6_isIn (bw_mem4 158 rfl rfl) (Or.inl ⟨_, _, _, _, (shE h11), rfl⟩) rfl (Nat.le_of_ble_eq_true rfl) ⟨(Nat.le_of_ble_eq_true rfl), (Nat.le_of_ble_eq_true rfl)⟩ ⟨(Nat.le_of_ble_eq_true rfl), (Nat.le_of_ble_eq_true rfl)⟩ (fun z12 h13 e14 => ?_)
      refine WPe_st (st2 := [vI z12.1]) rfl ?_
      refine WPe_if_eq (pc := 24) 31 (dd dtX6_leavesOf 15 rfl) (by decide) (fun h15 => ?_) (fun h15 => ?_)
      · refine WPe_iload_n (pc := 31) 3 (dd dtX6_leavesOf 18 rfl) rfl ?_
        refine WPe_sub [0, 1, 3] rfl ?_
        exact wpj6_leavesOf_32 X w0 k8 hk8 v.1 v.2.1 v.2.2.2 v.2.2.2 z12.2
      · refine WPe_iconst (pc := 27) (-1 : Int32) (dd dtX6_leavesOf 16 rfl) (by decide) ?_
        refine WPe_goto (pc := 28) 32 (dd dtX6_leavesOf 17 rfl) (by decide) ?_
        refine WPe_sub [0, 1, 3] rfl ?_
        exact wpj6_leavesOf_32 X w0 k8 hk8 v.1 v.2.1 v.2.2.2 (-1 : Int32) z12.2
    · refine WPe_sub [0, 2] rfl ?_
      exact wpj6_leavesOf_44 X w0  v.1 v.2.2.1 w
theorem wplb6_leavesOf_8 (X : CX) (w0 : Wd)  : ∀ (n9 : Nat) (v : Nat × Int32 × Int32 × Int32) (w : Wd), WPe rtI X (mX6_leavesOf, 7, 0, 0, w0) 0 0 (loopF (b6_leavesOf_8 ) n9 v w) 8 [(0, vR v.1), (1, vI v.2.1), (2, vI v.2.2.1), (3, vI v.2.2.2)] [] w :=
  WPe_loop (rt := rtI) (X := X) (M := (mX6_leavesOf, 7, 0, 0, w0)) (fun v : Nat × Int32 × Int32 × Int32 => [(0, vR v.1), (1, vI v.2.1), (2, vI v.2.2.1), (3, vI v.2.2.2)]) (fun k hk v w => wpb6_leavesOf_8 X w0  k hk v w)
noncomputable def f6_leavesOf (x0 : Nat) (x1 : Int32) (w : Wd) : Option (Int32 × Wd) :=
  ck (tg w x0 = 6) ((f6_keeps x0 w).bind fun z2 => (loopF (b6_leavesOf_8) FU (x0, x1, (-1 : Int32), (0 : Int32)) z2.2))
theorem wpf6_leavesOf (X : CX) (w0 : Wd) (x0 : Nat) (x1 : Int32) (w : Wd) : WPe rtI X (mX6_leavesOf, 7, 0, 0, w0) 0 0 (f6_leavesOf x0 x1 w) 0 [(0, vR x0), (1, vI x1)] [] w := by
  unfold f6_leavesOf
  refine WPe_iconst (pc := 0) (-1 : Int32) (dd dtX6_leavesOf 0 rfl) (by decide) ?_
  refine WPe_istore_n (pc := 1) (ls' := [(2, vI (-1 : Int32)), (0, vR x0), (1, vI x1)]) (dd dtX6_leavesOf 1 rfl) (Nat.le_of_ble_eq_true rfl) rfl ?_
  refine WPe_aload_n (pc := 2) 1 (dd dtX6_leavesOf 2 rfl) rfl ?_
  refine WPe_ck fun h1 => ?_
  refine WPe_callV (pc := 3) (rtc := rtV) (Mc := mX6_keeps) (d' := 1) (mc' := 0) (ms' := 0) [] [] rfl (dd dtX6_leavesOf 3 rfl) (okf6_keeps x0 w) moX6_keeps miX6_keeps (bw_mem5 32 rfl rfl) (Or.inl ⟨_, _, _, _, (shE h1), rfl⟩) rfl (Nat.le_of_ble_eq_true rfl) ⟨(Nat.le_of_ble_eq_true rfl), (Nat.le_of_ble_eq_true rfl)⟩ ⟨(Nat.le_of_ble_eq_true rfl), (Nat.le_of_ble_eq_true rfl)⟩ (fun z2 h3 e4 => ?_)
  refine WPe_st (st2 := []) rfl ?_
  refine WPe_iconst (pc := 6) (0 : Int32) (dd dtX6_leavesOf 4 rfl) (by decide) ?_
  refine WPe_istore_n (pc := 7) (ls' := [(3, vI (0 : Int32)), (2, vI (-1 : Int32)), (0, vR x0), (1, vI x1)]) (dd dtX6_leavesOf 5 rfl) (Nat.le_of_ble_eq_true rfl) rfl ?_
  refine WPe_sub [2, 3, 1, 0] rfl ?_
  exact wplb6_leavesOf_8 X w0  FU _ _
theorem okf6_leavesOf (x0 : Nat) (x1 : Int32) (w : Wd) : ∀ z, f6_leavesOf x0 x1 w = some z → OkM mX6_leavesOf 7 0 0 [vR x0, vI x1] w (rtI z.1) z.2 :=
  OkM.of (rt := rtI) moX6_leavesOf (Nat.le_of_ble_eq_true rfl) (fun X => wpf6_leavesOf X w x0 x1 w)
def tbX6_leaves : List (Nat × Instr × Nat) := [(0, .aload_n 0, 1), (1, .iload_n 1, 1), (2, .invokevirtual 164, 3), (5, .ifCond .eq 11, 3), (8, .aload_n 0, 1), (9, .iload_n 1, 1), (10, .invokevirtual 209, 3), (13, .goto 5, 3), (16, .bipush (-5), 2), (18, .ireturn, 1)]
set_option maxRecDepth 20000 in
theorem dtX6_leaves : ∀ x ∈ tbX6_leaves, decode cX6_leaves x.1 = .ok x.2 := by decide +kernel
noncomputable def f6_leaves (x0 : Nat) (x1 : Int32) (w : Wd) : Option (Int32 × Wd) :=
  ck (tg w x0 = 6) ((f6_isOne x0 x1 w).bind fun z2 => (if z2.1 = (0 : Int32) then (some ((-5 : Int32), z2.2)) else ((f6_leavesOf x0 x1 z2.2).bind fun z6 => (some (z6.1, z6.2)))))
theorem wpf6_leaves (X : CX) (w0 : Wd) (x0 : Nat) (x1 : Int32) (w : Wd) : WPe rtI X (mX6_leaves, 8, 0, 0, w0) 0 0 (f6_leaves x0 x1 w) 0 [(0, vR x0), (1, vI x1)] [] w := by
  unfold f6_leaves
  refine WPe_aload_n (pc := 0) 0 (dd dtX6_leaves 0 rfl) rfl ?_
  refine WPe_iload_n (pc := 1) 1 (dd dtX6_leaves 1 rfl) rfl ?_
  refine WPe_ck fun h1 => ?_
  refine WPe_callV (pc := 2) (rtc := rtI) (Mc := mX6_isOne) (d' := 2) (mc' := 0) (ms' := 0) [vI x1] [] rfl (dd dtX6_leaves 2 rfl) (okf6_isOne x0 x1 w) moX6_isOne miX6_isOne (bw_mem4 190 rfl rfl) (Or.inl ⟨_, _, _, _, (shE h1), rfl⟩) rfl (Nat.le_of_ble_eq_true rfl) ⟨(Nat.le_of_ble_eq_true rfl), (Nat.le_of_ble_eq_true rfl)⟩ ⟨(Nat.le_of_ble_eq_true rfl), (Nat.le_of_ble_eq_true rfl)⟩ (fun z2 h3 e4 => ?_)
  refine WPe_st (st2 := [vI z2.1]) rfl ?_
  refine WPe_if_eq (pc := 5) 16 (dd dtX6_leaves 3 rfl) (by decide) (fun h5 => ?_) (fun h5 => ?_)
  · refine WPe_bipush (pc := 16) (-5 : Int32) (dd dtX6_leaves 8 rfl) (by decide) ?_
    exact WPe_ireturn (pc := 18) (dd dtX6_leaves 9 rfl) rfl rfl ⟨(Nat.le_of_ble_eq_true rfl), (Nat.le_of_ble_eq_true rfl)⟩
  · refine WPe_aload_n (pc := 8) 0 (dd dtX6_leaves 4 rfl) rfl ?_
    refine WPe_iload_n (pc := 9) 1 (dd dtX6_leaves 5 rfl) rfl ?_
    refine WPe_callV (pc := 10) (rtc := rtI) (Mc := mX6_leavesOf) (d' := 7) (mc' := 0) (ms' := 0) [vI x1] [] rfl (dd dtX6_leaves 6 rfl) (okf6_leavesOf x0 x1 z2.2) moX6_leavesOf miX6_leavesOf (bw_mem5 56 rfl rfl) (Or.inl ⟨_, _, _, _, (e4.at (shE h1) (by decide)), rfl⟩) rfl (Nat.le_of_ble_eq_true rfl) ⟨(Nat.le_of_ble_eq_true rfl), (Nat.le_of_ble_eq_true rfl)⟩ ⟨(Nat.le_of_ble_eq_true rfl), (Nat.le_of_ble_eq_true rfl)⟩ (fun z6 h7 e8 => ?_)
    refine WPe_st (st2 := [vI z6.1]) rfl ?_
    refine WPe_goto (pc := 13) 18 (dd dtX6_leaves 7 rfl) (by decide) ?_
    exact WPe_ireturn (pc := 18) (dd dtX6_leaves 9 rfl) rfl rfl ⟨(Nat.le_of_ble_eq_true rfl), (Nat.le_of_ble_eq_true rfl)⟩
theorem okf6_leaves (x0 : Nat) (x1 : Int32) (w : Wd) : ∀ z, f6_leaves x0 x1 w = some z → OkM mX6_leaves 8 0 0 [vR x0, vI x1] w (rtI z.1) z.2 :=
  OkM.of (rt := rtI) moX6_leaves (Nat.le_of_ble_eq_true rfl) (fun X => wpf6_leaves X w x0 x1 w)
def tbX6_together : List (Nat × Instr × Nat) := [(0, .aload_n 0, 1), (1, .invokevirtual 194, 3), (4, .istore_n 1, 1), (5, .iconst 0, 1), (6, .istore_n 2, 1), (7, .iconst 1, 1), (8, .istore_n 3, 1), (9, .aload_n 0, 1), (10, .invokevirtual 197, 3), (13, .iload_n 3, 1), (14, .ifCond .eq 43, 3), (17, .iload_n 2, 1), (18, .bipush 40, 2), (20, .if_icmp .ge 37, 3), (23, .aload_n 0, 1), (24, .invokevirtual 191, 3), (27, .pop, 1), (28, .aload_n 0, 1), (29, .invokevirtual 194, 3), (32, .iload_n 1, 1), (33, .if_icmp .ne 7, 3), (36, .iconst 1, 1), (37, .goto 4, 3), (40, .iconst 0, 1), (41, .istore_n 3, 1), (42, .iload_n 2, 1), (43, .iload_n 3, 1), (44, .ifCond .eq 7, 3), (47, .iconst 1, 1), (48, .goto 4, 3), (51, .iconst 0, 1), (52, .iadd, 1), (53, .istore_n 2, 1), (54, .goto (-41), 3), (57, .aload_n 0, 1), (58, .invokevirtual 206, 3), (61, .iload_n 2, 1), (62, .ireturn, 1)]
set_option maxRecDepth 20000 in
theorem dtX6_together : ∀ x ∈ tbX6_together, decode cX6_together x.1 = .ok x.2 := by decide +kernel
noncomputable def j6_together_57  (x0 : Nat) (x2 : Int32) (w : Wd) : Option (Int32 × Wd) :=
  ck (tg w x0 = 6) ((f6_lays x0 w).bind fun z10 => (some (x2, z10.2)))
theorem wpj6_together_57 (X : CX) (w0 : Wd)  (x0 : Nat) (x2 : Int32) (w : Wd) : WPe rtI X (mX6_together, 7, 0, 0, w0) 0 0 (j6_together_57  x0 x2 w) 57 [(0, vR x0), (2, vI x2)] [] w := by
  unfold j6_together_57
  refine WPe_aload_n (pc := 57) 0 (dd dtX6_together 34 rfl) rfl ?_
  refine WPe_ck fun h9 => ?_
  refine WPe_callV (pc := 58) (rtc := rtV) (Mc := mX6_lays) (d' := 1) (mc' := 0) (ms' := 0) [] [] rfl (dd dtX6_together 35 rfl) (okf6_lays x0 w) moX6_lays miX6_lays (bw_mem5 48 rfl rfl) (Or.inl ⟨_, _, _, _, (shE h9), rfl⟩) rfl (Nat.le_of_ble_eq_true rfl) ⟨(Nat.le_of_ble_eq_true rfl), (Nat.le_of_ble_eq_true rfl)⟩ ⟨(Nat.le_of_ble_eq_true rfl), (Nat.le_of_ble_eq_true rfl)⟩ (fun z10 h11 e12 => ?_)
  refine WPe_st (st2 := []) rfl ?_
  refine WPe_iload_n (pc := 61) 1 (dd dtX6_together 36 rfl) rfl ?_
  exact WPe_ireturn (pc := 62) (dd dtX6_together 37 rfl) rfl rfl ⟨(Nat.le_of_ble_eq_true rfl), (Nat.le_of_ble_eq_true rfl)⟩
noncomputable def j6_together_52 (k13 : Nat × Int32 × Int32 × Int32 → Wd → Option (Int32 × Wd)) (x0 : Nat) (x1 : Int32) (x3 : Int32) (s0 : Int32) (s1 : Int32) (w : Wd) : Option (Int32 × Wd) :=
  k13 (x0, x1, (s1 + s0), x3) w
theorem wpj6_together_52 (X : CX) (w0 : Wd) (k13 : Nat × Int32 × Int32 × Int32 → Wd → Option (Int32 × Wd)) (hk13 : ∀ (v : Nat × Int32 × Int32 × Int32) (w : Wd), WPe rtI X (mX6_together, 7, 0, 0, w0) 0 0 (k13 v w) 13 [(0, vR v.1), (1, vI v.2.1), (2, vI v.2.2.1), (3, vI v.2.2.2)] [] w) (x0 : Nat) (x1 : Int32) (x3 : Int32) (s0 : Int32) (s1 : Int32) (w : Wd) : WPe rtI X (mX6_together, 7, 0, 0, w0) 0 0 (j6_together_52 k13 x0 x1 x3 s0 s1 w) 52 [(0, vR x0), (1, vI x1), (3, vI x3)] [vI s0, vI s1] w := by
  unfold j6_together_52
  refine WPe_iadd (pc := 52) (dd dtX6_together 31 rfl) ?_
  refine WPe_istore_n (pc := 53) (ls' := [(2, vI (s1 + s0)), (0, vR x0), (1, vI x1), (3, vI x3)]) (dd dtX6_together 32 rfl) (Nat.le_of_ble_eq_true rfl) rfl ?_
  refine WPe_goto (pc := 54) 13 (dd dtX6_together 33 rfl) (by decide) ?_
  refine WPe_sub [1, 2, 0, 3] rfl ?_
  exact hk13 (x0, x1, (s1 + s0), x3) w
noncomputable def j6_together_41 (k13 : Nat × Int32 × Int32 × Int32 → Wd → Option (Int32 × Wd)) (x0 : Nat) (x1 : Int32) (x2 : Int32) (s0 : Int32) (w : Wd) : Option (Int32 × Wd) :=
  if s0 = (0 : Int32) then (j6_together_52 k13 x0 x1 s0 (0 : Int32) x2 w) else (j6_together_52 k13 x0 x1 s0 (1 : Int32) x2 w)
theorem wpj6_together_41 (X : CX) (w0 : Wd) (k13 : Nat × Int32 × Int32 × Int32 → Wd → Option (Int32 × Wd)) (hk13 : ∀ (v : Nat × Int32 × Int32 × Int32) (w : Wd), WPe rtI X (mX6_together, 7, 0, 0, w0) 0 0 (k13 v w) 13 [(0, vR v.1), (1, vI v.2.1), (2, vI v.2.2.1), (3, vI v.2.2.2)] [] w) (x0 : Nat) (x1 : Int32) (x2 : Int32) (s0 : Int32) (w : Wd) : WPe rtI X (mX6_together, 7, 0, 0, w0) 0 0 (j6_together_41 k13 x0 x1 x2 s0 w) 41 [(0, vR x0), (1, vI x1), (2, vI x2)] [vI s0] w := by
  unfold j6_together_41
  refine WPe_istore_n (pc := 41) (ls' := [(3, vI s0), (0, vR x0), (1, vI x1), (2, vI x2)]) (dd dtX6_together 24 rfl) (Nat.le_of_ble_eq_true rfl) rfl ?_
  refine WPe_iload_n (pc := 42) 3 (dd dtX6_together 25 rfl) rfl ?_
  refine WPe_iload_n (pc := 43) 0 (dd dtX6_together 26 rfl) rfl ?_
  refine WPe_if_eq (pc := 44) 51 (dd dtX6_together 27 rfl) (by decide) (fun h22 => ?_) (fun h22 => ?_)
  · refine WPe_iconst (pc := 51) (0 : Int32) (dd dtX6_together 30 rfl) (by decide) ?_
    refine WPe_sub [1, 2, 0] rfl ?_
    exact wpj6_together_52 X w0 k13 hk13 x0 x1 s0 (0 : Int32) x2 w
  · refine WPe_iconst (pc := 47) (1 : Int32) (dd dtX6_together 28 rfl) (by decide) ?_
    refine WPe_goto (pc := 48) 52 (dd dtX6_together 29 rfl) (by decide) ?_
    refine WPe_sub [1, 2, 0] rfl ?_
    exact wpj6_together_52 X w0 k13 hk13 x0 x1 s0 (1 : Int32) x2 w
noncomputable def b6_together_13 (k13 : Nat × Int32 × Int32 × Int32 → Wd → Option (Int32 × Wd)) (v : Nat × Int32 × Int32 × Int32) (w : Wd) : Option (Int32 × Wd) :=
  if v.2.2.2 = (0 : Int32) then (j6_together_57 v.1 v.2.2.1 w) else (if (40 : Int32) ≤ v.2.2.1 then (j6_together_57 v.1 v.2.2.1 w) else (ck (tg w v.1 = 6) ((f6_minuteOf v.1 w).bind fun z15 => ((f6_inSet v.1 z15.2).bind fun z18 => (if z18.1 = v.2.1 then (j6_together_41 k13 v.1 v.2.1 v.2.2.1 (1 : Int32) z18.2) else (j6_together_41 k13 v.1 v.2.1 v.2.2.1 (0 : Int32) z18.2))))))
theorem wpb6_together_13 (X : CX) (w0 : Wd) (k13 : Nat × Int32 × Int32 × Int32 → Wd → Option (Int32 × Wd)) (hk13 : ∀ (v : Nat × Int32 × Int32 × Int32) (w : Wd), WPe rtI X (mX6_together, 7, 0, 0, w0) 0 0 (k13 v w) 13 [(0, vR v.1), (1, vI v.2.1), (2, vI v.2.2.1), (3, vI v.2.2.2)] [] w) (v : Nat × Int32 × Int32 × Int32) (w : Wd) : WPe rtI X (mX6_together, 7, 0, 0, w0) 0 0 (b6_together_13 k13 v w) 13 [(0, vR v.1), (1, vI v.2.1), (2, vI v.2.2.1), (3, vI v.2.2.2)] [] w := by
  unfold b6_together_13
  refine WPe_iload_n (pc := 13) 3 (dd dtX6_together 9 rfl) rfl ?_
  refine WPe_if_eq (pc := 14) 57 (dd dtX6_together 10 rfl) (by decide) (fun h8 => ?_) (fun h8 => ?_)
  · refine WPe_sub [0, 2] rfl ?_
    exact wpj6_together_57 X w0  v.1 v.2.2.1 w
  · refine WPe_iload_n (pc := 17) 2 (dd dtX6_together 11 rfl) rfl ?_
    refine WPe_bipush (pc := 18) (40 : Int32) (dd dtX6_together 12 rfl) (by decide) ?_
    refine WPe_icmp_ge (pc := 20) 57 (dd dtX6_together 13 rfl) (by decide) (fun h13 => ?_) (fun h13 => ?_)
    · refine WPe_sub [0, 2] rfl ?_
      exact wpj6_together_57 X w0  v.1 v.2.2.1 w
    · refine WPe_aload_n (pc := 23) 0 (dd dtX6_together 14 rfl) rfl ?_
      refine WPe_ck fun h14 => ?_
      refine WPe_callV (pc := 24) (rtc := rtI) (Mc := mX6_minuteOf) (d' := 6) (mc' := 0) (ms' := 0) [] [] rfl (dd dtX6_together 15 rfl) (okf6_minuteOf v.1 w) moX6_minuteOf miX6_minuteOf (bw_mem5 20 rfl rfl) (Or.inl ⟨_, _, _, _, (shE h14), rfl⟩) rfl (Nat.le_of_ble_eq_true rfl) ⟨(Nat.le_of_ble_eq_true rfl), (Nat.le_of_ble_eq_true rfl)⟩ ⟨(Nat.le_of_ble_eq_true rfl), (Nat.le_of_ble_eq_true rfl)⟩ (fun z15 h16 e17 => ?_)
      refine WPe_st (st2 := [vI z15.1]) rfl ?_
      refine WPe_pop (pc := 27) (dd dtX6_together 16 rfl) rfl ?_
      refine WPe_aload_n (pc := 28) 0 (dd dtX6_together 17 rfl) rfl ?_
      refine WPe_callV (pc := 29) (rtc := rtI) (Mc := mX6_inSet) (d' := 2) (mc' := 0) (ms' := 0) [] [] rfl (dd dtX6_together 18 rfl) (okf6_inSet v.1 z15.2) moX6_inSet miX6_inSet (bw_mem5 44 rfl rfl) (Or.inl ⟨_, _, _, _, (e17.at (shE h14) (by decide)), rfl⟩) rfl (Nat.le_of_ble_eq_true rfl) ⟨(Nat.le_of_ble_eq_true rfl), (Nat.le_of_ble_eq_true rfl)⟩ ⟨(Nat.le_of_ble_eq_true rfl), (Nat.le_of_ble_eq_true rfl)⟩ (fun z18 h19 e20 => ?_)
      refine WPe_st (st2 := [vI z18.1]) rfl ?_
      refine WPe_iload_n (pc := 32) 1 (dd dtX6_together 19 rfl) rfl ?_
      refine WPe_icmp_ne (pc := 33) 40 (dd dtX6_together 20 rfl) (by decide) (fun h21 => ?_) (fun h21 => ?_)
      · refine WPe_iconst (pc := 36) (1 : Int32) (dd dtX6_together 21 rfl) (by decide) ?_
        refine WPe_goto (pc := 37) 41 (dd dtX6_together 22 rfl) (by decide) ?_
        refine WPe_sub [0, 1, 2] rfl ?_
        exact wpj6_together_41 X w0 k13 hk13 v.1 v.2.1 v.2.2.1 (1 : Int32) z18.2
      · refine WPe_iconst (pc := 40) (0 : Int32) (dd dtX6_together 23 rfl) (by decide) ?_
        refine WPe_sub [0, 1, 2] rfl ?_
        exact wpj6_together_41 X w0 k13 hk13 v.1 v.2.1 v.2.2.1 (0 : Int32) z18.2
theorem wplb6_together_13 (X : CX) (w0 : Wd)  : ∀ (n9 : Nat) (v : Nat × Int32 × Int32 × Int32) (w : Wd), WPe rtI X (mX6_together, 7, 0, 0, w0) 0 0 (loopF (b6_together_13 ) n9 v w) 13 [(0, vR v.1), (1, vI v.2.1), (2, vI v.2.2.1), (3, vI v.2.2.2)] [] w :=
  WPe_loop (rt := rtI) (X := X) (M := (mX6_together, 7, 0, 0, w0)) (fun v : Nat × Int32 × Int32 × Int32 => [(0, vR v.1), (1, vI v.2.1), (2, vI v.2.2.1), (3, vI v.2.2.2)]) (fun k hk v w => wpb6_together_13 X w0  k hk v w)
noncomputable def f6_together (x0 : Nat) (w : Wd) : Option (Int32 × Wd) :=
  ck (tg w x0 = 6) ((f6_inSet x0 w).bind fun z2 => ((f6_keeps x0 z2.2).bind fun z5 => (loopF (b6_together_13) FU (x0, z2.1, (0 : Int32), (1 : Int32)) z5.2)))
theorem wpf6_together (X : CX) (w0 : Wd) (x0 : Nat) (w : Wd) : WPe rtI X (mX6_together, 7, 0, 0, w0) 0 0 (f6_together x0 w) 0 [(0, vR x0)] [] w := by
  unfold f6_together
  refine WPe_aload_n (pc := 0) 0 (dd dtX6_together 0 rfl) rfl ?_
  refine WPe_ck fun h1 => ?_
  refine WPe_callV (pc := 1) (rtc := rtI) (Mc := mX6_inSet) (d' := 2) (mc' := 0) (ms' := 0) [] [] rfl (dd dtX6_together 1 rfl) (okf6_inSet x0 w) moX6_inSet miX6_inSet (bw_mem5 44 rfl rfl) (Or.inl ⟨_, _, _, _, (shE h1), rfl⟩) rfl (Nat.le_of_ble_eq_true rfl) ⟨(Nat.le_of_ble_eq_true rfl), (Nat.le_of_ble_eq_true rfl)⟩ ⟨(Nat.le_of_ble_eq_true rfl), (Nat.le_of_ble_eq_true rfl)⟩ (fun z2 h3 e4 => ?_)
  refine WPe_st (st2 := [vI z2.1]) rfl ?_
  refine WPe_istore_n (pc := 4) (ls' := [(1, vI z2.1), (0, vR x0)]) (dd dtX6_together 2 rfl) (Nat.le_of_ble_eq_true rfl) rfl ?_
  refine WPe_iconst (pc := 5) (0 : Int32) (dd dtX6_together 3 rfl) (by decide) ?_
  refine WPe_istore_n (pc := 6) (ls' := [(2, vI (0 : Int32)), (1, vI z2.1), (0, vR x0)]) (dd dtX6_together 4 rfl) (Nat.le_of_ble_eq_true rfl) rfl ?_
  refine WPe_iconst (pc := 7) (1 : Int32) (dd dtX6_together 5 rfl) (by decide) ?_
  refine WPe_istore_n (pc := 8) (ls' := [(3, vI (1 : Int32)), (2, vI (0 : Int32)), (1, vI z2.1), (0, vR x0)]) (dd dtX6_together 6 rfl) (Nat.le_of_ble_eq_true rfl) rfl ?_
  refine WPe_aload_n (pc := 9) 3 (dd dtX6_together 7 rfl) rfl ?_
  refine WPe_callV (pc := 10) (rtc := rtV) (Mc := mX6_keeps) (d' := 1) (mc' := 0) (ms' := 0) [] [] rfl (dd dtX6_together 8 rfl) (okf6_keeps x0 z2.2) moX6_keeps miX6_keeps (bw_mem5 32 rfl rfl) (Or.inl ⟨_, _, _, _, (e4.at (shE h1) (by decide)), rfl⟩) rfl (Nat.le_of_ble_eq_true rfl) ⟨(Nat.le_of_ble_eq_true rfl), (Nat.le_of_ble_eq_true rfl)⟩ ⟨(Nat.le_of_ble_eq_true rfl), (Nat.le_of_ble_eq_true rfl)⟩ (fun z5 h6 e7 => ?_)
  refine WPe_st (st2 := []) rfl ?_
  refine WPe_sub [3, 2, 1, 0] rfl ?_
  exact wplb6_together_13 X w0  FU _ _
theorem okf6_together (x0 : Nat) (w : Wd) : ∀ z, f6_together x0 w = some z → OkM mX6_together 7 0 0 [vR x0] w (rtI z.1) z.2 :=
  OkM.of (rt := rtI) moX6_together (Nat.le_of_ble_eq_true rfl) (fun X => wpf6_together X w x0 w)
def tbX6_when : List (Nat × Instr × Nat) := [(0, .iload_n 1, 1), (1, .iconst 1, 1), (2, .bipush 8, 2), (4, .invokestatic 75, 3), (7, .ifCond .eq 12, 3), (10, .iload_n 2, 1), (11, .iconst 0, 1), (12, .iconst 1, 1), (13, .invokestatic 75, 3), (16, .ifCond .ne 6, 3), (19, .bipush (-2), 2), (21, .ireturn, 1), (22, .iconst (-1), 1), (23, .istore_n 3, 1), (24, .iconst 0, 1), (25, .istore 4, 2), (27, .iconst 0, 1), (28, .istore 5, 2), (30, .iload 5, 2), (32, .iconst 1, 1), (33, .iload_n 1, 1), (34, .ishl, 1), (35, .if_icmp .ge 105, 3), (38, .aload_n 0, 1), (39, .invokevirtual 197, 3), (42, .iconst 0, 1), (43, .istore 6, 2), (45, .iload 6, 2), (47, .iload_n 1, 1), (48, .if_icmp .ge 31, 3), (51, .iload 5, 2), (53, .iload 6, 2), (55, .ishr, 1), (56, .iconst 1, 1), (57, .iand, 1), (58, .iconst 1, 1), (59, .if_icmp .ne 9, 3), (62, .aload_n 0, 1), (63, .iconst 1, 1), (64, .invokevirtual 179, 3), (67, .pop, 1), (68, .aload_n 0, 1), (69, .invokevirtual 191, 3), (72, .pop, 1), (73, .iinc 6 1, 3), (76, .goto (-31), 3), (79, .aload_n 0, 1), (80, .invokevirtual 86, 3), (83, .istore 6, 2), (85, .aload_n 0, 1), (86, .invokevirtual 206, 3), (89, .iload_n 3, 1), (90, .iconst (-1), 1), (91, .if_icmp .eq 10, 3), (94, .iload 6, 2), (96, .iload 4, 2), (98, .if_icmp .le 7, 3), (101, .iconst 1, 1), (102, .goto 4, 3), (105, .iconst 0, 1), (106, .istore 7, 2), (108, .iload 7, 2), (110, .ifCond .eq 8, 3), (113, .iload 5, 2), (115, .goto 4, 3), (118, .iload_n 3, 1), (119, .istore_n 3, 1), (120, .iload 7, 2), (122, .ifCond .eq 8, 3), (125, .iload 6, 2), (127, .goto 5, 3), (130, .iload 4, 2), (132, .istore 4, 2), (134, .iinc 5 1, 3), (137, .goto (-107), 3), (140, .iload_n 2, 1), (141, .ifCond .ne 7, 3), (144, .iload_n 3, 1), (145, .goto 5, 3), (148, .iload 4, 2), (150, .ireturn, 1)]
set_option maxRecDepth 20000 in
theorem dtX6_when : ∀ x ∈ tbX6_when, decode cX6_when x.1 = .ok x.2 := by decide +kernel
noncomputable def j6_when_132 (k30 : Nat × Int32 × Int32 × Int32 × Int32 × Int32 → Wd → Option (Int32 × Wd)) (x0 : Nat) (x1 : Int32) (x2 : Int32) (x3 : Int32) (x5 : Int32) (s0 : Int32) (w : Wd) : Option (Int32 × Wd) :=
  k30 (x0, x1, x2, x3, s0, (x5 + (1 : Int32))) w
theorem wpj6_when_132 (X : CX) (w0 : Wd) (k30 : Nat × Int32 × Int32 × Int32 × Int32 × Int32 → Wd → Option (Int32 × Wd)) (hk30 : ∀ (v : Nat × Int32 × Int32 × Int32 × Int32 × Int32) (w : Wd), WPe rtI X (mX6_when, 7, 0, 0, w0) 0 0 (k30 v w) 30 [(0, vR v.1), (1, vI v.2.1), (2, vI v.2.2.1), (3, vI v.2.2.2.1), (4, vI v.2.2.2.2.1), (5, vI v.2.2.2.2.2)] [] w) (x0 : Nat) (x1 : Int32) (x2 : Int32) (x3 : Int32) (x5 : Int32) (s0 : Int32) (w : Wd) : WPe rtI X (mX6_when, 7, 0, 0, w0) 0 0 (j6_when_132 k30 x0 x1 x2 x3 x5 s0 w) 132 [(0, vR x0), (1, vI x1), (2, vI x2), (3, vI x3), (5, vI x5)] [vI s0] w := by
  unfold j6_when_132
  refine WPe_istore (pc := 132) (ls' := [(4, vI s0), (0, vR x0), (1, vI x1), (2, vI x2), (3, vI x3), (5, vI x5)]) (dd dtX6_when 72 rfl) (Nat.le_of_ble_eq_true rfl) rfl ?_
  refine WPe_iinc (pc := 134) (ls' := [(5, vI (x5 + (1 : Int32))), (4, vI s0), (0, vR x0), (1, vI x1), (2, vI x2), (3, vI x3)]) 5 (x5 + (1 : Int32)) (dd dtX6_when 73 rfl) rfl (congrArg (HAdd.hAdd _) (by decide : Int32.ofInt (1) = (1 : Int32))) (Nat.le_of_ble_eq_true rfl) rfl ?_
  refine WPe_goto (pc := 137) 30 (dd dtX6_when 74 rfl) (by decide) ?_
  refine WPe_sub [2, 3, 4, 5, 1, 0] rfl ?_
  exact hk30 (x0, x1, x2, x3, s0, (x5 + (1 : Int32))) w
noncomputable def j6_when_119 (k30 : Nat × Int32 × Int32 × Int32 × Int32 × Int32 → Wd → Option (Int32 × Wd)) (x0 : Nat) (x1 : Int32) (x2 : Int32) (x4 : Int32) (x5 : Int32) (x6 : Int32) (x7 : Int32) (s0 : Int32) (w : Wd) : Option (Int32 × Wd) :=
  if x7 = (0 : Int32) then (j6_when_132 k30 x0 x1 x2 s0 x5 x4 w) else (j6_when_132 k30 x0 x1 x2 s0 x5 x6 w)
theorem wpj6_when_119 (X : CX) (w0 : Wd) (k30 : Nat × Int32 × Int32 × Int32 × Int32 × Int32 → Wd → Option (Int32 × Wd)) (hk30 : ∀ (v : Nat × Int32 × Int32 × Int32 × Int32 × Int32) (w : Wd), WPe rtI X (mX6_when, 7, 0, 0, w0) 0 0 (k30 v w) 30 [(0, vR v.1), (1, vI v.2.1), (2, vI v.2.2.1), (3, vI v.2.2.2.1), (4, vI v.2.2.2.2.1), (5, vI v.2.2.2.2.2)] [] w) (x0 : Nat) (x1 : Int32) (x2 : Int32) (x4 : Int32) (x5 : Int32) (x6 : Int32) (x7 : Int32) (s0 : Int32) (w : Wd) : WPe rtI X (mX6_when, 7, 0, 0, w0) 0 0 (j6_when_119 k30 x0 x1 x2 x4 x5 x6 x7 s0 w) 119 [(0, vR x0), (1, vI x1), (2, vI x2), (4, vI x4), (5, vI x5), (6, vI x6), (7, vI x7)] [vI s0] w := by
  unfold j6_when_119
  refine WPe_istore_n (pc := 119) (ls' := [(3, vI s0), (0, vR x0), (1, vI x1), (2, vI x2), (4, vI x4), (5, vI x5), (6, vI x6), (7, vI x7)]) (dd dtX6_when 66 rfl) (Nat.le_of_ble_eq_true rfl) rfl ?_
  refine WPe_iload (pc := 120) 7 (dd dtX6_when 67 rfl) rfl ?_
  refine WPe_if_eq (pc := 122) 130 (dd dtX6_when 68 rfl) (by decide) (fun h25 => ?_) (fun h25 => ?_)
  · refine WPe_iload (pc := 130) 4 (dd dtX6_when 71 rfl) rfl ?_
    refine WPe_sub [1, 2, 3, 0, 5] rfl ?_
    exact wpj6_when_132 X w0 k30 hk30 x0 x1 x2 s0 x5 x4 w
  · refine WPe_iload (pc := 125) 6 (dd dtX6_when 69 rfl) rfl ?_
    refine WPe_goto (pc := 127) 132 (dd dtX6_when 70 rfl) (by decide) ?_
    refine WPe_sub [1, 2, 3, 0, 5] rfl ?_
    exact wpj6_when_132 X w0 k30 hk30 x0 x1 x2 s0 x5 x6 w
noncomputable def j6_when_106 (k30 : Nat × Int32 × Int32 × Int32 × Int32 × Int32 → Wd → Option (Int32 × Wd)) (x0 : Nat) (x1 : Int32) (x2 : Int32) (x3 : Int32) (x4 : Int32) (x5 : Int32) (x6 : Int32) (s0 : Int32) (w : Wd) : Option (Int32 × Wd) :=
  if s0 = (0 : Int32) then (j6_when_119 k30 x0 x1 x2 x4 x5 x6 s0 x3 w) else (j6_when_119 k30 x0 x1 x2 x4 x5 x6 s0 x5 w)
theorem wpj6_when_106 (X : CX) (w0 : Wd) (k30 : Nat × Int32 × Int32 × Int32 × Int32 × Int32 → Wd → Option (Int32 × Wd)) (hk30 : ∀ (v : Nat × Int32 × Int32 × Int32 × Int32 × Int32) (w : Wd), WPe rtI X (mX6_when, 7, 0, 0, w0) 0 0 (k30 v w) 30 [(0, vR v.1), (1, vI v.2.1), (2, vI v.2.2.1), (3, vI v.2.2.2.1), (4, vI v.2.2.2.2.1), (5, vI v.2.2.2.2.2)] [] w) (x0 : Nat) (x1 : Int32) (x2 : Int32) (x3 : Int32) (x4 : Int32) (x5 : Int32) (x6 : Int32) (s0 : Int32) (w : Wd) : WPe rtI X (mX6_when, 7, 0, 0, w0) 0 0 (j6_when_106 k30 x0 x1 x2 x3 x4 x5 x6 s0 w) 106 [(0, vR x0), (1, vI x1), (2, vI x2), (3, vI x3), (4, vI x4), (5, vI x5), (6, vI x6)] [vI s0] w := by
  unfold j6_when_106
  refine WPe_istore (pc := 106) (ls' := [(7, vI s0), (0, vR x0), (1, vI x1), (2, vI x2), (3, vI x3), (4, vI x4), (5, vI x5), (6, vI x6)]) (dd dtX6_when 60 rfl) (Nat.le_of_ble_eq_true rfl) rfl ?_
  refine WPe_iload (pc := 108) 0 (dd dtX6_when 61 rfl) rfl ?_
  refine WPe_if_eq (pc := 110) 118 (dd dtX6_when 62 rfl) (by decide) (fun h24 => ?_) (fun h24 => ?_)
  · refine WPe_iload_n (pc := 118) 4 (dd dtX6_when 65 rfl) rfl ?_
    refine WPe_sub [1, 2, 3, 5, 6, 7, 0] rfl ?_
    exact wpj6_when_119 X w0 k30 hk30 x0 x1 x2 x4 x5 x6 s0 x3 w
  · refine WPe_iload (pc := 113) 6 (dd dtX6_when 63 rfl) rfl ?_
    refine WPe_goto (pc := 115) 119 (dd dtX6_when 64 rfl) (by decide) ?_
    refine WPe_sub [1, 2, 3, 5, 6, 7, 0] rfl ?_
    exact wpj6_when_119 X w0 k30 hk30 x0 x1 x2 x4 x5 x6 s0 x5 w
noncomputable def j6_when_101 (k30 : Nat × Int32 × Int32 × Int32 × Int32 × Int32 → Wd → Option (Int32 × Wd)) (x0 : Nat) (x1 : Int32) (x2 : Int32) (x3 : Int32) (x4 : Int32) (x5 : Int32) (x6 : Int32) (w : Wd) : Option (Int32 × Wd) :=
  j6_when_106 k30 x0 x1 x2 x3 x4 x5 x6 (1 : Int32) w
theorem wpj6_when_101 (X : CX) (w0 : Wd) (k30 : Nat × Int32 × Int32 × Int32 × Int32 × Int32 → Wd → Option (Int32 × Wd)) (hk30 : ∀ (v : Nat × Int32 × Int32 × Int32 × Int32 × Int32) (w : Wd), WPe rtI X (mX6_when, 7, 0, 0, w0) 0 0 (k30 v w) 30 [(0, vR v.1), (1, vI v.2.1), (2, vI v.2.2.1), (3, vI v.2.2.2.1), (4, vI v.2.2.2.2.1), (5, vI v.2.2.2.2.2)] [] w) (x0 : Nat) (x1 : Int32) (x2 : Int32) (x3 : Int32) (x4 : Int32) (x5 : Int32) (x6 : Int32) (w : Wd) : WPe rtI X (mX6_when, 7, 0, 0, w0) 0 0 (j6_when_101 k30 x0 x1 x2 x3 x4 x5 x6 w) 101 [(0, vR x0), (1, vI x1), (2, vI x2), (3, vI x3), (4, vI x4), (5, vI x5), (6, vI x6)] [] w := by
  unfold j6_when_101
  refine WPe_iconst (pc := 101) (1 : Int32) (dd dtX6_when 57 rfl) (by decide) ?_
  refine WPe_goto (pc := 102) 106 (dd dtX6_when 58 rfl) (by decide) ?_
  refine WPe_sub [0, 1, 2, 3, 4, 5, 6] rfl ?_
  exact wpj6_when_106 X w0 k30 hk30 x0 x1 x2 x3 x4 x5 x6 (1 : Int32) w
noncomputable def j6_when_68 (k30 : Nat × Int32 × Int32 × Int32 × Int32 × Int32 → Wd → Option (Int32 × Wd)) (k45 : Nat × Int32 × Int32 × Int32 × Int32 × Int32 × Int32 → Wd → Option (Int32 × Wd)) (x0 : Nat) (x1 : Int32) (x2 : Int32) (x3 : Int32) (x4 : Int32) (x5 : Int32) (x6 : Int32) (w : Wd) : Option (Int32 × Wd) :=
  ck (tg w x0 = 6) ((f6_minuteOf x0 w).bind fun z33 => (k45 (x0, x1, x2, x3, x4, x5, (x6 + (1 : Int32))) z33.2))
theorem wpj6_when_68 (X : CX) (w0 : Wd) (k30 : Nat × Int32 × Int32 × Int32 × Int32 × Int32 → Wd → Option (Int32 × Wd)) (hk30 : ∀ (v : Nat × Int32 × Int32 × Int32 × Int32 × Int32) (w : Wd), WPe rtI X (mX6_when, 7, 0, 0, w0) 0 0 (k30 v w) 30 [(0, vR v.1), (1, vI v.2.1), (2, vI v.2.2.1), (3, vI v.2.2.2.1), (4, vI v.2.2.2.2.1), (5, vI v.2.2.2.2.2)] [] w) (k45 : Nat × Int32 × Int32 × Int32 × Int32 × Int32 × Int32 → Wd → Option (Int32 × Wd)) (hk45 : ∀ (v : Nat × Int32 × Int32 × Int32 × Int32 × Int32 × Int32) (w : Wd), WPe rtI X (mX6_when, 7, 0, 0, w0) 0 0 (k45 v w) 45 [(0, vR v.1), (1, vI v.2.1), (2, vI v.2.2.1), (3, vI v.2.2.2.1), (4, vI v.2.2.2.2.1), (5, vI v.2.2.2.2.2.1), (6, vI v.2.2.2.2.2.2)] [] w) (x0 : Nat) (x1 : Int32) (x2 : Int32) (x3 : Int32) (x4 : Int32) (x5 : Int32) (x6 : Int32) (w : Wd) : WPe rtI X (mX6_when, 7, 0, 0, w0) 0 0 (j6_when_68 k30 k45 x0 x1 x2 x3 x4 x5 x6 w) 68 [(0, vR x0), (1, vI x1), (2, vI x2), (3, vI x3), (4, vI x4), (5, vI x5), (6, vI x6)] [] w := by
  unfold j6_when_68
  refine WPe_aload_n (pc := 68) 0 (dd dtX6_when 41 rfl) rfl ?_
  refine WPe_ck fun h32 => ?_
  refine WPe_callV (pc := 69) (rtc := rtI) (Mc := mX6_minuteOf) (d' := 6) (mc' := 0) (ms' := 0) [] [] rfl (dd dtX6_when 42 rfl) (okf6_minuteOf x0 w) moX6_minuteOf miX6_minuteOf (bw_mem5 20 rfl rfl) (Or.inl ⟨_, _, _, _, (shE h32), rfl⟩) rfl (Nat.le_of_ble_eq_true rfl) ⟨(Nat.le_of_ble_eq_true rfl), (Nat.le_of_ble_eq_true rfl)⟩ ⟨(Nat.le_of_ble_eq_true rfl), (Nat.le_of_ble_eq_true rfl)⟩ (fun z33 h34 e35 => ?_)
  refine WPe_st (st2 := [vI z33.1]) rfl ?_
  refine WPe_pop (pc := 72) (dd dtX6_when 43 rfl) rfl ?_
  refine WPe_iinc (pc := 73) (ls' := [(6, vI (x6 + (1 : Int32))), (0, vR x0), (1, vI x1), (2, vI x2), (3, vI x3), (4, vI x4), (5, vI x5)]) 6 (x6 + (1 : Int32)) (dd dtX6_when 44 rfl) rfl (congrArg (HAdd.hAdd _) (by decide : Int32.ofInt (1) = (1 : Int32))) (Nat.le_of_ble_eq_true rfl) rfl ?_
  refine WPe_goto (pc := 76) 45 (dd dtX6_when 45 rfl) (by decide) ?_
  refine WPe_sub [1, 2, 3, 4, 5, 6, 0] rfl ?_
  exact hk45 (x0, x1, x2, x3, x4, x5, (x6 + (1 : Int32))) z33.2
noncomputable def b6_when_45 (k30 : Nat × Int32 × Int32 × Int32 × Int32 × Int32 → Wd → Option (Int32 × Wd)) (k45 : Nat × Int32 × Int32 × Int32 × Int32 × Int32 × Int32 → Wd → Option (Int32 × Wd)) (v : Nat × Int32 × Int32 × Int32 × Int32 × Int32 × Int32) (w : Wd) : Option (Int32 × Wd) :=
  if v.2.1 ≤ v.2.2.2.2.2.2 then (ck (tg w v.1 = 6) ((f6_joyAll v.1 w).bind fun z17 => ((f6_lays v.1 z17.2).bind fun z20 => (if v.2.2.2.1 = (-1 : Int32) then (j6_when_101 k30 v.1 v.2.1 v.2.2.1 v.2.2.2.1 v.2.2.2.2.1 v.2.2.2.2.2.1 z17.1 z20.2) else (if z17.1 ≤ v.2.2.2.2.1 then (j6_when_106 k30 v.1 v.2.1 v.2.2.1 v.2.2.2.1 v.2.2.2.2.1 v.2.2.2.2.2.1 z17.1 (0 : Int32) z20.2) else (j6_when_101 k30 v.1 v.2.1 v.2.2.1 v.2.2.2.1 v.2.2.2.2.1 v.2.2.2.2.2.1 z17.1 z20.2)))))) else (if ((v.2.2.2.2.2.1 >>> (v.2.2.2.2.2.2 &&& 31)) &&& (1 : Int32)) = (1 : Int32) then (ck (tg w v.1 = 6) ((f6_pours v.1 (1 : Int32) w).bind fun z29 => (j6_when_68 k30 k45 v.1 v.2.1 v.2.2.1 v.2.2.2.1 v.2.2.2.2.1 v.2.2.2.2.2.1 v.2.2.2.2.2.2 z29.2))) else (j6_when_68 k30 k45 v.1 v.2.1 v.2.2.1 v.2.2.2.1 v.2.2.2.2.1 v.2.2.2.2.2.1 v.2.2.2.2.2.2 w))
theorem wpb6_when_45 (X : CX) (w0 : Wd) (k30 : Nat × Int32 × Int32 × Int32 × Int32 × Int32 → Wd → Option (Int32 × Wd)) (hk30 : ∀ (v : Nat × Int32 × Int32 × Int32 × Int32 × Int32) (w : Wd), WPe rtI X (mX6_when, 7, 0, 0, w0) 0 0 (k30 v w) 30 [(0, vR v.1), (1, vI v.2.1), (2, vI v.2.2.1), (3, vI v.2.2.2.1), (4, vI v.2.2.2.2.1), (5, vI v.2.2.2.2.2)] [] w) (k45 : Nat × Int32 × Int32 × Int32 × Int32 × Int32 × Int32 → Wd → Option (Int32 × Wd)) (hk45 : ∀ (v : Nat × Int32 × Int32 × Int32 × Int32 × Int32 × Int32) (w : Wd), WPe rtI X (mX6_when, 7, 0, 0, w0) 0 0 (k45 v w) 45 [(0, vR v.1), (1, vI v.2.1), (2, vI v.2.2.1), (3, vI v.2.2.2.1), (4, vI v.2.2.2.2.1), (5, vI v.2.2.2.2.2.1), (6, vI v.2.2.2.2.2.2)] [] w) (v : Nat × Int32 × Int32 × Int32 × Int32 × Int32 × Int32) (w : Wd) : WPe rtI X (mX6_when, 7, 0, 0, w0) 0 0 (b6_when_45 k30 k45 v w) 45 [(0, vR v.1), (1, vI v.2.1), (2, vI v.2.2.1), (3, vI v.2.2.2.1), (4, vI v.2.2.2.2.1), (5, vI v.2.2.2.2.2.1), (6, vI v.2.2.2.2.2.2)] [] w := by
  unfold b6_when_45
  refine WPe_iload (pc := 45) 6 (dd dtX6_when 27 rfl) rfl ?_
  refine WPe_iload_n (pc := 47) 1 (dd dtX6_when 28 rfl) rfl ?_
  refine WPe_icmp_ge (pc := 48) 79 (dd dtX6_when 29 rfl) (by decide) (fun h15 => ?_) (fun h15 => ?_)
  · refine WPe_aload_n (pc := 79) 0 (dd dtX6_when 46 rfl) rfl ?_
    refine WPe_ck fun h16 => ?_
    refine WPe_callV (pc := 80) (rtc := rtI) (Mc := mX6_joyAll) (d' := 1) (mc' := 0) (ms' := 0) [] [] rfl (dd dtX6_when 47 rfl) (okf6_joyAll v.1 w) moX6_joyAll miX6_joyAll (bw_mem4 162 rfl rfl) (Or.inl ⟨_, _, _, _, (shE h16), rfl⟩) rfl (Nat.le_of_ble_eq_true rfl) ⟨(Nat.le_of_ble_eq_true rfl), (Nat.le_of_ble_eq_true rfl)⟩ ⟨(Nat.le_of_ble_eq_true rfl), (Nat.le_of_ble_eq_true rfl)⟩ (fun z17 h18 e19 => ?_)
    refine WPe_st (st2 := [vI z17.1]) rfl ?_
    refine WPe_istore (pc := 83) (ls' := [(6, vI z17.1), (0, vR v.1), (1, vI v.2.1), (2, vI v.2.2.1), (3, vI v.2.2.2.1), (4, vI v.2.2.2.2.1), (5, vI v.2.2.2.2.2.1)]) (dd dtX6_when 48 rfl) (Nat.le_of_ble_eq_true rfl) rfl ?_
    refine WPe_aload_n (pc := 85) 1 (dd dtX6_when 49 rfl) rfl ?_
    refine WPe_callV (pc := 86) (rtc := rtV) (Mc := mX6_lays) (d' := 1) (mc' := 0) (ms' := 0) [] [] rfl (dd dtX6_when 50 rfl) (okf6_lays v.1 z17.2) moX6_lays miX6_lays (bw_mem5 48 rfl rfl) (Or.inl ⟨_, _, _, _, (e19.at (shE h16) (by decide)), rfl⟩) rfl (Nat.le_of_ble_eq_true rfl) ⟨(Nat.le_of_ble_eq_true rfl), (Nat.le_of_ble_eq_true rfl)⟩ ⟨(Nat.le_of_ble_eq_true rfl), (Nat.le_of_ble_eq_true rfl)⟩ (fun z20 h21 e22 => ?_)
    refine WPe_st (st2 := []) rfl ?_
    refine WPe_iload_n (pc := 89) 4 (dd dtX6_when 51 rfl) rfl ?_
    refine WPe_iconst (pc := 90) (-1 : Int32) (dd dtX6_when 52 rfl) (by decide) ?_
    refine WPe_icmp_eq (pc := 91) 101 (dd dtX6_when 53 rfl) (by decide) (fun h23 => ?_) (fun h23 => ?_)
    · refine WPe_sub [1, 2, 3, 4, 5, 6, 0] rfl ?_
      exact wpj6_when_101 X w0 k30 hk30 v.1 v.2.1 v.2.2.1 v.2.2.2.1 v.2.2.2.2.1 v.2.2.2.2.2.1 z17.1 z20.2
    · refine WPe_iload (pc := 94) 0 (dd dtX6_when 54 rfl) rfl ?_
      refine WPe_iload (pc := 96) 5 (dd dtX6_when 55 rfl) rfl ?_
      refine WPe_icmp_le (pc := 98) 105 (dd dtX6_when 56 rfl) (by decide) (fun h26 => ?_) (fun h26 => ?_)
      · refine WPe_iconst (pc := 105) (0 : Int32) (dd dtX6_when 59 rfl) (by decide) ?_
        refine WPe_sub [1, 2, 3, 4, 5, 6, 0] rfl ?_
        exact wpj6_when_106 X w0 k30 hk30 v.1 v.2.1 v.2.2.1 v.2.2.2.1 v.2.2.2.2.1 v.2.2.2.2.2.1 z17.1 (0 : Int32) z20.2
      · refine WPe_sub [1, 2, 3, 4, 5, 6, 0] rfl ?_
        exact wpj6_when_101 X w0 k30 hk30 v.1 v.2.1 v.2.2.1 v.2.2.2.1 v.2.2.2.2.1 v.2.2.2.2.2.1 z17.1 z20.2
  · refine WPe_iload (pc := 51) 5 (dd dtX6_when 30 rfl) rfl ?_
    refine WPe_iload (pc := 53) 6 (dd dtX6_when 31 rfl) rfl ?_
    refine WPe_ishr (pc := 55) (dd dtX6_when 32 rfl) ?_
    refine WPe_iconst (pc := 56) (1 : Int32) (dd dtX6_when 33 rfl) (by decide) ?_
    refine WPe_iand (pc := 57) (dd dtX6_when 34 rfl) ?_
    refine WPe_iconst (pc := 58) (1 : Int32) (dd dtX6_when 35 rfl) (by decide) ?_
    refine WPe_icmp_ne (pc := 59) 68 (dd dtX6_when 36 rfl) (by decide) (fun h27 => ?_) (fun h27 => ?_)
    · refine WPe_aload_n (pc := 62) 0 (dd dtX6_when 37 rfl) rfl ?_
      refine WPe_iconst (pc := 63) (1 : Int32) (dd dtX6_when 38 rfl) (by decide) ?_
      refine WPe_ck fun h28 => ?_
      refine WPe_callV (pc := 64) (rtc := rtI) (Mc := mX6_pours) (d' := 2) (mc' := 0) (ms' := 0) [vI (1 : Int32)] [] rfl (dd dtX6_when 39 rfl) (okf6_pours v.1 (1 : Int32) w) moX6_pours miX6_pours (bw_mem4 236 rfl rfl) (Or.inl ⟨_, _, _, _, (shE h28), rfl⟩) rfl (Nat.le_of_ble_eq_true rfl) ⟨(Nat.le_of_ble_eq_true rfl), (Nat.le_of_ble_eq_true rfl)⟩ ⟨(Nat.le_of_ble_eq_true rfl), (Nat.le_of_ble_eq_true rfl)⟩ (fun z29 h30 e31 => ?_)
      refine WPe_st (st2 := [vI z29.1]) rfl ?_
      refine WPe_pop (pc := 67) (dd dtX6_when 40 rfl) rfl ?_
      refine WPe_sub [0, 1, 2, 3, 4, 5, 6] rfl ?_
      exact wpj6_when_68 X w0 k30 hk30 k45 hk45 v.1 v.2.1 v.2.2.1 v.2.2.2.1 v.2.2.2.2.1 v.2.2.2.2.2.1 v.2.2.2.2.2.2 z29.2
    · refine WPe_sub [0, 1, 2, 3, 4, 5, 6] rfl ?_
      exact wpj6_when_68 X w0 k30 hk30 k45 hk45 v.1 v.2.1 v.2.2.1 v.2.2.2.1 v.2.2.2.2.1 v.2.2.2.2.2.1 v.2.2.2.2.2.2 w
theorem wplb6_when_45 (X : CX) (w0 : Wd) (k30 : Nat × Int32 × Int32 × Int32 × Int32 × Int32 → Wd → Option (Int32 × Wd)) (hk30 : ∀ (v : Nat × Int32 × Int32 × Int32 × Int32 × Int32) (w : Wd), WPe rtI X (mX6_when, 7, 0, 0, w0) 0 0 (k30 v w) 30 [(0, vR v.1), (1, vI v.2.1), (2, vI v.2.2.1), (3, vI v.2.2.2.1), (4, vI v.2.2.2.2.1), (5, vI v.2.2.2.2.2)] [] w) : ∀ (n9 : Nat) (v : Nat × Int32 × Int32 × Int32 × Int32 × Int32 × Int32) (w : Wd), WPe rtI X (mX6_when, 7, 0, 0, w0) 0 0 (loopF (b6_when_45 k30) n9 v w) 45 [(0, vR v.1), (1, vI v.2.1), (2, vI v.2.2.1), (3, vI v.2.2.2.1), (4, vI v.2.2.2.2.1), (5, vI v.2.2.2.2.2.1), (6, vI v.2.2.2.2.2.2)] [] w :=
  WPe_loop (rt := rtI) (X := X) (M := (mX6_when, 7, 0, 0, w0)) (fun v : Nat × Int32 × Int32 × Int32 × Int32 × Int32 × Int32 => [(0, vR v.1), (1, vI v.2.1), (2, vI v.2.2.1), (3, vI v.2.2.2.1), (4, vI v.2.2.2.2.1), (5, vI v.2.2.2.2.2.1), (6, vI v.2.2.2.2.2.2)]) (fun k hk v w => wpb6_when_45 X w0 k30 hk30 k hk v w)
noncomputable def b6_when_30 (k30 : Nat × Int32 × Int32 × Int32 × Int32 × Int32 → Wd → Option (Int32 × Wd)) (v : Nat × Int32 × Int32 × Int32 × Int32 × Int32) (w : Wd) : Option (Int32 × Wd) :=
  if ((1 : Int32) <<< (v.2.1 &&& 31)) ≤ v.2.2.2.2.2 then (if v.2.2.1 = (0 : Int32) then (some (v.2.2.2.1, w)) else (some (v.2.2.2.2.1, w))) else (ck (tg w v.1 = 6) ((f6_keeps v.1 w).bind fun z12 => (loopF (b6_when_45 k30) FU (v.1, v.2.1, v.2.2.1, v.2.2.2.1, v.2.2.2.2.1, v.2.2.2.2.2, (0 : Int32)) z12.2)))
theorem wpb6_when_30 (X : CX) (w0 : Wd) (k30 : Nat × Int32 × Int32 × Int32 × Int32 × Int32 → Wd → Option (Int32 × Wd)) (hk30 : ∀ (v : Nat × Int32 × Int32 × Int32 × Int32 × Int32) (w : Wd), WPe rtI X (mX6_when, 7, 0, 0, w0) 0 0 (k30 v w) 30 [(0, vR v.1), (1, vI v.2.1), (2, vI v.2.2.1), (3, vI v.2.2.2.1), (4, vI v.2.2.2.2.1), (5, vI v.2.2.2.2.2)] [] w) (v : Nat × Int32 × Int32 × Int32 × Int32 × Int32) (w : Wd) : WPe rtI X (mX6_when, 7, 0, 0, w0) 0 0 (b6_when_30 k30 v w) 30 [(0, vR v.1), (1, vI v.2.1), (2, vI v.2.2.1), (3, vI v.2.2.2.1), (4, vI v.2.2.2.2.1), (5, vI v.2.2.2.2.2)] [] w := by
  unfold b6_when_30
  refine WPe_iload (pc := 30) 5 (dd dtX6_when 18 rfl) rfl ?_
  refine WPe_iconst (pc := 32) (1 : Int32) (dd dtX6_when 19 rfl) (by decide) ?_
  refine WPe_iload_n (pc := 33) 1 (dd dtX6_when 20 rfl) rfl ?_
  refine WPe_ishl (pc := 34) (dd dtX6_when 21 rfl) ?_
  refine WPe_icmp_ge (pc := 35) 140 (dd dtX6_when 22 rfl) (by decide) (fun h9 => ?_) (fun h9 => ?_)
  · refine WPe_iload_n (pc := 140) 2 (dd dtX6_when 75 rfl) rfl ?_
    refine WPe_if_ne (pc := 141) 148 (dd dtX6_when 76 rfl) (by decide) (fun h10 => ?_) (fun h10 => ?_)
    · refine WPe_iload_n (pc := 144) 3 (dd dtX6_when 77 rfl) rfl ?_
      refine WPe_goto (pc := 145) 150 (dd dtX6_when 78 rfl) (by decide) ?_
      exact WPe_ireturn (pc := 150) (dd dtX6_when 80 rfl) rfl rfl ⟨(Nat.le_of_ble_eq_true rfl), (Nat.le_of_ble_eq_true rfl)⟩
    · refine WPe_iload (pc := 148) 4 (dd dtX6_when 79 rfl) rfl ?_
      exact WPe_ireturn (pc := 150) (dd dtX6_when 80 rfl) rfl rfl ⟨(Nat.le_of_ble_eq_true rfl), (Nat.le_of_ble_eq_true rfl)⟩
  · refine WPe_aload_n (pc := 38) 0 (dd dtX6_when 23 rfl) rfl ?_
    refine WPe_ck fun h11 => ?_
    refine WPe_callV (pc := 39) (rtc := rtV) (Mc := mX6_keeps) (d' := 1) (mc' := 0) (ms' := 0) [] [] rfl (dd dtX6_when 24 rfl) (okf6_keeps v.1 w) moX6_keeps miX6_keeps (bw_mem5 32 rfl rfl) (Or.inl ⟨_, _, _, _, (shE h11), rfl⟩) rfl (Nat.le_of_ble_eq_true rfl) ⟨(Nat.le_of_ble_eq_true rfl), (Nat.le_of_ble_eq_true rfl)⟩ ⟨(Nat.le_of_ble_eq_true rfl), (Nat.le_of_ble_eq_true rfl)⟩ (fun z12 h13 e14 => ?_)
    refine WPe_st (st2 := []) rfl ?_
    refine WPe_iconst (pc := 42) (0 : Int32) (dd dtX6_when 25 rfl) (by decide) ?_
    refine WPe_istore (pc := 43) (ls' := [(6, vI (0 : Int32)), (0, vR v.1), (1, vI v.2.1), (2, vI v.2.2.1), (3, vI v.2.2.2.1), (4, vI v.2.2.2.2.1), (5, vI v.2.2.2.2.2)]) (dd dtX6_when 26 rfl) (Nat.le_of_ble_eq_true rfl) rfl ?_
    refine WPe_sub [1, 2, 3, 4, 5, 6, 0] rfl ?_
    exact wplb6_when_45 X w0 k30 hk30 FU _ _
theorem wplb6_when_30 (X : CX) (w0 : Wd)  : ∀ (n9 : Nat) (v : Nat × Int32 × Int32 × Int32 × Int32 × Int32) (w : Wd), WPe rtI X (mX6_when, 7, 0, 0, w0) 0 0 (loopF (b6_when_30 ) n9 v w) 30 [(0, vR v.1), (1, vI v.2.1), (2, vI v.2.2.1), (3, vI v.2.2.2.1), (4, vI v.2.2.2.2.1), (5, vI v.2.2.2.2.2)] [] w :=
  WPe_loop (rt := rtI) (X := X) (M := (mX6_when, 7, 0, 0, w0)) (fun v : Nat × Int32 × Int32 × Int32 × Int32 × Int32 => [(0, vR v.1), (1, vI v.2.1), (2, vI v.2.2.1), (3, vI v.2.2.2.1), (4, vI v.2.2.2.2.1), (5, vI v.2.2.2.2.2)]) (fun k hk v w => wpb6_when_30 X w0  k hk v w)
noncomputable def f6_when (x0 : Nat) (x1 : Int32) (x2 : Int32) (w : Wd) : Option (Int32 × Wd) :=
  (f6_in x1 (1 : Int32) (8 : Int32) w).bind fun z1 => (if z1.1 = (0 : Int32) then (some ((-2 : Int32), z1.2)) else ((f6_in x2 (0 : Int32) (1 : Int32) z1.2).bind fun z5 => (if z5.1 = (0 : Int32) then (some ((-2 : Int32), z5.2)) else (loopF (b6_when_30) FU (x0, x1, x2, (-1 : Int32), (0 : Int32), (0 : Int32)) z5.2))))
theorem wpf6_when (X : CX) (w0 : Wd) (x0 : Nat) (x1 : Int32) (x2 : Int32) (w : Wd) : WPe rtI X (mX6_when, 7, 0, 0, w0) 0 0 (f6_when x0 x1 x2 w) 0 [(0, vR x0), (1, vI x1), (2, vI x2)] [] w := by
  unfold f6_when
  refine WPe_iload_n (pc := 0) 1 (dd dtX6_when 0 rfl) rfl ?_
  refine WPe_iconst (pc := 1) (1 : Int32) (dd dtX6_when 1 rfl) (by decide) ?_
  refine WPe_bipush (pc := 2) (8 : Int32) (dd dtX6_when 2 rfl) (by decide) ?_
  refine WPe_callS (pc := 4) (rtc := rtI) (Mc := mX6_in) (d' := 1) (mc' := 0) (ms' := 0) [vI x1, vI (1 : Int32), vI (8 : Int32)] [] rfl (dd dtX6_when 3 rfl) (okf6_in x1 (1 : Int32) (8 : Int32) w) moX6_in msX6_in (bw_mem4 14 rfl rfl) rfl (Nat.le_of_ble_eq_true rfl) ⟨(Nat.le_of_ble_eq_true rfl), (Nat.le_of_ble_eq_true rfl)⟩ ⟨(Nat.le_of_ble_eq_true rfl), (Nat.le_of_ble_eq_true rfl)⟩ (fun z1 h2 e3 => ?_)
  refine WPe_st (st2 := [vI z1.1]) rfl ?_
  refine WPe_if_eq (pc := 7) 19 (dd dtX6_when 4 rfl) (by decide) (fun h4 => ?_) (fun h4 => ?_)
  · refine WPe_bipush (pc := 19) (-2 : Int32) (dd dtX6_when 10 rfl) (by decide) ?_
    exact WPe_ireturn (pc := 21) (dd dtX6_when 11 rfl) rfl rfl ⟨(Nat.le_of_ble_eq_true rfl), (Nat.le_of_ble_eq_true rfl)⟩
  · refine WPe_iload_n (pc := 10) 2 (dd dtX6_when 5 rfl) rfl ?_
    refine WPe_iconst (pc := 11) (0 : Int32) (dd dtX6_when 6 rfl) (by decide) ?_
    refine WPe_iconst (pc := 12) (1 : Int32) (dd dtX6_when 7 rfl) (by decide) ?_
    refine WPe_callS (pc := 13) (rtc := rtI) (Mc := mX6_in) (d' := 1) (mc' := 0) (ms' := 0) [vI x2, vI (0 : Int32), vI (1 : Int32)] [] rfl (dd dtX6_when 8 rfl) (okf6_in x2 (0 : Int32) (1 : Int32) z1.2) moX6_in msX6_in (bw_mem4 14 rfl rfl) rfl (Nat.le_of_ble_eq_true rfl) ⟨(Nat.le_of_ble_eq_true rfl), (Nat.le_of_ble_eq_true rfl)⟩ ⟨(Nat.le_of_ble_eq_true rfl), (Nat.le_of_ble_eq_true rfl)⟩ (fun z5 h6 e7 => ?_)
    refine WPe_st (st2 := [vI z5.1]) rfl ?_
    refine WPe_if_ne (pc := 16) 22 (dd dtX6_when 9 rfl) (by decide) (fun h8 => ?_) (fun h8 => ?_)
    · refine WPe_bipush (pc := 19) (-2 : Int32) (dd dtX6_when 10 rfl) (by decide) ?_
      exact WPe_ireturn (pc := 21) (dd dtX6_when 11 rfl) rfl rfl ⟨(Nat.le_of_ble_eq_true rfl), (Nat.le_of_ble_eq_true rfl)⟩
    · refine WPe_iconst (pc := 22) (-1 : Int32) (dd dtX6_when 12 rfl) (by decide) ?_
      refine WPe_istore_n (pc := 23) (ls' := [(3, vI (-1 : Int32)), (0, vR x0), (1, vI x1), (2, vI x2)]) (dd dtX6_when 13 rfl) (Nat.le_of_ble_eq_true rfl) rfl ?_
      refine WPe_iconst (pc := 24) (0 : Int32) (dd dtX6_when 14 rfl) (by decide) ?_
      refine WPe_istore (pc := 25) (ls' := [(4, vI (0 : Int32)), (3, vI (-1 : Int32)), (0, vR x0), (1, vI x1), (2, vI x2)]) (dd dtX6_when 15 rfl) (Nat.le_of_ble_eq_true rfl) rfl ?_
      refine WPe_iconst (pc := 27) (0 : Int32) (dd dtX6_when 16 rfl) (by decide) ?_
      refine WPe_istore (pc := 28) (ls' := [(5, vI (0 : Int32)), (4, vI (0 : Int32)), (3, vI (-1 : Int32)), (0, vR x0), (1, vI x1), (2, vI x2)]) (dd dtX6_when 17 rfl) (Nat.le_of_ble_eq_true rfl) rfl ?_
      refine WPe_sub [3, 4, 5, 2, 1, 0] rfl ?_
      exact wplb6_when_30 X w0  FU _ _
theorem okf6_when (x0 : Nat) (x1 : Int32) (x2 : Int32) (w : Wd) : ∀ z, f6_when x0 x1 x2 w = some z → OkM mX6_when 7 0 0 [vR x0, vI x1, vI x2] w (rtI z.1) z.2 :=
  OkM.of (rt := rtI) moX6_when (Nat.le_of_ble_eq_true rfl) (fun X => wpf6_when X w x0 x1 x2 w)
def tbX6_digitsNow : List (Nat × Instr × Nat) := [(0, .iconst 0, 1), (1, .istore_n 1, 1), (2, .iconst 0, 1), (3, .istore_n 2, 1), (4, .iload_n 2, 1), (5, .aload_n 0, 1), (6, .getfield 72, 3), (9, .if_icmp .ge 37, 3), (12, .bipush 10, 2), (14, .iload_n 1, 1), (15, .imul, 1), (16, .aload_n 0, 1), (17, .iload_n 2, 1), (18, .invokevirtual 79, 3), (21, .ifCond .eq 16, 3), (24, .aload_n 0, 1), (25, .getfield 16, 3), (28, .iconst 3, 1), (29, .iload_n 2, 1), (30, .imul, 1), (31, .iaload, 1), (32, .iconst 1, 1), (33, .iadd, 1), (34, .goto 4, 3), (37, .iconst 0, 1), (38, .iadd, 1), (39, .istore_n 1, 1), (40, .iinc 2 1, 3), (43, .goto (-39), 3), (46, .iload_n 1, 1), (47, .ireturn, 1)]
set_option maxRecDepth 20000 in
theorem dtX6_digitsNow : ∀ x ∈ tbX6_digitsNow, decode cX6_digitsNow x.1 = .ok x.2 := by decide +kernel
noncomputable def j6_digitsNow_38 (k4 : Nat × Int32 × Int32 → Wd → Option (Int32 × Wd)) (x0 : Nat) (x2 : Int32) (s0 : Int32) (s1 : Int32) (w : Wd) : Option (Int32 × Wd) :=
  k4 (x0, (s1 + s0), (x2 + (1 : Int32))) w
theorem wpj6_digitsNow_38 (X : CX) (w0 : Wd) (k4 : Nat × Int32 × Int32 → Wd → Option (Int32 × Wd)) (hk4 : ∀ (v : Nat × Int32 × Int32) (w : Wd), WPe rtI X (mX6_digitsNow, 2, 0, 0, w0) 0 0 (k4 v w) 4 [(0, vR v.1), (1, vI v.2.1), (2, vI v.2.2)] [] w) (x0 : Nat) (x2 : Int32) (s0 : Int32) (s1 : Int32) (w : Wd) : WPe rtI X (mX6_digitsNow, 2, 0, 0, w0) 0 0 (j6_digitsNow_38 k4 x0 x2 s0 s1 w) 38 [(0, vR x0), (2, vI x2)] [vI s0, vI s1] w := by
  unfold j6_digitsNow_38
  refine WPe_iadd (pc := 38) (dd dtX6_digitsNow 25 rfl) ?_
  refine WPe_istore_n (pc := 39) (ls' := [(1, vI (s1 + s0)), (0, vR x0), (2, vI x2)]) (dd dtX6_digitsNow 26 rfl) (Nat.le_of_ble_eq_true rfl) rfl ?_
  refine WPe_iinc (pc := 40) (ls' := [(2, vI (x2 + (1 : Int32))), (1, vI (s1 + s0)), (0, vR x0)]) 2 (x2 + (1 : Int32)) (dd dtX6_digitsNow 27 rfl) rfl (congrArg (HAdd.hAdd _) (by decide : Int32.ofInt (1) = (1 : Int32))) (Nat.le_of_ble_eq_true rfl) rfl ?_
  refine WPe_goto (pc := 43) 4 (dd dtX6_digitsNow 28 rfl) (by decide) ?_
  refine WPe_sub [2, 1, 0] rfl ?_
  exact hk4 (x0, (s1 + s0), (x2 + (1 : Int32))) w
noncomputable def b6_digitsNow_4 (k4 : Nat × Int32 × Int32 → Wd → Option (Int32 × Wd)) (v : Nat × Int32 × Int32) (w : Wd) : Option (Int32 × Wd) :=
  ck (tg w v.1 = 6) (if (wi w v.1 0) ≤ v.2.2 then (some (v.2.1, w)) else ((f6_isIn v.1 v.2.2 w).bind fun z3 => (if z3.1 = (0 : Int32) then (j6_digitsNow_38 k4 v.1 v.2.2 (0 : Int32) ((10 : Int32) * v.2.1) z3.2) else (ck (tg z3.2 (wr z3.2 v.1 3) = 20 ∧ vp_in ((3 : Int32) * v.2.2) (ln z3.2 (wr z3.2 v.1 3))) (j6_digitsNow_38 k4 v.1 v.2.2 ((wi z3.2 (wr z3.2 v.1 3) (((3 : Int32) * v.2.2)).toNatClampNeg) + (1 : Int32)) ((10 : Int32) * v.2.1) z3.2)))))
theorem wpb6_digitsNow_4 (X : CX) (w0 : Wd) (k4 : Nat × Int32 × Int32 → Wd → Option (Int32 × Wd)) (hk4 : ∀ (v : Nat × Int32 × Int32) (w : Wd), WPe rtI X (mX6_digitsNow, 2, 0, 0, w0) 0 0 (k4 v w) 4 [(0, vR v.1), (1, vI v.2.1), (2, vI v.2.2)] [] w) (v : Nat × Int32 × Int32) (w : Wd) : WPe rtI X (mX6_digitsNow, 2, 0, 0, w0) 0 0 (b6_digitsNow_4 k4 v w) 4 [(0, vR v.1), (1, vI v.2.1), (2, vI v.2.2)] [] w := by
  unfold b6_digitsNow_4
  refine WPe_iload_n (pc := 4) 2 (dd dtX6_digitsNow 4 rfl) rfl ?_
  refine WPe_aload_n (pc := 5) 0 (dd dtX6_digitsNow 5 rfl) rfl ?_
  refine WPe_ck fun h1 => ?_
  refine WPe_getI (pc := 6) (t := 6) (C := RX6) (T := TX6) 0 (dd dtX6_digitsNow 6 rfl) (shE h1) rfl (Nat.le_of_ble_eq_true rfl) rfl (bw_mem4 53 rfl rfl) ?_
  refine WPe_icmp_ge (pc := 9) 46 (dd dtX6_digitsNow 7 rfl) (by decide) (fun h2 => ?_) (fun h2 => ?_)
  · refine WPe_iload_n (pc := 46) 1 (dd dtX6_digitsNow 29 rfl) rfl ?_
    exact WPe_ireturn (pc := 47) (dd dtX6_digitsNow 30 rfl) rfl rfl ⟨(Nat.le_of_ble_eq_true rfl), (Nat.le_of_ble_eq_true rfl)⟩
  · refine WPe_bipush (pc := 12) (10 : Int32) (dd dtX6_digitsNow 8 rfl) (by decide) ?_
    refine WPe_iload_n (pc := 14) 1 (dd dtX6_digitsNow 9 rfl) rfl ?_
    refine WPe_imul (pc := 15) (dd dtX6_digitsNow 10 rfl) ?_
    refine WPe_aload_n (pc := 16) 0 (dd dtX6_digitsNow 11 rfl) rfl ?_
    refine WPe_iload_n (pc := 17) 2 (dd dtX6_digitsNow 12 rfl) rfl ?_
    refine WPe_callV (pc := 18) (rtc := rtI) (Mc := mX6_isIn) (d' := 1) (mc' := 0) (ms' := 0) [vI v.2.2] [vI ((10 : Int32) * v.2.1)] rfl (dd dtX6_digitsNow 13 rfl) (okf6_isIn v.1 v.2.2 w) moX6_isIn miX6_isIn (bw_mem4 158 rfl rfl) (Or.inl ⟨_, _, _, _, (shE h1), rfl⟩) rfl (Nat.le_of_ble_eq_true rfl) ⟨(Nat.le_of_ble_eq_true rfl), (Nat.le_of_ble_eq_true rfl)⟩ ⟨(Nat.le_of_ble_eq_true rfl), (Nat.le_of_ble_eq_true rfl)⟩ (fun z3 h4 e5 => ?_)
    refine WPe_st (st2 := [vI z3.1, vI ((10 : Int32) * v.2.1)]) rfl ?_
    refine WPe_if_eq (pc := 21) 37 (dd dtX6_digitsNow 14 rfl) (by decide) (fun h6 => ?_) (fun h6 => ?_)
    · refine WPe_iconst (pc := 37) (0 : Int32) (dd dtX6_digitsNow 24 rfl) (by decide) ?_
      refine WPe_sub [0, 2] rfl ?_
      exact wpj6_digitsNow_38 X w0 k4 hk4 v.1 v.2.2 (0 : Int32) ((10 : Int32) * v.2.1) z3.2
    · refine WPe_aload_n (pc := 24) 0 (dd dtX6_digitsNow 15 rfl) rfl ?_
      refine WPe_getR (pc := 25) (t := 6) (C := RX6) (T := TX6) 3 (dd dtX6_digitsNow 16 rfl) (e5.at (shE h1) (by decide)) rfl (Nat.le_of_ble_eq_true rfl) rfl (bw_mem4 56 rfl rfl) ?_
      refine WPe_iconst (pc := 28) (3 : Int32) (dd dtX6_digitsNow 17 rfl) (by decide) ?_
      refine WPe_iload_n (pc := 29) 2 (dd dtX6_digitsNow 18 rfl) rfl ?_
      refine WPe_imul (pc := 30) (dd dtX6_digitsNow 19 rfl) ?_
      refine WPe_ck fun h7 => ?_
      refine WPe_iald (pc := 31) (dd dtX6_digitsNow 20 rfl) (shE h7.1) h7.2 ?_
      refine WPe_iconst (pc := 32) (1 : Int32) (dd dtX6_digitsNow 21 rfl) (by decide) ?_
      refine WPe_iadd (pc := 33) (dd dtX6_digitsNow 22 rfl) ?_
      refine WPe_goto (pc := 34) 38 (dd dtX6_digitsNow 23 rfl) (by decide) ?_
      refine WPe_sub [0, 2] rfl ?_
      exact wpj6_digitsNow_38 X w0 k4 hk4 v.1 v.2.2 ((wi z3.2 (wr z3.2 v.1 3) (((3 : Int32) * v.2.2)).toNatClampNeg) + (1 : Int32)) ((10 : Int32) * v.2.1) z3.2
theorem wplb6_digitsNow_4 (X : CX) (w0 : Wd)  : ∀ (n9 : Nat) (v : Nat × Int32 × Int32) (w : Wd), WPe rtI X (mX6_digitsNow, 2, 0, 0, w0) 0 0 (loopF (b6_digitsNow_4 ) n9 v w) 4 [(0, vR v.1), (1, vI v.2.1), (2, vI v.2.2)] [] w :=
  WPe_loop (rt := rtI) (X := X) (M := (mX6_digitsNow, 2, 0, 0, w0)) (fun v : Nat × Int32 × Int32 => [(0, vR v.1), (1, vI v.2.1), (2, vI v.2.2)]) (fun k hk v w => wpb6_digitsNow_4 X w0  k hk v w)
noncomputable def f6_digitsNow (x0 : Nat) (w : Wd) : Option (Int32 × Wd) :=
  loopF (b6_digitsNow_4) FU (x0, (0 : Int32), (0 : Int32)) w
theorem wpf6_digitsNow (X : CX) (w0 : Wd) (x0 : Nat) (w : Wd) : WPe rtI X (mX6_digitsNow, 2, 0, 0, w0) 0 0 (f6_digitsNow x0 w) 0 [(0, vR x0)] [] w := by
  unfold f6_digitsNow
  refine WPe_iconst (pc := 0) (0 : Int32) (dd dtX6_digitsNow 0 rfl) (by decide) ?_
  refine WPe_istore_n (pc := 1) (ls' := [(1, vI (0 : Int32)), (0, vR x0)]) (dd dtX6_digitsNow 1 rfl) (Nat.le_of_ble_eq_true rfl) rfl ?_
  refine WPe_iconst (pc := 2) (0 : Int32) (dd dtX6_digitsNow 2 rfl) (by decide) ?_
  refine WPe_istore_n (pc := 3) (ls' := [(2, vI (0 : Int32)), (1, vI (0 : Int32)), (0, vR x0)]) (dd dtX6_digitsNow 3 rfl) (Nat.le_of_ble_eq_true rfl) rfl ?_
  refine WPe_sub [2, 1, 0] rfl ?_
  exact wplb6_digitsNow_4 X w0  FU _ _
theorem okf6_digitsNow (x0 : Nat) (w : Wd) : ∀ z, f6_digitsNow x0 w = some z → OkM mX6_digitsNow 2 0 0 [vR x0] w (rtI z.1) z.2 :=
  OkM.of (rt := rtI) moX6_digitsNow (Nat.le_of_ble_eq_true rfl) (fun X => wpf6_digitsNow X w x0 w)
