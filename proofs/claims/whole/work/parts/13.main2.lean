def tbX5_changeBenches : List (Nat × Instr × Nat) := [(0, .aload_n 0, 1), (1, .getfield 52, 3), (4, .getfield 118, 3), (7, .iload_n 1, 1), (8, .aaload, 1), (9, .astore_n 3, 1), (10, .aload_n 0, 1), (11, .getfield 52, 3), (14, .getfield 118, 3), (17, .iload_n 2, 1), (18, .aaload, 1), (19, .astore 4, 2), (21, .aload_n 3, 1), (22, .getfield 133, 3), (25, .iconst 3, 1), (26, .if_icmp .eq 12, 3), (29, .aload 4, 2), (31, .getfield 133, 3), (34, .iconst 3, 1), (35, .if_icmp .ne 5, 3), (38, .iconst 0, 1), (39, .ireturn, 1), (40, .aload_n 3, 1), (41, .getfield 133, 3), (44, .istore 5, 2), (46, .aload_n 3, 1), (47, .aload 4, 2), (49, .getfield 133, 3), (52, .putfield 133, 3), (55, .aload 4, 2), (57, .iload 5, 2), (59, .putfield 133, 3), (62, .iconst 1, 1), (63, .ireturn, 1)]
set_option maxRecDepth 20000 in
theorem dtX5_changeBenches : ∀ x ∈ tbX5_changeBenches, decode cX5_changeBenches x.1 = .ok x.2 := by decide +kernel
noncomputable def f5_changeBenches (x0 : Nat) (x1 : Int32) (x2 : Int32) (w : Wd) : Option (Int32 × Wd) :=
  ck (tg w x0 = 5) (ck (tg w (wr w x0 4) = 1) (ck (tg w (wr w (wr w x0 4) 6) = 22 ∧ vp_in x1 (ln w (wr w (wr w x0 4) 6))) (ck (vp_in x2 (ln w (wr w (wr w x0 4) 6))) (ck (tg w (wr w (wr w (wr w x0 4) 6) (x1).toNatClampNeg) = 0) (if (wi w (wr w (wr w (wr w x0 4) 6) (x1).toNatClampNeg) 2) = (3 : Int32) then (some ((0 : Int32), w)) else (ck (tg w (wr w (wr w (wr w x0 4) 6) (x2).toNatClampNeg) = 0) (if (wi w (wr w (wr w (wr w x0 4) 6) (x2).toNatClampNeg) 2) = (3 : Int32) then (some ((0 : Int32), w)) else (lw (sI w (wr w (wr w (wr w x0 4) 6) (x1).toNatClampNeg) 2 (wi w (wr w (wr w (wr w x0 4) 6) (x2).toNatClampNeg) 2)) fun w9 => (lw (sI w9 (wr w (wr w (wr w x0 4) 6) (x2).toNatClampNeg) 2 (wi w (wr w (wr w (wr w x0 4) 6) (x1).toNatClampNeg) 2)) fun w11 => (some ((1 : Int32), w11)))))))))))
theorem wpf5_changeBenches (X : CX) (w0 : Wd) (x0 : Nat) (x1 : Int32) (x2 : Int32) (w : Wd) : WPe rtI X (mX5_changeBenches, 1, 0, 0, w0) 0 0 (f5_changeBenches x0 x1 x2 w) 0 [(0, vR x0), (1, vI x1), (2, vI x2)] [] w := by
  unfold f5_changeBenches
  refine WPe_aload_n (pc := 0) 0 (dd dtX5_changeBenches 0 rfl) rfl ?_
  refine WPe_ck fun h1 => ?_
  refine WPe_getR (pc := 1) (t := 5) (C := RX5) (T := TX5) 4 (dd dtX5_changeBenches 1 rfl) (shE h1) rfl (Nat.le_of_ble_eq_true rfl) rfl (bw_mem2 124 rfl rfl) ?_
  refine WPe_ck fun h2 => ?_
  refine WPe_getR (pc := 4) (t := 1) (C := RX1) (T := TX1) 6 (dd dtX5_changeBenches 2 rfl) (shE h2) rfl (Nat.le_of_ble_eq_true rfl) rfl (bw_mem2 84 rfl rfl) ?_
  refine WPe_iload_n (pc := 7) 1 (dd dtX5_changeBenches 3 rfl) rfl ?_
  refine WPe_ck fun h3 => ?_
  refine WPe_aald (pc := 8) (dd dtX5_changeBenches 4 rfl) (shE h3.1) ⟨(Nat.le_of_ble_eq_true rfl), (Nat.le_of_ble_eq_true rfl)⟩ h3.2 ?_
  refine WPe_astore_n (pc := 9) (ls' := [(3, vR (wr w (wr w (wr w x0 4) 6) (x1).toNatClampNeg)), (0, vR x0), (1, vI x1), (2, vI x2)]) (dd dtX5_changeBenches 5 rfl) (Nat.le_of_ble_eq_true rfl) rfl ?_
  refine WPe_aload_n (pc := 10) 1 (dd dtX5_changeBenches 6 rfl) rfl ?_
  refine WPe_getR (pc := 11) (t := 5) (C := RX5) (T := TX5) 4 (dd dtX5_changeBenches 7 rfl) (shE h1) rfl (Nat.le_of_ble_eq_true rfl) rfl (bw_mem2 124 rfl rfl) ?_
  refine WPe_getR (pc := 14) (t := 1) (C := RX1) (T := TX1) 6 (dd dtX5_changeBenches 8 rfl) (shE h2) rfl (Nat.le_of_ble_eq_true rfl) rfl (bw_mem2 84 rfl rfl) ?_
  refine WPe_iload_n (pc := 17) 3 (dd dtX5_changeBenches 9 rfl) rfl ?_
  refine WPe_ck fun h4 => ?_
  refine WPe_aald (pc := 18) (dd dtX5_changeBenches 10 rfl) (shL (shE h3.1)) ⟨(Nat.le_of_ble_eq_true rfl), (Nat.le_of_ble_eq_true rfl)⟩ h4 ?_
  refine WPe_astore (pc := 19) (ls' := [(4, vR (wr w (wr w (wr w x0 4) 6) (x2).toNatClampNeg)), (3, vR (wr w (wr w (wr w x0 4) 6) (x1).toNatClampNeg)), (0, vR x0), (1, vI x1), (2, vI x2)]) (dd dtX5_changeBenches 11 rfl) (Nat.le_of_ble_eq_true rfl) rfl ?_
  refine WPe_aload_n (pc := 21) 1 (dd dtX5_changeBenches 12 rfl) rfl ?_
  refine WPe_ck fun h5 => ?_
  refine WPe_getI (pc := 22) (t := 0) (C := RX0) (T := TX0) 2 (dd dtX5_changeBenches 13 rfl) (shE h5) rfl (Nat.le_of_ble_eq_true rfl) rfl (bw_mem2 49 rfl rfl) ?_
  refine WPe_iconst (pc := 25) (3 : Int32) (dd dtX5_changeBenches 14 rfl) (by decide) ?_
  refine WPe_icmp_eq (pc := 26) 38 (dd dtX5_changeBenches 15 rfl) (by decide) (fun h6 => ?_) (fun h6 => ?_)
  · refine WPe_iconst (pc := 38) (0 : Int32) (dd dtX5_changeBenches 20 rfl) (by decide) ?_
    exact WPe_zreturn (pc := 39) (ty := .boolean) (dd dtX5_changeBenches 21 rfl) rfl rfl rfl ⟨(Nat.le_of_ble_eq_true rfl), (Nat.le_of_ble_eq_true rfl)⟩
  · refine WPe_aload (pc := 29) 0 (dd dtX5_changeBenches 16 rfl) rfl ?_
    refine WPe_ck fun h7 => ?_
    refine WPe_getI (pc := 31) (t := 0) (C := RX0) (T := TX0) 2 (dd dtX5_changeBenches 17 rfl) (shE h7) rfl (Nat.le_of_ble_eq_true rfl) rfl (bw_mem2 49 rfl rfl) ?_
    refine WPe_iconst (pc := 34) (3 : Int32) (dd dtX5_changeBenches 18 rfl) (by decide) ?_
    refine WPe_icmp_ne (pc := 35) 40 (dd dtX5_changeBenches 19 rfl) (by decide) (fun h8 => ?_) (fun h8 => ?_)
    · refine WPe_iconst (pc := 38) (0 : Int32) (dd dtX5_changeBenches 20 rfl) (by decide) ?_
      exact WPe_zreturn (pc := 39) (ty := .boolean) (dd dtX5_changeBenches 21 rfl) rfl rfl rfl ⟨(Nat.le_of_ble_eq_true rfl), (Nat.le_of_ble_eq_true rfl)⟩
    · refine WPe_aload_n (pc := 40) 1 (dd dtX5_changeBenches 22 rfl) rfl ?_
      refine WPe_getI (pc := 41) (t := 0) (C := RX0) (T := TX0) 2 (dd dtX5_changeBenches 23 rfl) (shE h5) rfl (Nat.le_of_ble_eq_true rfl) rfl (bw_mem2 49 rfl rfl) ?_
      refine WPe_istore (pc := 44) (ls' := [(5, vI (wi w (wr w (wr w (wr w x0 4) 6) (x1).toNatClampNeg) 2)), (4, vR (wr w (wr w (wr w x0 4) 6) (x2).toNatClampNeg)), (3, vR (wr w (wr w (wr w x0 4) 6) (x1).toNatClampNeg)), (0, vR x0), (1, vI x1), (2, vI x2)]) (dd dtX5_changeBenches 24 rfl) (Nat.le_of_ble_eq_true rfl) rfl ?_
      refine WPe_aload_n (pc := 46) 2 (dd dtX5_changeBenches 25 rfl) rfl ?_
      refine WPe_aload (pc := 47) 1 (dd dtX5_changeBenches 26 rfl) rfl ?_
      refine WPe_getI (pc := 49) (t := 0) (C := RX0) (T := TX0) 2 (dd dtX5_changeBenches 27 rfl) (shE h7) rfl (Nat.le_of_ble_eq_true rfl) rfl (bw_mem2 49 rfl rfl) ?_
      refine WPe_putI (pc := 52) (t := 0) (C := RX0) (T := TX0) 2 (dd dtX5_changeBenches 28 rfl) (shE h5) rfl (Nat.le_of_ble_eq_true rfl) (bw_mem2 49 rfl rfl) (Or.inl rfl) rfl rfl rfl ?_
      refine WPe_lw fun w9 e10 => ?_
      refine WPe_aload (pc := 55) 1 (dd dtX5_changeBenches 29 rfl) rfl ?_
      refine WPe_iload (pc := 57) 0 (dd dtX5_changeBenches 30 rfl) rfl ?_
      refine WPe_putI (pc := 59) (t := 0) (C := RX0) (T := TX0) 2 (dd dtX5_changeBenches 31 rfl) (shI e10 (shE h7)) rfl (Nat.le_of_ble_eq_true rfl) (bw_mem2 49 rfl rfl) (Or.inl rfl) rfl rfl rfl ?_
      refine WPe_lw fun w11 e12 => ?_
      refine WPe_iconst (pc := 62) (1 : Int32) (dd dtX5_changeBenches 32 rfl) (by decide) ?_
      exact WPe_zreturn (pc := 63) (ty := .boolean) (dd dtX5_changeBenches 33 rfl) rfl rfl rfl ⟨(Nat.le_of_ble_eq_true rfl), (Nat.le_of_ble_eq_true rfl)⟩
theorem okf5_changeBenches (x0 : Nat) (x1 : Int32) (x2 : Int32) (w : Wd) : ∀ z, f5_changeBenches x0 x1 x2 w = some z → OkM mX5_changeBenches 1 0 0 [vR x0, vI x1, vI x2] w (rtI z.1) z.2 :=
  OkM.of (rt := rtI) moX5_changeBenches (Nat.le_of_ble_eq_true rfl) (fun X => wpf5_changeBenches X w x0 x1 x2 w)
def tbX5_swap : List (Nat × Instr × Nat) := [(0, .iload_n 1, 1), (1, .iconst 0, 1), (2, .bipush 40, 2), (4, .invokestatic 111, 3), (7, .ifCond .eq 12, 3), (10, .iload_n 2, 1), (11, .iconst 0, 1), (12, .iconst 1, 1), (13, .invokestatic 111, 3), (16, .ifCond .ne 6, 3), (19, .bipush (-2), 2), (21, .ireturn, 1), (22, .aload_n 0, 1), (23, .invokevirtual 172, 3), (26, .aload_n 0, 1), (27, .iload_n 1, 1), (28, .invokevirtual 175, 3), (31, .istore_n 3, 1), (32, .iconst (-1), 1), (33, .istore 4, 2), (35, .iconst 0, 1), (36, .istore 5, 2), (38, .iload 5, 2), (40, .aload_n 0, 1), (41, .getfield 48, 3), (44, .getfield 65, 3), (47, .if_icmp .ge 78, 3), (50, .iload 5, 2), (52, .iconst 1, 1), (53, .iadd, 1), (54, .istore 6, 2), (56, .iload 6, 2), (58, .aload_n 0, 1), (59, .getfield 48, 3), (62, .getfield 65, 3), (65, .if_icmp .ge 54, 3), (68, .aload_n 0, 1), (69, .invokevirtual 172, 3), (72, .aload_n 0, 1), (73, .iload 5, 2), (75, .iload 6, 2), (77, .invokevirtual 190, 3), (80, .ifCond .eq 11, 3), (83, .aload_n 0, 1), (84, .iload_n 1, 1), (85, .invokevirtual 175, 3), (88, .goto 4, 3), (91, .iconst (-1), 1), (92, .istore 7, 2), (94, .iload 7, 2), (96, .iload_n 3, 1), (97, .if_icmp .le 16, 3), (100, .iload 7, 2), (102, .istore_n 3, 1), (103, .bipush 10, 2), (105, .iload 5, 2), (107, .imul, 1), (108, .iload 6, 2), (110, .iadd, 1), (111, .istore 4, 2), (113, .iinc 6 1, 3), (116, .goto (-60), 3), (119, .iinc 5 1, 3), (122, .goto (-84), 3), (125, .iload_n 2, 1), (126, .ifCond .ne 8, 3), (129, .iload 4, 2), (131, .goto 4, 3), (134, .iload_n 3, 1), (135, .ireturn, 1)]
set_option maxRecDepth 20000 in
theorem dtX5_swap : ∀ x ∈ tbX5_swap, decode cX5_swap x.1 = .ok x.2 := by decide +kernel
noncomputable def j5_swap_113 (k38 : Nat × Int32 × Int32 × Int32 × Int32 × Int32 → Wd → Option (Int32 × Wd)) (k56 : Nat × Int32 × Int32 × Int32 × Int32 × Int32 × Int32 → Wd → Option (Int32 × Wd)) (x0 : Nat) (x1 : Int32) (x2 : Int32) (x3 : Int32) (x4 : Int32) (x5 : Int32) (x6 : Int32) (w : Wd) : Option (Int32 × Wd) :=
  k56 (x0, x1, x2, x3, x4, x5, (x6 + (1 : Int32))) w
theorem wpj5_swap_113 (X : CX) (w0 : Wd) (k38 : Nat × Int32 × Int32 × Int32 × Int32 × Int32 → Wd → Option (Int32 × Wd)) (hk38 : ∀ (v : Nat × Int32 × Int32 × Int32 × Int32 × Int32) (w : Wd), WPe rtI X (mX5_swap, 7, 0, 0, w0) 0 0 (k38 v w) 38 [(0, vR v.1), (1, vI v.2.1), (2, vI v.2.2.1), (3, vI v.2.2.2.1), (4, vI v.2.2.2.2.1), (5, vI v.2.2.2.2.2)] [] w) (k56 : Nat × Int32 × Int32 × Int32 × Int32 × Int32 × Int32 → Wd → Option (Int32 × Wd)) (hk56 : ∀ (v : Nat × Int32 × Int32 × Int32 × Int32 × Int32 × Int32) (w : Wd), WPe rtI X (mX5_swap, 7, 0, 0, w0) 0 0 (k56 v w) 56 [(0, vR v.1), (1, vI v.2.1), (2, vI v.2.2.1), (3, vI v.2.2.2.1), (4, vI v.2.2.2.2.1), (5, vI v.2.2.2.2.2.1), (6, vI v.2.2.2.2.2.2)] [] w) (x0 : Nat) (x1 : Int32) (x2 : Int32) (x3 : Int32) (x4 : Int32) (x5 : Int32) (x6 : Int32) (w : Wd) : WPe rtI X (mX5_swap, 7, 0, 0, w0) 0 0 (j5_swap_113 k38 k56 x0 x1 x2 x3 x4 x5 x6 w) 113 [(0, vR x0), (1, vI x1), (2, vI x2), (3, vI x3), (4, vI x4), (5, vI x5), (6, vI x6)] [] w := by
  unfold j5_swap_113
  refine WPe_iinc (pc := 113) (ls' := [(6, vI (x6 + (1 : Int32))), (0, vR x0), (1, vI x1), (2, vI x2), (3, vI x3), (4, vI x4), (5, vI x5)]) 6 (x6 + (1 : Int32)) (dd dtX5_swap 60 rfl) rfl (congrArg (HAdd.hAdd _) (by decide : Int32.ofInt (1) = (1 : Int32))) (Nat.le_of_ble_eq_true rfl) rfl ?_
  refine WPe_goto (pc := 116) 56 (dd dtX5_swap 61 rfl) (by decide) ?_
  refine WPe_sub [1, 2, 3, 4, 5, 6, 0] rfl ?_
  exact hk56 (x0, x1, x2, x3, x4, x5, (x6 + (1 : Int32))) w
noncomputable def j5_swap_92 (k38 : Nat × Int32 × Int32 × Int32 × Int32 × Int32 → Wd → Option (Int32 × Wd)) (k56 : Nat × Int32 × Int32 × Int32 × Int32 × Int32 × Int32 → Wd → Option (Int32 × Wd)) (x0 : Nat) (x1 : Int32) (x2 : Int32) (x3 : Int32) (x4 : Int32) (x5 : Int32) (x6 : Int32) (s0 : Int32) (w : Wd) : Option (Int32 × Wd) :=
  if s0 ≤ x3 then (j5_swap_113 k38 k56 x0 x1 x2 x3 x4 x5 x6 w) else (j5_swap_113 k38 k56 x0 x1 x2 s0 (((10 : Int32) * x5) + x6) x5 x6 w)
theorem wpj5_swap_92 (X : CX) (w0 : Wd) (k38 : Nat × Int32 × Int32 × Int32 × Int32 × Int32 → Wd → Option (Int32 × Wd)) (hk38 : ∀ (v : Nat × Int32 × Int32 × Int32 × Int32 × Int32) (w : Wd), WPe rtI X (mX5_swap, 7, 0, 0, w0) 0 0 (k38 v w) 38 [(0, vR v.1), (1, vI v.2.1), (2, vI v.2.2.1), (3, vI v.2.2.2.1), (4, vI v.2.2.2.2.1), (5, vI v.2.2.2.2.2)] [] w) (k56 : Nat × Int32 × Int32 × Int32 × Int32 × Int32 × Int32 → Wd → Option (Int32 × Wd)) (hk56 : ∀ (v : Nat × Int32 × Int32 × Int32 × Int32 × Int32 × Int32) (w : Wd), WPe rtI X (mX5_swap, 7, 0, 0, w0) 0 0 (k56 v w) 56 [(0, vR v.1), (1, vI v.2.1), (2, vI v.2.2.1), (3, vI v.2.2.2.1), (4, vI v.2.2.2.2.1), (5, vI v.2.2.2.2.2.1), (6, vI v.2.2.2.2.2.2)] [] w) (x0 : Nat) (x1 : Int32) (x2 : Int32) (x3 : Int32) (x4 : Int32) (x5 : Int32) (x6 : Int32) (s0 : Int32) (w : Wd) : WPe rtI X (mX5_swap, 7, 0, 0, w0) 0 0 (j5_swap_92 k38 k56 x0 x1 x2 x3 x4 x5 x6 s0 w) 92 [(0, vR x0), (1, vI x1), (2, vI x2), (3, vI x3), (4, vI x4), (5, vI x5), (6, vI x6)] [vI s0] w := by
  unfold j5_swap_92
  refine WPe_istore (pc := 92) (ls' := [(7, vI s0), (0, vR x0), (1, vI x1), (2, vI x2), (3, vI x3), (4, vI x4), (5, vI x5), (6, vI x6)]) (dd dtX5_swap 48 rfl) (Nat.le_of_ble_eq_true rfl) rfl ?_
  refine WPe_iload (pc := 94) 0 (dd dtX5_swap 49 rfl) rfl ?_
  refine WPe_iload_n (pc := 96) 4 (dd dtX5_swap 50 rfl) rfl ?_
  refine WPe_icmp_le (pc := 97) 113 (dd dtX5_swap 51 rfl) (by decide) (fun h30 => ?_) (fun h30 => ?_)
  · refine WPe_sub [1, 2, 3, 4, 5, 6, 7] rfl ?_
    exact wpj5_swap_113 X w0 k38 hk38 k56 hk56 x0 x1 x2 x3 x4 x5 x6 w
  · refine WPe_iload (pc := 100) 0 (dd dtX5_swap 52 rfl) rfl ?_
    refine WPe_istore_n (pc := 102) (ls' := [(3, vI s0), (7, vI s0), (0, vR x0), (1, vI x1), (2, vI x2), (4, vI x4), (5, vI x5), (6, vI x6)]) (dd dtX5_swap 53 rfl) (Nat.le_of_ble_eq_true rfl) rfl ?_
    refine WPe_bipush (pc := 103) (10 : Int32) (dd dtX5_swap 54 rfl) (by decide) ?_
    refine WPe_iload (pc := 105) 6 (dd dtX5_swap 55 rfl) rfl ?_
    refine WPe_imul (pc := 107) (dd dtX5_swap 56 rfl) ?_
    refine WPe_iload (pc := 108) 7 (dd dtX5_swap 57 rfl) rfl ?_
    refine WPe_iadd (pc := 110) (dd dtX5_swap 58 rfl) ?_
    refine WPe_istore (pc := 111) (ls' := [(4, vI (((10 : Int32) * x5) + x6)), (3, vI s0), (7, vI s0), (0, vR x0), (1, vI x1), (2, vI x2), (5, vI x5), (6, vI x6)]) (dd dtX5_swap 59 rfl) (Nat.le_of_ble_eq_true rfl) rfl ?_
    refine WPe_sub [3, 4, 5, 1, 0, 6, 7] rfl ?_
    exact wpj5_swap_113 X w0 k38 hk38 k56 hk56 x0 x1 x2 s0 (((10 : Int32) * x5) + x6) x5 x6 w
noncomputable def b5_swap_56 (k38 : Nat × Int32 × Int32 × Int32 × Int32 × Int32 → Wd → Option (Int32 × Wd)) (k56 : Nat × Int32 × Int32 × Int32 × Int32 × Int32 × Int32 → Wd → Option (Int32 × Wd)) (v : Nat × Int32 × Int32 × Int32 × Int32 × Int32 × Int32) (w : Wd) : Option (Int32 × Wd) :=
  ck (tg w v.1 = 5) (ck (tg w (wr w v.1 3) = 1) (if (wi w (wr w v.1 3) 4) ≤ v.2.2.2.2.2.2 then (k38 (v.1, v.2.1, v.2.2.1, v.2.2.2.1, v.2.2.2.2.1, (v.2.2.2.2.2.1 + (1 : Int32))) w) else ((f5_think v.1 w).bind fun z23 => ((f5_changeBenches v.1 v.2.2.2.2.2.1 v.2.2.2.2.2.2 z23.2).bind fun z26 => (if z26.1 = (0 : Int32) then (j5_swap_92 k38 k56 v.1 v.2.1 v.2.2.1 v.2.2.2.1 v.2.2.2.2.1 v.2.2.2.2.2.1 v.2.2.2.2.2.2 (-1 : Int32) z26.2) else ((f5_joyBehind v.1 v.2.1 z26.2).bind fun z31 => (j5_swap_92 k38 k56 v.1 v.2.1 v.2.2.1 v.2.2.2.1 v.2.2.2.2.1 v.2.2.2.2.2.1 v.2.2.2.2.2.2 z31.1 z31.2)))))))
theorem wpb5_swap_56 (X : CX) (w0 : Wd) (k38 : Nat × Int32 × Int32 × Int32 × Int32 × Int32 → Wd → Option (Int32 × Wd)) (hk38 : ∀ (v : Nat × Int32 × Int32 × Int32 × Int32 × Int32) (w : Wd), WPe rtI X (mX5_swap, 7, 0, 0, w0) 0 0 (k38 v w) 38 [(0, vR v.1), (1, vI v.2.1), (2, vI v.2.2.1), (3, vI v.2.2.2.1), (4, vI v.2.2.2.2.1), (5, vI v.2.2.2.2.2)] [] w) (k56 : Nat × Int32 × Int32 × Int32 × Int32 × Int32 × Int32 → Wd → Option (Int32 × Wd)) (hk56 : ∀ (v : Nat × Int32 × Int32 × Int32 × Int32 × Int32 × Int32) (w : Wd), WPe rtI X (mX5_swap, 7, 0, 0, w0) 0 0 (k56 v w) 56 [(0, vR v.1), (1, vI v.2.1), (2, vI v.2.2.1), (3, vI v.2.2.2.1), (4, vI v.2.2.2.2.1), (5, vI v.2.2.2.2.2.1), (6, vI v.2.2.2.2.2.2)] [] w) (v : Nat × Int32 × Int32 × Int32 × Int32 × Int32 × Int32) (w : Wd) : WPe rtI X (mX5_swap, 7, 0, 0, w0) 0 0 (b5_swap_56 k38 k56 v w) 56 [(0, vR v.1), (1, vI v.2.1), (2, vI v.2.2.1), (3, vI v.2.2.2.1), (4, vI v.2.2.2.2.1), (5, vI v.2.2.2.2.2.1), (6, vI v.2.2.2.2.2.2)] [] w := by
  unfold b5_swap_56
  refine WPe_iload (pc := 56) 6 (dd dtX5_swap 31 rfl) rfl ?_
  refine WPe_aload_n (pc := 58) 0 (dd dtX5_swap 32 rfl) rfl ?_
  refine WPe_ck fun h20 => ?_
  refine WPe_getR (pc := 59) (t := 5) (C := RX5) (T := TX5) 3 (dd dtX5_swap 33 rfl) (shE h20) rfl (Nat.le_of_ble_eq_true rfl) rfl (bw_mem2 123 rfl rfl) ?_
  refine WPe_ck fun h21 => ?_
  refine WPe_getI (pc := 62) (t := 1) (C := RX1) (T := TX1) 4 (dd dtX5_swap 34 rfl) (shE h21) rfl (Nat.le_of_ble_eq_true rfl) rfl (bw_mem2 80 rfl rfl) ?_
  refine WPe_icmp_ge (pc := 65) 119 (dd dtX5_swap 35 rfl) (by decide) (fun h22 => ?_) (fun h22 => ?_)
  · refine WPe_iinc (pc := 119) (ls' := [(5, vI (v.2.2.2.2.2.1 + (1 : Int32))), (0, vR v.1), (1, vI v.2.1), (2, vI v.2.2.1), (3, vI v.2.2.2.1), (4, vI v.2.2.2.2.1), (6, vI v.2.2.2.2.2.2)]) 5 (v.2.2.2.2.2.1 + (1 : Int32)) (dd dtX5_swap 62 rfl) rfl (congrArg (HAdd.hAdd _) (by decide : Int32.ofInt (1) = (1 : Int32))) (Nat.le_of_ble_eq_true rfl) rfl ?_
    refine WPe_goto (pc := 122) 38 (dd dtX5_swap 63 rfl) (by decide) ?_
    refine WPe_sub [1, 2, 3, 4, 5, 0] rfl ?_
    exact hk38 (v.1, v.2.1, v.2.2.1, v.2.2.2.1, v.2.2.2.2.1, (v.2.2.2.2.2.1 + (1 : Int32))) w
  · refine WPe_aload_n (pc := 68) 0 (dd dtX5_swap 36 rfl) rfl ?_
    refine WPe_callV (pc := 69) (rtc := rtV) (Mc := mX5_think) (d' := 3) (mc' := 0) (ms' := 0) [] [] rfl (dd dtX5_swap 37 rfl) (okf5_think v.1 w) moX5_think miX5_think (bw_mem3 53 rfl rfl) (Or.inl ⟨_, _, _, _, (shE h20), rfl⟩) rfl (Nat.le_of_ble_eq_true rfl) ⟨(Nat.le_of_ble_eq_true rfl), (Nat.le_of_ble_eq_true rfl)⟩ ⟨(Nat.le_of_ble_eq_true rfl), (Nat.le_of_ble_eq_true rfl)⟩ (fun z23 h24 e25 => ?_)
    refine WPe_st (st2 := []) rfl ?_
    refine WPe_aload_n (pc := 72) 0 (dd dtX5_swap 38 rfl) rfl ?_
    refine WPe_iload (pc := 73) 5 (dd dtX5_swap 39 rfl) rfl ?_
    refine WPe_iload (pc := 75) 6 (dd dtX5_swap 40 rfl) rfl ?_
    refine WPe_callV (pc := 77) (rtc := rtI) (Mc := mX5_changeBenches) (d' := 1) (mc' := 0) (ms' := 0) [vI v.2.2.2.2.2.1, vI v.2.2.2.2.2.2] [] rfl (dd dtX5_swap 41 rfl) (okf5_changeBenches v.1 v.2.2.2.2.2.1 v.2.2.2.2.2.2 z23.2) moX5_changeBenches miX5_changeBenches (bw_mem3 105 rfl rfl) (Or.inl ⟨_, _, _, _, (e25.at (shE h20) (by decide)), rfl⟩) rfl (Nat.le_of_ble_eq_true rfl) ⟨(Nat.le_of_ble_eq_true rfl), (Nat.le_of_ble_eq_true rfl)⟩ ⟨(Nat.le_of_ble_eq_true rfl), (Nat.le_of_ble_eq_true rfl)⟩ (fun z26 h27 e28 => ?_)
    refine WPe_st (st2 := [vI z26.1]) rfl ?_
    refine WPe_if_eq (pc := 80) 91 (dd dtX5_swap 42 rfl) (by decide) (fun h29 => ?_) (fun h29 => ?_)
    · refine WPe_iconst (pc := 91) (-1 : Int32) (dd dtX5_swap 47 rfl) (by decide) ?_
      refine WPe_sub [0, 1, 2, 3, 4, 5, 6] rfl ?_
      exact wpj5_swap_92 X w0 k38 hk38 k56 hk56 v.1 v.2.1 v.2.2.1 v.2.2.2.1 v.2.2.2.2.1 v.2.2.2.2.2.1 v.2.2.2.2.2.2 (-1 : Int32) z26.2
    · refine WPe_aload_n (pc := 83) 0 (dd dtX5_swap 43 rfl) rfl ?_
      refine WPe_iload_n (pc := 84) 1 (dd dtX5_swap 44 rfl) rfl ?_
      refine WPe_callV (pc := 85) (rtc := rtI) (Mc := mX5_joyBehind) (d' := 6) (mc' := 0) (ms' := 0) [vI v.2.1] [] rfl (dd dtX5_swap 45 rfl) (okf5_joyBehind v.1 v.2.1 z26.2) moX5_joyBehind miX5_joyBehind (bw_mem3 65 rfl rfl) (Or.inl ⟨_, _, _, _, (e28.at (e25.at (shE h20) (by decide)) (by decide)), rfl⟩) rfl (Nat.le_of_ble_eq_true rfl) ⟨(Nat.le_of_ble_eq_true rfl), (Nat.le_of_ble_eq_true rfl)⟩ ⟨(Nat.le_of_ble_eq_true rfl), (Nat.le_of_ble_eq_true rfl)⟩ (fun z31 h32 e33 => ?_)
      refine WPe_st (st2 := [vI z31.1]) rfl ?_
      refine WPe_goto (pc := 88) 92 (dd dtX5_swap 46 rfl) (by decide) ?_
      refine WPe_sub [0, 1, 2, 3, 4, 5, 6] rfl ?_
      exact wpj5_swap_92 X w0 k38 hk38 k56 hk56 v.1 v.2.1 v.2.2.1 v.2.2.2.1 v.2.2.2.2.1 v.2.2.2.2.2.1 v.2.2.2.2.2.2 z31.1 z31.2
theorem wplb5_swap_56 (X : CX) (w0 : Wd) (k38 : Nat × Int32 × Int32 × Int32 × Int32 × Int32 → Wd → Option (Int32 × Wd)) (hk38 : ∀ (v : Nat × Int32 × Int32 × Int32 × Int32 × Int32) (w : Wd), WPe rtI X (mX5_swap, 7, 0, 0, w0) 0 0 (k38 v w) 38 [(0, vR v.1), (1, vI v.2.1), (2, vI v.2.2.1), (3, vI v.2.2.2.1), (4, vI v.2.2.2.2.1), (5, vI v.2.2.2.2.2)] [] w) : ∀ (n9 : Nat) (v : Nat × Int32 × Int32 × Int32 × Int32 × Int32 × Int32) (w : Wd), WPe rtI X (mX5_swap, 7, 0, 0, w0) 0 0 (loopF (b5_swap_56 k38) n9 v w) 56 [(0, vR v.1), (1, vI v.2.1), (2, vI v.2.2.1), (3, vI v.2.2.2.1), (4, vI v.2.2.2.2.1), (5, vI v.2.2.2.2.2.1), (6, vI v.2.2.2.2.2.2)] [] w :=
  WPe_loop (rt := rtI) (X := X) (M := (mX5_swap, 7, 0, 0, w0)) (fun v : Nat × Int32 × Int32 × Int32 × Int32 × Int32 × Int32 => [(0, vR v.1), (1, vI v.2.1), (2, vI v.2.2.1), (3, vI v.2.2.2.1), (4, vI v.2.2.2.2.1), (5, vI v.2.2.2.2.2.1), (6, vI v.2.2.2.2.2.2)]) (fun k hk v w => wpb5_swap_56 X w0 k38 hk38 k hk v w)
noncomputable def b5_swap_38 (k38 : Nat × Int32 × Int32 × Int32 × Int32 × Int32 → Wd → Option (Int32 × Wd)) (v : Nat × Int32 × Int32 × Int32 × Int32 × Int32) (w : Wd) : Option (Int32 × Wd) :=
  ck (tg w v.1 = 5) (ck (tg w (wr w v.1 3) = 1) (if (wi w (wr w v.1 3) 4) ≤ v.2.2.2.2.2 then (if v.2.2.1 = (0 : Int32) then (some (v.2.2.2.2.1, w)) else (some (v.2.2.2.1, w))) else (loopF (b5_swap_56 k38) FU (v.1, v.2.1, v.2.2.1, v.2.2.2.1, v.2.2.2.2.1, v.2.2.2.2.2, (v.2.2.2.2.2 + (1 : Int32))) w)))
theorem wpb5_swap_38 (X : CX) (w0 : Wd) (k38 : Nat × Int32 × Int32 × Int32 × Int32 × Int32 → Wd → Option (Int32 × Wd)) (hk38 : ∀ (v : Nat × Int32 × Int32 × Int32 × Int32 × Int32) (w : Wd), WPe rtI X (mX5_swap, 7, 0, 0, w0) 0 0 (k38 v w) 38 [(0, vR v.1), (1, vI v.2.1), (2, vI v.2.2.1), (3, vI v.2.2.2.1), (4, vI v.2.2.2.2.1), (5, vI v.2.2.2.2.2)] [] w) (v : Nat × Int32 × Int32 × Int32 × Int32 × Int32) (w : Wd) : WPe rtI X (mX5_swap, 7, 0, 0, w0) 0 0 (b5_swap_38 k38 v w) 38 [(0, vR v.1), (1, vI v.2.1), (2, vI v.2.2.1), (3, vI v.2.2.2.1), (4, vI v.2.2.2.2.1), (5, vI v.2.2.2.2.2)] [] w := by
  unfold b5_swap_38
  refine WPe_iload (pc := 38) 5 (dd dtX5_swap 22 rfl) rfl ?_
  refine WPe_aload_n (pc := 40) 0 (dd dtX5_swap 23 rfl) rfl ?_
  refine WPe_ck fun h16 => ?_
  refine WPe_getR (pc := 41) (t := 5) (C := RX5) (T := TX5) 3 (dd dtX5_swap 24 rfl) (shE h16) rfl (Nat.le_of_ble_eq_true rfl) rfl (bw_mem2 123 rfl rfl) ?_
  refine WPe_ck fun h17 => ?_
  refine WPe_getI (pc := 44) (t := 1) (C := RX1) (T := TX1) 4 (dd dtX5_swap 25 rfl) (shE h17) rfl (Nat.le_of_ble_eq_true rfl) rfl (bw_mem2 80 rfl rfl) ?_
  refine WPe_icmp_ge (pc := 47) 125 (dd dtX5_swap 26 rfl) (by decide) (fun h18 => ?_) (fun h18 => ?_)
  · refine WPe_iload_n (pc := 125) 2 (dd dtX5_swap 64 rfl) rfl ?_
    refine WPe_if_ne (pc := 126) 134 (dd dtX5_swap 65 rfl) (by decide) (fun h19 => ?_) (fun h19 => ?_)
    · refine WPe_iload (pc := 129) 4 (dd dtX5_swap 66 rfl) rfl ?_
      refine WPe_goto (pc := 131) 135 (dd dtX5_swap 67 rfl) (by decide) ?_
      exact WPe_ireturn (pc := 135) (dd dtX5_swap 69 rfl) rfl rfl ⟨(Nat.le_of_ble_eq_true rfl), (Nat.le_of_ble_eq_true rfl)⟩
    · refine WPe_iload_n (pc := 134) 3 (dd dtX5_swap 68 rfl) rfl ?_
      exact WPe_ireturn (pc := 135) (dd dtX5_swap 69 rfl) rfl rfl ⟨(Nat.le_of_ble_eq_true rfl), (Nat.le_of_ble_eq_true rfl)⟩
  · refine WPe_iload (pc := 50) 5 (dd dtX5_swap 27 rfl) rfl ?_
    refine WPe_iconst (pc := 52) (1 : Int32) (dd dtX5_swap 28 rfl) (by decide) ?_
    refine WPe_iadd (pc := 53) (dd dtX5_swap 29 rfl) ?_
    refine WPe_istore (pc := 54) (ls' := [(6, vI (v.2.2.2.2.2 + (1 : Int32))), (0, vR v.1), (1, vI v.2.1), (2, vI v.2.2.1), (3, vI v.2.2.2.1), (4, vI v.2.2.2.2.1), (5, vI v.2.2.2.2.2)]) (dd dtX5_swap 30 rfl) (Nat.le_of_ble_eq_true rfl) rfl ?_
    refine WPe_sub [1, 2, 3, 4, 5, 6, 0] rfl ?_
    exact wplb5_swap_56 X w0 k38 hk38 FU _ _
theorem wplb5_swap_38 (X : CX) (w0 : Wd)  : ∀ (n9 : Nat) (v : Nat × Int32 × Int32 × Int32 × Int32 × Int32) (w : Wd), WPe rtI X (mX5_swap, 7, 0, 0, w0) 0 0 (loopF (b5_swap_38 ) n9 v w) 38 [(0, vR v.1), (1, vI v.2.1), (2, vI v.2.2.1), (3, vI v.2.2.2.1), (4, vI v.2.2.2.2.1), (5, vI v.2.2.2.2.2)] [] w :=
  WPe_loop (rt := rtI) (X := X) (M := (mX5_swap, 7, 0, 0, w0)) (fun v : Nat × Int32 × Int32 × Int32 × Int32 × Int32 => [(0, vR v.1), (1, vI v.2.1), (2, vI v.2.2.1), (3, vI v.2.2.2.1), (4, vI v.2.2.2.2.1), (5, vI v.2.2.2.2.2)]) (fun k hk v w => wpb5_swap_38 X w0  k hk v w)
noncomputable def f5_swap (x0 : Nat) (x1 : Int32) (x2 : Int32) (w : Wd) : Option (Int32 × Wd) :=
  (f5_isWithin x1 (0 : Int32) (40 : Int32) w).bind fun z1 => (if z1.1 = (0 : Int32) then (some ((-2 : Int32), z1.2)) else ((f5_isWithin x2 (0 : Int32) (1 : Int32) z1.2).bind fun z5 => (if z5.1 = (0 : Int32) then (some ((-2 : Int32), z5.2)) else (ck (tg z5.2 x0 = 5) ((f5_think x0 z5.2).bind fun z10 => ((f5_joyBehind x0 x1 z10.2).bind fun z13 => (loopF (b5_swap_38) FU (x0, x1, x2, z13.1, (-1 : Int32), (0 : Int32)) z13.2)))))))
theorem wpf5_swap (X : CX) (w0 : Wd) (x0 : Nat) (x1 : Int32) (x2 : Int32) (w : Wd) : WPe rtI X (mX5_swap, 7, 0, 0, w0) 0 0 (f5_swap x0 x1 x2 w) 0 [(0, vR x0), (1, vI x1), (2, vI x2)] [] w := by
  unfold f5_swap
  refine WPe_iload_n (pc := 0) 1 (dd dtX5_swap 0 rfl) rfl ?_
  refine WPe_iconst (pc := 1) (0 : Int32) (dd dtX5_swap 1 rfl) (by decide) ?_
  refine WPe_bipush (pc := 2) (40 : Int32) (dd dtX5_swap 2 rfl) (by decide) ?_
  refine WPe_callS (pc := 4) (rtc := rtI) (Mc := mX5_isWithin) (d' := 1) (mc' := 0) (ms' := 0) [vI x1, vI (0 : Int32), vI (40 : Int32)] [] rfl (dd dtX5_swap 3 rfl) (okf5_isWithin x1 (0 : Int32) (40 : Int32) w) moX5_isWithin msX5_isWithin (bw_mem2 176 rfl rfl) rfl (Nat.le_of_ble_eq_true rfl) ⟨(Nat.le_of_ble_eq_true rfl), (Nat.le_of_ble_eq_true rfl)⟩ ⟨(Nat.le_of_ble_eq_true rfl), (Nat.le_of_ble_eq_true rfl)⟩ (fun z1 h2 e3 => ?_)
  refine WPe_st (st2 := [vI z1.1]) rfl ?_
  refine WPe_if_eq (pc := 7) 19 (dd dtX5_swap 4 rfl) (by decide) (fun h4 => ?_) (fun h4 => ?_)
  · refine WPe_bipush (pc := 19) (-2 : Int32) (dd dtX5_swap 10 rfl) (by decide) ?_
    exact WPe_ireturn (pc := 21) (dd dtX5_swap 11 rfl) rfl rfl ⟨(Nat.le_of_ble_eq_true rfl), (Nat.le_of_ble_eq_true rfl)⟩
  · refine WPe_iload_n (pc := 10) 2 (dd dtX5_swap 5 rfl) rfl ?_
    refine WPe_iconst (pc := 11) (0 : Int32) (dd dtX5_swap 6 rfl) (by decide) ?_
    refine WPe_iconst (pc := 12) (1 : Int32) (dd dtX5_swap 7 rfl) (by decide) ?_
    refine WPe_callS (pc := 13) (rtc := rtI) (Mc := mX5_isWithin) (d' := 1) (mc' := 0) (ms' := 0) [vI x2, vI (0 : Int32), vI (1 : Int32)] [] rfl (dd dtX5_swap 8 rfl) (okf5_isWithin x2 (0 : Int32) (1 : Int32) z1.2) moX5_isWithin msX5_isWithin (bw_mem2 176 rfl rfl) rfl (Nat.le_of_ble_eq_true rfl) ⟨(Nat.le_of_ble_eq_true rfl), (Nat.le_of_ble_eq_true rfl)⟩ ⟨(Nat.le_of_ble_eq_true rfl), (Nat.le_of_ble_eq_true rfl)⟩ (fun z5 h6 e7 => ?_)
    refine WPe_st (st2 := [vI z5.1]) rfl ?_
    refine WPe_if_ne (pc := 16) 22 (dd dtX5_swap 9 rfl) (by decide) (fun h8 => ?_) (fun h8 => ?_)
    · refine WPe_bipush (pc := 19) (-2 : Int32) (dd dtX5_swap 10 rfl) (by decide) ?_
      exact WPe_ireturn (pc := 21) (dd dtX5_swap 11 rfl) rfl rfl ⟨(Nat.le_of_ble_eq_true rfl), (Nat.le_of_ble_eq_true rfl)⟩
    · refine WPe_aload_n (pc := 22) 0 (dd dtX5_swap 12 rfl) rfl ?_
      refine WPe_ck fun h9 => ?_
      refine WPe_callV (pc := 23) (rtc := rtV) (Mc := mX5_think) (d' := 3) (mc' := 0) (ms' := 0) [] [] rfl (dd dtX5_swap 13 rfl) (okf5_think x0 z5.2) moX5_think miX5_think (bw_mem3 53 rfl rfl) (Or.inl ⟨_, _, _, _, (shE h9), rfl⟩) rfl (Nat.le_of_ble_eq_true rfl) ⟨(Nat.le_of_ble_eq_true rfl), (Nat.le_of_ble_eq_true rfl)⟩ ⟨(Nat.le_of_ble_eq_true rfl), (Nat.le_of_ble_eq_true rfl)⟩ (fun z10 h11 e12 => ?_)
      refine WPe_st (st2 := []) rfl ?_
      refine WPe_aload_n (pc := 26) 0 (dd dtX5_swap 14 rfl) rfl ?_
      refine WPe_iload_n (pc := 27) 1 (dd dtX5_swap 15 rfl) rfl ?_
      refine WPe_callV (pc := 28) (rtc := rtI) (Mc := mX5_joyBehind) (d' := 6) (mc' := 0) (ms' := 0) [vI x1] [] rfl (dd dtX5_swap 16 rfl) (okf5_joyBehind x0 x1 z10.2) moX5_joyBehind miX5_joyBehind (bw_mem3 65 rfl rfl) (Or.inl ⟨_, _, _, _, (e12.at (shE h9) (by decide)), rfl⟩) rfl (Nat.le_of_ble_eq_true rfl) ⟨(Nat.le_of_ble_eq_true rfl), (Nat.le_of_ble_eq_true rfl)⟩ ⟨(Nat.le_of_ble_eq_true rfl), (Nat.le_of_ble_eq_true rfl)⟩ (fun z13 h14 e15 => ?_)
      refine WPe_st (st2 := [vI z13.1]) rfl ?_
      refine WPe_istore_n (pc := 31) (ls' := [(3, vI z13.1), (0, vR x0), (1, vI x1), (2, vI x2)]) (dd dtX5_swap 17 rfl) (Nat.le_of_ble_eq_true rfl) rfl ?_
      refine WPe_iconst (pc := 32) (-1 : Int32) (dd dtX5_swap 18 rfl) (by decide) ?_
      refine WPe_istore (pc := 33) (ls' := [(4, vI (-1 : Int32)), (3, vI z13.1), (0, vR x0), (1, vI x1), (2, vI x2)]) (dd dtX5_swap 19 rfl) (Nat.le_of_ble_eq_true rfl) rfl ?_
      refine WPe_iconst (pc := 35) (0 : Int32) (dd dtX5_swap 20 rfl) (by decide) ?_
      refine WPe_istore (pc := 36) (ls' := [(5, vI (0 : Int32)), (4, vI (-1 : Int32)), (3, vI z13.1), (0, vR x0), (1, vI x1), (2, vI x2)]) (dd dtX5_swap 21 rfl) (Nat.le_of_ble_eq_true rfl) rfl ?_
      refine WPe_sub [3, 4, 5, 2, 1, 0] rfl ?_
      exact wplb5_swap_38 X w0  FU _ _
theorem okf5_swap (x0 : Nat) (x1 : Int32) (x2 : Int32) (w : Wd) : ∀ z, f5_swap x0 x1 x2 w = some z → OkM mX5_swap 7 0 0 [vR x0, vI x1, vI x2] w (rtI z.1) z.2 :=
  OkM.of (rt := rtI) moX5_swap (Nat.le_of_ble_eq_true rfl) (fun X => wpf5_swap X w x0 x1 x2 w)
def tbX5_logs : List (Nat × Instr × Nat) := [(0, .iload_n 1, 1), (1, .iconst 0, 1), (2, .bipush 40, 2), (4, .invokestatic 111, 3), (7, .ifCond .eq 12, 3), (10, .iload_n 2, 1), (11, .iconst 0, 1), (12, .iconst 1, 1), (13, .invokestatic 111, 3), (16, .ifCond .ne 6, 3), (19, .bipush (-2), 2), (21, .ireturn, 1), (22, .iconst (-1), 1), (23, .istore_n 3, 1), (24, .iconst 0, 1), (25, .istore 4, 2), (27, .iconst 0, 1), (28, .istore 5, 2), (30, .iload 5, 2), (32, .bipush 9, 2), (34, .if_icmp .gt 68, 3), (37, .iload 5, 2), (39, .aload_n 0, 1), (40, .getfield 48, 3), (43, .getfield 97, 3), (46, .if_icmp .gt 56, 3), (49, .aload_n 0, 1), (50, .invokevirtual 172, 3), (53, .iconst 0, 1), (54, .istore 6, 2), (56, .iload 6, 2), (58, .iload 5, 2), (60, .if_icmp .ge 16, 3), (63, .aload_n 0, 1), (64, .getfield 52, 3), (67, .invokevirtual 163, 3), (70, .iinc 6 1, 3), (73, .goto (-17), 3), (76, .aload_n 0, 1), (77, .iload_n 1, 1), (78, .invokevirtual 175, 3), (81, .istore 6, 2), (83, .iload 6, 2), (85, .iload_n 3, 1), (86, .if_icmp .le 10, 3), (89, .iload 6, 2), (91, .istore_n 3, 1), (92, .iload 5, 2), (94, .istore 4, 2), (96, .iinc 5 1, 3), (99, .goto (-69), 3), (102, .iload_n 2, 1), (103, .ifCond .ne 8, 3), (106, .iload 4, 2), (108, .goto 4, 3), (111, .iload_n 3, 1), (112, .ireturn, 1)]
set_option maxRecDepth 20000 in
theorem dtX5_logs : ∀ x ∈ tbX5_logs, decode cX5_logs x.1 = .ok x.2 := by decide +kernel
noncomputable def j5_logs_102  (x2 : Int32) (x3 : Int32) (x4 : Int32) (w : Wd) : Option (Int32 × Wd) :=
  if x2 = (0 : Int32) then (some (x4, w)) else (some (x3, w))
theorem wpj5_logs_102 (X : CX) (w0 : Wd)  (x2 : Int32) (x3 : Int32) (x4 : Int32) (w : Wd) : WPe rtI X (mX5_logs, 7, 0, 0, w0) 0 0 (j5_logs_102  x2 x3 x4 w) 102 [(2, vI x2), (3, vI x3), (4, vI x4)] [] w := by
  unfold j5_logs_102
  refine WPe_iload_n (pc := 102) 0 (dd dtX5_logs 51 rfl) rfl ?_
  refine WPe_if_ne (pc := 103) 111 (dd dtX5_logs 52 rfl) (by decide) (fun h10 => ?_) (fun h10 => ?_)
  · refine WPe_iload (pc := 106) 2 (dd dtX5_logs 53 rfl) rfl ?_
    refine WPe_goto (pc := 108) 112 (dd dtX5_logs 54 rfl) (by decide) ?_
    exact WPe_ireturn (pc := 112) (dd dtX5_logs 56 rfl) rfl rfl ⟨(Nat.le_of_ble_eq_true rfl), (Nat.le_of_ble_eq_true rfl)⟩
  · refine WPe_iload_n (pc := 111) 1 (dd dtX5_logs 55 rfl) rfl ?_
    exact WPe_ireturn (pc := 112) (dd dtX5_logs 56 rfl) rfl rfl ⟨(Nat.le_of_ble_eq_true rfl), (Nat.le_of_ble_eq_true rfl)⟩
noncomputable def j5_logs_96 (k30 : Nat × Int32 × Int32 × Int32 × Int32 × Int32 → Wd → Option (Int32 × Wd)) (x0 : Nat) (x1 : Int32) (x2 : Int32) (x3 : Int32) (x4 : Int32) (x5 : Int32) (w : Wd) : Option (Int32 × Wd) :=
  k30 (x0, x1, x2, x3, x4, (x5 + (1 : Int32))) w
theorem wpj5_logs_96 (X : CX) (w0 : Wd) (k30 : Nat × Int32 × Int32 × Int32 × Int32 × Int32 → Wd → Option (Int32 × Wd)) (hk30 : ∀ (v : Nat × Int32 × Int32 × Int32 × Int32 × Int32) (w : Wd), WPe rtI X (mX5_logs, 7, 0, 0, w0) 0 0 (k30 v w) 30 [(0, vR v.1), (1, vI v.2.1), (2, vI v.2.2.1), (3, vI v.2.2.2.1), (4, vI v.2.2.2.2.1), (5, vI v.2.2.2.2.2)] [] w) (x0 : Nat) (x1 : Int32) (x2 : Int32) (x3 : Int32) (x4 : Int32) (x5 : Int32) (w : Wd) : WPe rtI X (mX5_logs, 7, 0, 0, w0) 0 0 (j5_logs_96 k30 x0 x1 x2 x3 x4 x5 w) 96 [(0, vR x0), (1, vI x1), (2, vI x2), (3, vI x3), (4, vI x4), (5, vI x5)] [] w := by
  unfold j5_logs_96
  refine WPe_iinc (pc := 96) (ls' := [(5, vI (x5 + (1 : Int32))), (0, vR x0), (1, vI x1), (2, vI x2), (3, vI x3), (4, vI x4)]) 5 (x5 + (1 : Int32)) (dd dtX5_logs 49 rfl) rfl (congrArg (HAdd.hAdd _) (by decide : Int32.ofInt (1) = (1 : Int32))) (Nat.le_of_ble_eq_true rfl) rfl ?_
  refine WPe_goto (pc := 99) 30 (dd dtX5_logs 50 rfl) (by decide) ?_
  refine WPe_sub [1, 2, 3, 4, 5, 0] rfl ?_
  exact hk30 (x0, x1, x2, x3, x4, (x5 + (1 : Int32))) w
noncomputable def b5_logs_56 (k30 : Nat × Int32 × Int32 × Int32 × Int32 × Int32 → Wd → Option (Int32 × Wd)) (k56 : Nat × Int32 × Int32 × Int32 × Int32 × Int32 × Int32 → Wd → Option (Int32 × Wd)) (v : Nat × Int32 × Int32 × Int32 × Int32 × Int32 × Int32) (w : Wd) : Option (Int32 × Wd) :=
  if v.2.2.2.2.2.1 ≤ v.2.2.2.2.2.2 then (ck (tg w v.1 = 5) ((f5_joyBehind v.1 v.2.1 w).bind fun z19 => (if z19.1 ≤ v.2.2.2.1 then (j5_logs_96 k30 v.1 v.2.1 v.2.2.1 v.2.2.2.1 v.2.2.2.2.1 v.2.2.2.2.2.1 z19.2) else (j5_logs_96 k30 v.1 v.2.1 v.2.2.1 z19.1 v.2.2.2.2.2.1 v.2.2.2.2.2.1 z19.2)))) else (ck (tg w v.1 = 5) (ck (tg w (wr w v.1 4) = 1) ((f1_burnLog (wr w v.1 4) w).bind fun z25 => (k56 (v.1, v.2.1, v.2.2.1, v.2.2.2.1, v.2.2.2.2.1, v.2.2.2.2.2.1, (v.2.2.2.2.2.2 + (1 : Int32))) z25.2))))
theorem wpb5_logs_56 (X : CX) (w0 : Wd) (k30 : Nat × Int32 × Int32 × Int32 × Int32 × Int32 → Wd → Option (Int32 × Wd)) (hk30 : ∀ (v : Nat × Int32 × Int32 × Int32 × Int32 × Int32) (w : Wd), WPe rtI X (mX5_logs, 7, 0, 0, w0) 0 0 (k30 v w) 30 [(0, vR v.1), (1, vI v.2.1), (2, vI v.2.2.1), (3, vI v.2.2.2.1), (4, vI v.2.2.2.2.1), (5, vI v.2.2.2.2.2)] [] w) (k56 : Nat × Int32 × Int32 × Int32 × Int32 × Int32 × Int32 → Wd → Option (Int32 × Wd)) (hk56 : ∀ (v : Nat × Int32 × Int32 × Int32 × Int32 × Int32 × Int32) (w : Wd), WPe rtI X (mX5_logs, 7, 0, 0, w0) 0 0 (k56 v w) 56 [(0, vR v.1), (1, vI v.2.1), (2, vI v.2.2.1), (3, vI v.2.2.2.1), (4, vI v.2.2.2.2.1), (5, vI v.2.2.2.2.2.1), (6, vI v.2.2.2.2.2.2)] [] w) (v : Nat × Int32 × Int32 × Int32 × Int32 × Int32 × Int32) (w : Wd) : WPe rtI X (mX5_logs, 7, 0, 0, w0) 0 0 (b5_logs_56 k30 k56 v w) 56 [(0, vR v.1), (1, vI v.2.1), (2, vI v.2.2.1), (3, vI v.2.2.2.1), (4, vI v.2.2.2.2.1), (5, vI v.2.2.2.2.2.1), (6, vI v.2.2.2.2.2.2)] [] w := by
  unfold b5_logs_56
  refine WPe_iload (pc := 56) 6 (dd dtX5_logs 30 rfl) rfl ?_
  refine WPe_iload (pc := 58) 5 (dd dtX5_logs 31 rfl) rfl ?_
  refine WPe_icmp_ge (pc := 60) 76 (dd dtX5_logs 32 rfl) (by decide) (fun h17 => ?_) (fun h17 => ?_)
  · refine WPe_aload_n (pc := 76) 0 (dd dtX5_logs 38 rfl) rfl ?_
    refine WPe_iload_n (pc := 77) 1 (dd dtX5_logs 39 rfl) rfl ?_
    refine WPe_ck fun h18 => ?_
    refine WPe_callV (pc := 78) (rtc := rtI) (Mc := mX5_joyBehind) (d' := 6) (mc' := 0) (ms' := 0) [vI v.2.1] [] rfl (dd dtX5_logs 40 rfl) (okf5_joyBehind v.1 v.2.1 w) moX5_joyBehind miX5_joyBehind (bw_mem3 65 rfl rfl) (Or.inl ⟨_, _, _, _, (shE h18), rfl⟩) rfl (Nat.le_of_ble_eq_true rfl) ⟨(Nat.le_of_ble_eq_true rfl), (Nat.le_of_ble_eq_true rfl)⟩ ⟨(Nat.le_of_ble_eq_true rfl), (Nat.le_of_ble_eq_true rfl)⟩ (fun z19 h20 e21 => ?_)
    refine WPe_st (st2 := [vI z19.1]) rfl ?_
    refine WPe_istore (pc := 81) (ls' := [(6, vI z19.1), (0, vR v.1), (1, vI v.2.1), (2, vI v.2.2.1), (3, vI v.2.2.2.1), (4, vI v.2.2.2.2.1), (5, vI v.2.2.2.2.2.1)]) (dd dtX5_logs 41 rfl) (Nat.le_of_ble_eq_true rfl) rfl ?_
    refine WPe_iload (pc := 83) 0 (dd dtX5_logs 42 rfl) rfl ?_
    refine WPe_iload_n (pc := 85) 4 (dd dtX5_logs 43 rfl) rfl ?_
    refine WPe_icmp_le (pc := 86) 96 (dd dtX5_logs 44 rfl) (by decide) (fun h22 => ?_) (fun h22 => ?_)
    · refine WPe_sub [1, 2, 3, 4, 5, 6] rfl ?_
      exact wpj5_logs_96 X w0 k30 hk30 v.1 v.2.1 v.2.2.1 v.2.2.2.1 v.2.2.2.2.1 v.2.2.2.2.2.1 z19.2
    · refine WPe_iload (pc := 89) 0 (dd dtX5_logs 45 rfl) rfl ?_
      refine WPe_istore_n (pc := 91) (ls' := [(3, vI z19.1), (6, vI z19.1), (0, vR v.1), (1, vI v.2.1), (2, vI v.2.2.1), (4, vI v.2.2.2.2.1), (5, vI v.2.2.2.2.2.1)]) (dd dtX5_logs 46 rfl) (Nat.le_of_ble_eq_true rfl) rfl ?_
      refine WPe_iload (pc := 92) 6 (dd dtX5_logs 47 rfl) rfl ?_
      refine WPe_istore (pc := 94) (ls' := [(4, vI v.2.2.2.2.2.1), (3, vI z19.1), (6, vI z19.1), (0, vR v.1), (1, vI v.2.1), (2, vI v.2.2.1), (5, vI v.2.2.2.2.2.1)]) (dd dtX5_logs 48 rfl) (Nat.le_of_ble_eq_true rfl) rfl ?_
      refine WPe_sub [3, 4, 5, 1, 0, 6] rfl ?_
      exact wpj5_logs_96 X w0 k30 hk30 v.1 v.2.1 v.2.2.1 z19.1 v.2.2.2.2.2.1 v.2.2.2.2.2.1 z19.2
  · refine WPe_aload_n (pc := 63) 0 (dd dtX5_logs 33 rfl) rfl ?_
    refine WPe_ck fun h23 => ?_
    refine WPe_getR (pc := 64) (t := 5) (C := RX5) (T := TX5) 4 (dd dtX5_logs 34 rfl) (shE h23) rfl (Nat.le_of_ble_eq_true rfl) rfl (bw_mem2 124 rfl rfl) ?_
    refine WPe_ck fun h24 => ?_
    refine WPe_callV (pc := 67) (rtc := rtV) (Mc := mX1_burnLog) (d' := 1) (mc' := 0) (ms' := 0) [] [] rfl (dd dtX5_logs 35 rfl) (okf1_burnLog (wr w v.1 4) w) moX1_burnLog miX1_burnLog (bw_mem3 19 rfl rfl) (Or.inl ⟨_, _, _, _, (shE h24), rfl⟩) rfl (Nat.le_of_ble_eq_true rfl) ⟨(Nat.le_of_ble_eq_true rfl), (Nat.le_of_ble_eq_true rfl)⟩ ⟨(Nat.le_of_ble_eq_true rfl), (Nat.le_of_ble_eq_true rfl)⟩ (fun z25 h26 e27 => ?_)
    refine WPe_st (st2 := []) rfl ?_
    refine WPe_iinc (pc := 70) (ls' := [(6, vI (v.2.2.2.2.2.2 + (1 : Int32))), (0, vR v.1), (1, vI v.2.1), (2, vI v.2.2.1), (3, vI v.2.2.2.1), (4, vI v.2.2.2.2.1), (5, vI v.2.2.2.2.2.1)]) 6 (v.2.2.2.2.2.2 + (1 : Int32)) (dd dtX5_logs 36 rfl) rfl (congrArg (HAdd.hAdd _) (by decide : Int32.ofInt (1) = (1 : Int32))) (Nat.le_of_ble_eq_true rfl) rfl ?_
    refine WPe_goto (pc := 73) 56 (dd dtX5_logs 37 rfl) (by decide) ?_
    refine WPe_sub [1, 2, 3, 4, 5, 6, 0] rfl ?_
    exact hk56 (v.1, v.2.1, v.2.2.1, v.2.2.2.1, v.2.2.2.2.1, v.2.2.2.2.2.1, (v.2.2.2.2.2.2 + (1 : Int32))) z25.2
theorem wplb5_logs_56 (X : CX) (w0 : Wd) (k30 : Nat × Int32 × Int32 × Int32 × Int32 × Int32 → Wd → Option (Int32 × Wd)) (hk30 : ∀ (v : Nat × Int32 × Int32 × Int32 × Int32 × Int32) (w : Wd), WPe rtI X (mX5_logs, 7, 0, 0, w0) 0 0 (k30 v w) 30 [(0, vR v.1), (1, vI v.2.1), (2, vI v.2.2.1), (3, vI v.2.2.2.1), (4, vI v.2.2.2.2.1), (5, vI v.2.2.2.2.2)] [] w) : ∀ (n9 : Nat) (v : Nat × Int32 × Int32 × Int32 × Int32 × Int32 × Int32) (w : Wd), WPe rtI X (mX5_logs, 7, 0, 0, w0) 0 0 (loopF (b5_logs_56 k30) n9 v w) 56 [(0, vR v.1), (1, vI v.2.1), (2, vI v.2.2.1), (3, vI v.2.2.2.1), (4, vI v.2.2.2.2.1), (5, vI v.2.2.2.2.2.1), (6, vI v.2.2.2.2.2.2)] [] w :=
  WPe_loop (rt := rtI) (X := X) (M := (mX5_logs, 7, 0, 0, w0)) (fun v : Nat × Int32 × Int32 × Int32 × Int32 × Int32 × Int32 => [(0, vR v.1), (1, vI v.2.1), (2, vI v.2.2.1), (3, vI v.2.2.2.1), (4, vI v.2.2.2.2.1), (5, vI v.2.2.2.2.2.1), (6, vI v.2.2.2.2.2.2)]) (fun k hk v w => wpb5_logs_56 X w0 k30 hk30 k hk v w)
noncomputable def b5_logs_30 (k30 : Nat × Int32 × Int32 × Int32 × Int32 × Int32 → Wd → Option (Int32 × Wd)) (v : Nat × Int32 × Int32 × Int32 × Int32 × Int32) (w : Wd) : Option (Int32 × Wd) :=
  if (9 : Int32) < v.2.2.2.2.2 then (j5_logs_102 v.2.2.1 v.2.2.2.1 v.2.2.2.2.1 w) else (ck (tg w v.1 = 5) (ck (tg w (wr w v.1 3) = 1) (if (wi w (wr w v.1 3) 3) < v.2.2.2.2.2 then (j5_logs_102 v.2.2.1 v.2.2.2.1 v.2.2.2.2.1 w) else ((f5_think v.1 w).bind fun z14 => (loopF (b5_logs_56 k30) FU (v.1, v.2.1, v.2.2.1, v.2.2.2.1, v.2.2.2.2.1, v.2.2.2.2.2, (0 : Int32)) z14.2)))))
theorem wpb5_logs_30 (X : CX) (w0 : Wd) (k30 : Nat × Int32 × Int32 × Int32 × Int32 × Int32 → Wd → Option (Int32 × Wd)) (hk30 : ∀ (v : Nat × Int32 × Int32 × Int32 × Int32 × Int32) (w : Wd), WPe rtI X (mX5_logs, 7, 0, 0, w0) 0 0 (k30 v w) 30 [(0, vR v.1), (1, vI v.2.1), (2, vI v.2.2.1), (3, vI v.2.2.2.1), (4, vI v.2.2.2.2.1), (5, vI v.2.2.2.2.2)] [] w) (v : Nat × Int32 × Int32 × Int32 × Int32 × Int32) (w : Wd) : WPe rtI X (mX5_logs, 7, 0, 0, w0) 0 0 (b5_logs_30 k30 v w) 30 [(0, vR v.1), (1, vI v.2.1), (2, vI v.2.2.1), (3, vI v.2.2.2.1), (4, vI v.2.2.2.2.1), (5, vI v.2.2.2.2.2)] [] w := by
  unfold b5_logs_30
  refine WPe_iload (pc := 30) 5 (dd dtX5_logs 18 rfl) rfl ?_
  refine WPe_bipush (pc := 32) (9 : Int32) (dd dtX5_logs 19 rfl) (by decide) ?_
  refine WPe_icmp_gt (pc := 34) 102 (dd dtX5_logs 20 rfl) (by decide) (fun h9 => ?_) (fun h9 => ?_)
  · refine WPe_sub [2, 3, 4] rfl ?_
    exact wpj5_logs_102 X w0  v.2.2.1 v.2.2.2.1 v.2.2.2.2.1 w
  · refine WPe_iload (pc := 37) 5 (dd dtX5_logs 21 rfl) rfl ?_
    refine WPe_aload_n (pc := 39) 0 (dd dtX5_logs 22 rfl) rfl ?_
    refine WPe_ck fun h11 => ?_
    refine WPe_getR (pc := 40) (t := 5) (C := RX5) (T := TX5) 3 (dd dtX5_logs 23 rfl) (shE h11) rfl (Nat.le_of_ble_eq_true rfl) rfl (bw_mem2 123 rfl rfl) ?_
    refine WPe_ck fun h12 => ?_
    refine WPe_getI (pc := 43) (t := 1) (C := RX1) (T := TX1) 3 (dd dtX5_logs 24 rfl) (shE h12) rfl (Nat.le_of_ble_eq_true rfl) rfl (bw_mem2 78 rfl rfl) ?_
    refine WPe_icmp_gt (pc := 46) 102 (dd dtX5_logs 25 rfl) (by decide) (fun h13 => ?_) (fun h13 => ?_)
    · refine WPe_sub [2, 3, 4] rfl ?_
      exact wpj5_logs_102 X w0  v.2.2.1 v.2.2.2.1 v.2.2.2.2.1 w
    · refine WPe_aload_n (pc := 49) 0 (dd dtX5_logs 26 rfl) rfl ?_
      refine WPe_callV (pc := 50) (rtc := rtV) (Mc := mX5_think) (d' := 3) (mc' := 0) (ms' := 0) [] [] rfl (dd dtX5_logs 27 rfl) (okf5_think v.1 w) moX5_think miX5_think (bw_mem3 53 rfl rfl) (Or.inl ⟨_, _, _, _, (shE h11), rfl⟩) rfl (Nat.le_of_ble_eq_true rfl) ⟨(Nat.le_of_ble_eq_true rfl), (Nat.le_of_ble_eq_true rfl)⟩ ⟨(Nat.le_of_ble_eq_true rfl), (Nat.le_of_ble_eq_true rfl)⟩ (fun z14 h15 e16 => ?_)
      refine WPe_st (st2 := []) rfl ?_
      refine WPe_iconst (pc := 53) (0 : Int32) (dd dtX5_logs 28 rfl) (by decide) ?_
      refine WPe_istore (pc := 54) (ls' := [(6, vI (0 : Int32)), (0, vR v.1), (1, vI v.2.1), (2, vI v.2.2.1), (3, vI v.2.2.2.1), (4, vI v.2.2.2.2.1), (5, vI v.2.2.2.2.2)]) (dd dtX5_logs 29 rfl) (Nat.le_of_ble_eq_true rfl) rfl ?_
      refine WPe_sub [1, 2, 3, 4, 5, 6, 0] rfl ?_
      exact wplb5_logs_56 X w0 k30 hk30 FU _ _
theorem wplb5_logs_30 (X : CX) (w0 : Wd)  : ∀ (n9 : Nat) (v : Nat × Int32 × Int32 × Int32 × Int32 × Int32) (w : Wd), WPe rtI X (mX5_logs, 7, 0, 0, w0) 0 0 (loopF (b5_logs_30 ) n9 v w) 30 [(0, vR v.1), (1, vI v.2.1), (2, vI v.2.2.1), (3, vI v.2.2.2.1), (4, vI v.2.2.2.2.1), (5, vI v.2.2.2.2.2)] [] w :=
  WPe_loop (rt := rtI) (X := X) (M := (mX5_logs, 7, 0, 0, w0)) (fun v : Nat × Int32 × Int32 × Int32 × Int32 × Int32 => [(0, vR v.1), (1, vI v.2.1), (2, vI v.2.2.1), (3, vI v.2.2.2.1), (4, vI v.2.2.2.2.1), (5, vI v.2.2.2.2.2)]) (fun k hk v w => wpb5_logs_30 X w0  k hk v w)
noncomputable def f5_logs (x0 : Nat) (x1 : Int32) (x2 : Int32) (w : Wd) : Option (Int32 × Wd) :=
  (f5_isWithin x1 (0 : Int32) (40 : Int32) w).bind fun z1 => (if z1.1 = (0 : Int32) then (some ((-2 : Int32), z1.2)) else ((f5_isWithin x2 (0 : Int32) (1 : Int32) z1.2).bind fun z5 => (if z5.1 = (0 : Int32) then (some ((-2 : Int32), z5.2)) else (loopF (b5_logs_30) FU (x0, x1, x2, (-1 : Int32), (0 : Int32), (0 : Int32)) z5.2))))
theorem wpf5_logs (X : CX) (w0 : Wd) (x0 : Nat) (x1 : Int32) (x2 : Int32) (w : Wd) : WPe rtI X (mX5_logs, 7, 0, 0, w0) 0 0 (f5_logs x0 x1 x2 w) 0 [(0, vR x0), (1, vI x1), (2, vI x2)] [] w := by
  unfold f5_logs
  refine WPe_iload_n (pc := 0) 1 (dd dtX5_logs 0 rfl) rfl ?_
  refine WPe_iconst (pc := 1) (0 : Int32) (dd dtX5_logs 1 rfl) (by decide) ?_
  refine WPe_bipush (pc := 2) (40 : Int32) (dd dtX5_logs 2 rfl) (by decide) ?_
  refine WPe_callS (pc := 4) (rtc := rtI) (Mc := mX5_isWithin) (d' := 1) (mc' := 0) (ms' := 0) [vI x1, vI (0 : Int32), vI (40 : Int32)] [] rfl (dd dtX5_logs 3 rfl) (okf5_isWithin x1 (0 : Int32) (40 : Int32) w) moX5_isWithin msX5_isWithin (bw_mem2 176 rfl rfl) rfl (Nat.le_of_ble_eq_true rfl) ⟨(Nat.le_of_ble_eq_true rfl), (Nat.le_of_ble_eq_true rfl)⟩ ⟨(Nat.le_of_ble_eq_true rfl), (Nat.le_of_ble_eq_true rfl)⟩ (fun z1 h2 e3 => ?_)
  refine WPe_st (st2 := [vI z1.1]) rfl ?_
  refine WPe_if_eq (pc := 7) 19 (dd dtX5_logs 4 rfl) (by decide) (fun h4 => ?_) (fun h4 => ?_)
  · refine WPe_bipush (pc := 19) (-2 : Int32) (dd dtX5_logs 10 rfl) (by decide) ?_
    exact WPe_ireturn (pc := 21) (dd dtX5_logs 11 rfl) rfl rfl ⟨(Nat.le_of_ble_eq_true rfl), (Nat.le_of_ble_eq_true rfl)⟩
  · refine WPe_iload_n (pc := 10) 2 (dd dtX5_logs 5 rfl) rfl ?_
    refine WPe_iconst (pc := 11) (0 : Int32) (dd dtX5_logs 6 rfl) (by decide) ?_
    refine WPe_iconst (pc := 12) (1 : Int32) (dd dtX5_logs 7 rfl) (by decide) ?_
    refine WPe_callS (pc := 13) (rtc := rtI) (Mc := mX5_isWithin) (d' := 1) (mc' := 0) (ms' := 0) [vI x2, vI (0 : Int32), vI (1 : Int32)] [] rfl (dd dtX5_logs 8 rfl) (okf5_isWithin x2 (0 : Int32) (1 : Int32) z1.2) moX5_isWithin msX5_isWithin (bw_mem2 176 rfl rfl) rfl (Nat.le_of_ble_eq_true rfl) ⟨(Nat.le_of_ble_eq_true rfl), (Nat.le_of_ble_eq_true rfl)⟩ ⟨(Nat.le_of_ble_eq_true rfl), (Nat.le_of_ble_eq_true rfl)⟩ (fun z5 h6 e7 => ?_)
    refine WPe_st (st2 := [vI z5.1]) rfl ?_
    refine WPe_if_ne (pc := 16) 22 (dd dtX5_logs 9 rfl) (by decide) (fun h8 => ?_) (fun h8 => ?_)
    · refine WPe_bipush (pc := 19) (-2 : Int32) (dd dtX5_logs 10 rfl) (by decide) ?_
      exact WPe_ireturn (pc := 21) (dd dtX5_logs 11 rfl) rfl rfl ⟨(Nat.le_of_ble_eq_true rfl), (Nat.le_of_ble_eq_true rfl)⟩
    · refine WPe_iconst (pc := 22) (-1 : Int32) (dd dtX5_logs 12 rfl) (by decide) ?_
      refine WPe_istore_n (pc := 23) (ls' := [(3, vI (-1 : Int32)), (0, vR x0), (1, vI x1), (2, vI x2)]) (dd dtX5_logs 13 rfl) (Nat.le_of_ble_eq_true rfl) rfl ?_
      refine WPe_iconst (pc := 24) (0 : Int32) (dd dtX5_logs 14 rfl) (by decide) ?_
      refine WPe_istore (pc := 25) (ls' := [(4, vI (0 : Int32)), (3, vI (-1 : Int32)), (0, vR x0), (1, vI x1), (2, vI x2)]) (dd dtX5_logs 15 rfl) (Nat.le_of_ble_eq_true rfl) rfl ?_
      refine WPe_iconst (pc := 27) (0 : Int32) (dd dtX5_logs 16 rfl) (by decide) ?_
      refine WPe_istore (pc := 28) (ls' := [(5, vI (0 : Int32)), (4, vI (0 : Int32)), (3, vI (-1 : Int32)), (0, vR x0), (1, vI x1), (2, vI x2)]) (dd dtX5_logs 17 rfl) (Nat.le_of_ble_eq_true rfl) rfl ?_
      refine WPe_sub [3, 4, 5, 2, 1, 0] rfl ?_
      exact wplb5_logs_30 X w0  FU _ _
theorem okf5_logs (x0 : Nat) (x1 : Int32) (x2 : Int32) (w : Wd) : ∀ z, f5_logs x0 x1 x2 w = some z → OkM mX5_logs 7 0 0 [vR x0, vI x1, vI x2] w (rtI z.1) z.2 :=
  OkM.of (rt := rtI) moX5_logs (Nat.le_of_ble_eq_true rfl) (fun X => wpf5_logs X w x0 x1 x2 w)
def tbX5_stays : List (Nat × Instr × Nat) := [(0, .aload_n 0, 1), (1, .getfield 48, 3), (4, .iload_n 1, 1), (5, .invokevirtual 115, 3), (8, .ifCond .ne 6, 3), (11, .bipush (-5), 2), (13, .ireturn, 1), (14, .iload_n 2, 1), (15, .iconst 0, 1), (16, .iconst 1, 1), (17, .invokestatic 111, 3), (20, .ifCond .ne 6, 3), (23, .bipush (-7), 2), (25, .ireturn, 1), (26, .iconst (-1), 1), (27, .istore_n 3, 1), (28, .iconst 0, 1), (29, .istore 4, 2), (31, .iconst 0, 1), (32, .istore 5, 2), (34, .iload 5, 2), (36, .iconst 2, 1), (37, .if_icmp .gt 47, 3), (40, .aload_n 0, 1), (41, .invokevirtual 172, 3), (44, .aload_n 0, 1), (45, .getfield 52, 3), (48, .getfield 118, 3), (51, .iload_n 1, 1), (52, .aaload, 1), (53, .iload 5, 2), (55, .putfield 133, 3), (58, .aload_n 0, 1), (59, .iload_n 1, 1), (60, .invokevirtual 181, 3), (63, .istore 6, 2), (65, .iload 6, 2), (67, .iload_n 3, 1), (68, .if_icmp .lt 10, 3), (71, .iload 6, 2), (73, .istore_n 3, 1), (74, .iload 5, 2), (76, .istore 4, 2), (78, .iinc 5 1, 3), (81, .goto (-47), 3), (84, .iload_n 2, 1), (85, .ifCond .ne 8, 3), (88, .iload 4, 2), (90, .goto 4, 3), (93, .iload_n 3, 1), (94, .ireturn, 1)]
set_option maxRecDepth 20000 in
theorem dtX5_stays : ∀ x ∈ tbX5_stays, decode cX5_stays x.1 = .ok x.2 := by decide +kernel
noncomputable def j5_stays_78 (k34 : Nat × Int32 × Int32 × Int32 × Int32 × Int32 → Wd → Option (Int32 × Wd)) (x0 : Nat) (x1 : Int32) (x2 : Int32) (x3 : Int32) (x4 : Int32) (x5 : Int32) (w : Wd) : Option (Int32 × Wd) :=
  k34 (x0, x1, x2, x3, x4, (x5 + (1 : Int32))) w
theorem wpj5_stays_78 (X : CX) (w0 : Wd) (k34 : Nat × Int32 × Int32 × Int32 × Int32 × Int32 → Wd → Option (Int32 × Wd)) (hk34 : ∀ (v : Nat × Int32 × Int32 × Int32 × Int32 × Int32) (w : Wd), WPe rtI X (mX5_stays, 7, 0, 0, w0) 0 0 (k34 v w) 34 [(0, vR v.1), (1, vI v.2.1), (2, vI v.2.2.1), (3, vI v.2.2.2.1), (4, vI v.2.2.2.2.1), (5, vI v.2.2.2.2.2)] [] w) (x0 : Nat) (x1 : Int32) (x2 : Int32) (x3 : Int32) (x4 : Int32) (x5 : Int32) (w : Wd) : WPe rtI X (mX5_stays, 7, 0, 0, w0) 0 0 (j5_stays_78 k34 x0 x1 x2 x3 x4 x5 w) 78 [(0, vR x0), (1, vI x1), (2, vI x2), (3, vI x3), (4, vI x4), (5, vI x5)] [] w := by
  unfold j5_stays_78
  refine WPe_iinc (pc := 78) (ls' := [(5, vI (x5 + (1 : Int32))), (0, vR x0), (1, vI x1), (2, vI x2), (3, vI x3), (4, vI x4)]) 5 (x5 + (1 : Int32)) (dd dtX5_stays 43 rfl) rfl (congrArg (HAdd.hAdd _) (by decide : Int32.ofInt (1) = (1 : Int32))) (Nat.le_of_ble_eq_true rfl) rfl ?_
  refine WPe_goto (pc := 81) 34 (dd dtX5_stays 44 rfl) (by decide) ?_
  refine WPe_sub [1, 2, 3, 4, 5, 0] rfl ?_
  exact hk34 (x0, x1, x2, x3, x4, (x5 + (1 : Int32))) w
noncomputable def b5_stays_34 (k34 : Nat × Int32 × Int32 × Int32 × Int32 × Int32 → Wd → Option (Int32 × Wd)) (v : Nat × Int32 × Int32 × Int32 × Int32 × Int32) (w : Wd) : Option (Int32 × Wd) :=
  if (2 : Int32) < v.2.2.2.2.2 then (if v.2.2.1 = (0 : Int32) then (some (v.2.2.2.2.1, w)) else (some (v.2.2.2.1, w))) else (ck (tg w v.1 = 5) ((f5_think v.1 w).bind fun z14 => (ck (tg z14.2 (wr z14.2 v.1 4) = 1) (ck (tg z14.2 (wr z14.2 (wr z14.2 v.1 4) 6) = 22 ∧ vp_in v.2.1 (ln z14.2 (wr z14.2 (wr z14.2 v.1 4) 6))) (ck (tg z14.2 (wr z14.2 (wr z14.2 (wr z14.2 v.1 4) 6) (v.2.1).toNatClampNeg) = 0) (lw (sI z14.2 (wr z14.2 (wr z14.2 (wr z14.2 v.1 4) 6) (v.2.1).toNatClampNeg) 2 v.2.2.2.2.2) fun w20 => ((f5_minutesTillOut v.1 v.2.1 w20).bind fun z22 => (if z22.1 < v.2.2.2.1 then (j5_stays_78 k34 v.1 v.2.1 v.2.2.1 v.2.2.2.1 v.2.2.2.2.1 v.2.2.2.2.2 z22.2) else (j5_stays_78 k34 v.1 v.2.1 v.2.2.1 z22.1 v.2.2.2.2.2 v.2.2.2.2.2 z22.2)))))))))
theorem wpb5_stays_34 (X : CX) (w0 : Wd) (k34 : Nat × Int32 × Int32 × Int32 × Int32 × Int32 → Wd → Option (Int32 × Wd)) (hk34 : ∀ (v : Nat × Int32 × Int32 × Int32 × Int32 × Int32) (w : Wd), WPe rtI X (mX5_stays, 7, 0, 0, w0) 0 0 (k34 v w) 34 [(0, vR v.1), (1, vI v.2.1), (2, vI v.2.2.1), (3, vI v.2.2.2.1), (4, vI v.2.2.2.2.1), (5, vI v.2.2.2.2.2)] [] w) (v : Nat × Int32 × Int32 × Int32 × Int32 × Int32) (w : Wd) : WPe rtI X (mX5_stays, 7, 0, 0, w0) 0 0 (b5_stays_34 k34 v w) 34 [(0, vR v.1), (1, vI v.2.1), (2, vI v.2.2.1), (3, vI v.2.2.2.1), (4, vI v.2.2.2.2.1), (5, vI v.2.2.2.2.2)] [] w := by
  unfold b5_stays_34
  refine WPe_iload (pc := 34) 5 (dd dtX5_stays 20 rfl) rfl ?_
  refine WPe_iconst (pc := 36) (2 : Int32) (dd dtX5_stays 21 rfl) (by decide) ?_
  refine WPe_icmp_gt (pc := 37) 84 (dd dtX5_stays 22 rfl) (by decide) (fun h11 => ?_) (fun h11 => ?_)
  · refine WPe_iload_n (pc := 84) 2 (dd dtX5_stays 45 rfl) rfl ?_
    refine WPe_if_ne (pc := 85) 93 (dd dtX5_stays 46 rfl) (by decide) (fun h12 => ?_) (fun h12 => ?_)
    · refine WPe_iload (pc := 88) 4 (dd dtX5_stays 47 rfl) rfl ?_
      refine WPe_goto (pc := 90) 94 (dd dtX5_stays 48 rfl) (by decide) ?_
      exact WPe_ireturn (pc := 94) (dd dtX5_stays 50 rfl) rfl rfl ⟨(Nat.le_of_ble_eq_true rfl), (Nat.le_of_ble_eq_true rfl)⟩
    · refine WPe_iload_n (pc := 93) 3 (dd dtX5_stays 49 rfl) rfl ?_
      exact WPe_ireturn (pc := 94) (dd dtX5_stays 50 rfl) rfl rfl ⟨(Nat.le_of_ble_eq_true rfl), (Nat.le_of_ble_eq_true rfl)⟩
  · refine WPe_aload_n (pc := 40) 0 (dd dtX5_stays 23 rfl) rfl ?_
    refine WPe_ck fun h13 => ?_
    refine WPe_callV (pc := 41) (rtc := rtV) (Mc := mX5_think) (d' := 3) (mc' := 0) (ms' := 0) [] [] rfl (dd dtX5_stays 24 rfl) (okf5_think v.1 w) moX5_think miX5_think (bw_mem3 53 rfl rfl) (Or.inl ⟨_, _, _, _, (shE h13), rfl⟩) rfl (Nat.le_of_ble_eq_true rfl) ⟨(Nat.le_of_ble_eq_true rfl), (Nat.le_of_ble_eq_true rfl)⟩ ⟨(Nat.le_of_ble_eq_true rfl), (Nat.le_of_ble_eq_true rfl)⟩ (fun z14 h15 e16 => ?_)
    refine WPe_st (st2 := []) rfl ?_
    refine WPe_aload_n (pc := 44) 0 (dd dtX5_stays 25 rfl) rfl ?_
    refine WPe_getR (pc := 45) (t := 5) (C := RX5) (T := TX5) 4 (dd dtX5_stays 26 rfl) (e16.at (shE h13) (by decide)) rfl (Nat.le_of_ble_eq_true rfl) rfl (bw_mem2 124 rfl rfl) ?_
    refine WPe_ck fun h17 => ?_
    refine WPe_getR (pc := 48) (t := 1) (C := RX1) (T := TX1) 6 (dd dtX5_stays 27 rfl) (shE h17) rfl (Nat.le_of_ble_eq_true rfl) rfl (bw_mem2 84 rfl rfl) ?_
    refine WPe_iload_n (pc := 51) 1 (dd dtX5_stays 28 rfl) rfl ?_
    refine WPe_ck fun h18 => ?_
    refine WPe_aald (pc := 52) (dd dtX5_stays 29 rfl) (shE h18.1) ⟨(Nat.le_of_ble_eq_true rfl), (Nat.le_of_ble_eq_true rfl)⟩ h18.2 ?_
    refine WPe_iload (pc := 53) 5 (dd dtX5_stays 30 rfl) rfl ?_
    refine WPe_ck fun h19 => ?_
    refine WPe_putI (pc := 55) (t := 0) (C := RX0) (T := TX0) 2 (dd dtX5_stays 31 rfl) (shE h19) rfl (Nat.le_of_ble_eq_true rfl) (bw_mem2 49 rfl rfl) (Or.inl rfl) rfl rfl rfl ?_
    refine WPe_lw fun w20 e21 => ?_
    refine WPe_aload_n (pc := 58) 0 (dd dtX5_stays 32 rfl) rfl ?_
    refine WPe_iload_n (pc := 59) 1 (dd dtX5_stays 33 rfl) rfl ?_
    refine WPe_callV (pc := 60) (rtc := rtI) (Mc := mX5_minutesTillOut) (d' := 6) (mc' := 0) (ms' := 0) [vI v.2.1] [] rfl (dd dtX5_stays 34 rfl) (okf5_minutesTillOut v.1 v.2.1 w20) moX5_minutesTillOut miX5_minutesTillOut (bw_mem3 77 rfl rfl) (Or.inl ⟨_, _, _, _, (shI e21 (e16.at (shE h13) (by decide))), rfl⟩) rfl (Nat.le_of_ble_eq_true rfl) ⟨(Nat.le_of_ble_eq_true rfl), (Nat.le_of_ble_eq_true rfl)⟩ ⟨(Nat.le_of_ble_eq_true rfl), (Nat.le_of_ble_eq_true rfl)⟩ (fun z22 h23 e24 => ?_)
    refine WPe_st (st2 := [vI z22.1]) rfl ?_
    refine WPe_istore (pc := 63) (ls' := [(6, vI z22.1), (0, vR v.1), (1, vI v.2.1), (2, vI v.2.2.1), (3, vI v.2.2.2.1), (4, vI v.2.2.2.2.1), (5, vI v.2.2.2.2.2)]) (dd dtX5_stays 35 rfl) (Nat.le_of_ble_eq_true rfl) rfl ?_
    refine WPe_iload (pc := 65) 0 (dd dtX5_stays 36 rfl) rfl ?_
    refine WPe_iload_n (pc := 67) 4 (dd dtX5_stays 37 rfl) rfl ?_
    refine WPe_icmp_lt (pc := 68) 78 (dd dtX5_stays 38 rfl) (by decide) (fun h25 => ?_) (fun h25 => ?_)
    · refine WPe_sub [1, 2, 3, 4, 5, 6] rfl ?_
      exact wpj5_stays_78 X w0 k34 hk34 v.1 v.2.1 v.2.2.1 v.2.2.2.1 v.2.2.2.2.1 v.2.2.2.2.2 z22.2
    · refine WPe_iload (pc := 71) 0 (dd dtX5_stays 39 rfl) rfl ?_
      refine WPe_istore_n (pc := 73) (ls' := [(3, vI z22.1), (6, vI z22.1), (0, vR v.1), (1, vI v.2.1), (2, vI v.2.2.1), (4, vI v.2.2.2.2.1), (5, vI v.2.2.2.2.2)]) (dd dtX5_stays 40 rfl) (Nat.le_of_ble_eq_true rfl) rfl ?_
      refine WPe_iload (pc := 74) 6 (dd dtX5_stays 41 rfl) rfl ?_
      refine WPe_istore (pc := 76) (ls' := [(4, vI v.2.2.2.2.2), (3, vI z22.1), (6, vI z22.1), (0, vR v.1), (1, vI v.2.1), (2, vI v.2.2.1), (5, vI v.2.2.2.2.2)]) (dd dtX5_stays 42 rfl) (Nat.le_of_ble_eq_true rfl) rfl ?_
      refine WPe_sub [3, 4, 5, 1, 0, 6] rfl ?_
      exact wpj5_stays_78 X w0 k34 hk34 v.1 v.2.1 v.2.2.1 z22.1 v.2.2.2.2.2 v.2.2.2.2.2 z22.2
theorem wplb5_stays_34 (X : CX) (w0 : Wd)  : ∀ (n9 : Nat) (v : Nat × Int32 × Int32 × Int32 × Int32 × Int32) (w : Wd), WPe rtI X (mX5_stays, 7, 0, 0, w0) 0 0 (loopF (b5_stays_34 ) n9 v w) 34 [(0, vR v.1), (1, vI v.2.1), (2, vI v.2.2.1), (3, vI v.2.2.2.1), (4, vI v.2.2.2.2.1), (5, vI v.2.2.2.2.2)] [] w :=
  WPe_loop (rt := rtI) (X := X) (M := (mX5_stays, 7, 0, 0, w0)) (fun v : Nat × Int32 × Int32 × Int32 × Int32 × Int32 => [(0, vR v.1), (1, vI v.2.1), (2, vI v.2.2.1), (3, vI v.2.2.2.1), (4, vI v.2.2.2.2.1), (5, vI v.2.2.2.2.2)]) (fun k hk v w => wpb5_stays_34 X w0  k hk v w)
noncomputable def f5_stays (x0 : Nat) (x1 : Int32) (x2 : Int32) (w : Wd) : Option (Int32 × Wd) :=
  ck (tg w x0 = 5) (ck (tg w (wr w x0 3) = 1) ((f1_has (wr w x0 3) x1 w).bind fun z3 => (if z3.1 = (0 : Int32) then (some ((-5 : Int32), z3.2)) else ((f5_isWithin x2 (0 : Int32) (1 : Int32) z3.2).bind fun z7 => (if z7.1 = (0 : Int32) then (some ((-7 : Int32), z7.2)) else (loopF (b5_stays_34) FU (x0, x1, x2, (-1 : Int32), (0 : Int32), (0 : Int32)) z7.2))))))
theorem wpf5_stays (X : CX) (w0 : Wd) (x0 : Nat) (x1 : Int32) (x2 : Int32) (w : Wd) : WPe rtI X (mX5_stays, 7, 0, 0, w0) 0 0 (f5_stays x0 x1 x2 w) 0 [(0, vR x0), (1, vI x1), (2, vI x2)] [] w := by
  unfold f5_stays
  refine WPe_aload_n (pc := 0) 0 (dd dtX5_stays 0 rfl) rfl ?_
  refine WPe_ck fun h1 => ?_
  refine WPe_getR (pc := 1) (t := 5) (C := RX5) (T := TX5) 3 (dd dtX5_stays 1 rfl) (shE h1) rfl (Nat.le_of_ble_eq_true rfl) rfl (bw_mem2 123 rfl rfl) ?_
  refine WPe_iload_n (pc := 4) 1 (dd dtX5_stays 2 rfl) rfl ?_
  refine WPe_ck fun h2 => ?_
  refine WPe_callV (pc := 5) (rtc := rtI) (Mc := mX1_has) (d' := 1) (mc' := 0) (ms' := 0) [vI x1] [] rfl (dd dtX5_stays 3 rfl) (okf1_has (wr w x0 3) x1 w) moX1_has miX1_has (bw_mem2 193 rfl rfl) (Or.inl ⟨_, _, _, _, (shE h2), rfl⟩) rfl (Nat.le_of_ble_eq_true rfl) ⟨(Nat.le_of_ble_eq_true rfl), (Nat.le_of_ble_eq_true rfl)⟩ ⟨(Nat.le_of_ble_eq_true rfl), (Nat.le_of_ble_eq_true rfl)⟩ (fun z3 h4 e5 => ?_)
  refine WPe_st (st2 := [vI z3.1]) rfl ?_
  refine WPe_if_ne (pc := 8) 14 (dd dtX5_stays 4 rfl) (by decide) (fun h6 => ?_) (fun h6 => ?_)
  · refine WPe_bipush (pc := 11) (-5 : Int32) (dd dtX5_stays 5 rfl) (by decide) ?_
    exact WPe_ireturn (pc := 13) (dd dtX5_stays 6 rfl) rfl rfl ⟨(Nat.le_of_ble_eq_true rfl), (Nat.le_of_ble_eq_true rfl)⟩
  · refine WPe_iload_n (pc := 14) 2 (dd dtX5_stays 7 rfl) rfl ?_
    refine WPe_iconst (pc := 15) (0 : Int32) (dd dtX5_stays 8 rfl) (by decide) ?_
    refine WPe_iconst (pc := 16) (1 : Int32) (dd dtX5_stays 9 rfl) (by decide) ?_
    refine WPe_callS (pc := 17) (rtc := rtI) (Mc := mX5_isWithin) (d' := 1) (mc' := 0) (ms' := 0) [vI x2, vI (0 : Int32), vI (1 : Int32)] [] rfl (dd dtX5_stays 10 rfl) (okf5_isWithin x2 (0 : Int32) (1 : Int32) z3.2) moX5_isWithin msX5_isWithin (bw_mem2 176 rfl rfl) rfl (Nat.le_of_ble_eq_true rfl) ⟨(Nat.le_of_ble_eq_true rfl), (Nat.le_of_ble_eq_true rfl)⟩ ⟨(Nat.le_of_ble_eq_true rfl), (Nat.le_of_ble_eq_true rfl)⟩ (fun z7 h8 e9 => ?_)
    refine WPe_st (st2 := [vI z7.1]) rfl ?_
    refine WPe_if_ne (pc := 20) 26 (dd dtX5_stays 11 rfl) (by decide) (fun h10 => ?_) (fun h10 => ?_)
    · refine WPe_bipush (pc := 23) (-7 : Int32) (dd dtX5_stays 12 rfl) (by decide) ?_
      exact WPe_ireturn (pc := 25) (dd dtX5_stays 13 rfl) rfl rfl ⟨(Nat.le_of_ble_eq_true rfl), (Nat.le_of_ble_eq_true rfl)⟩
    · refine WPe_iconst (pc := 26) (-1 : Int32) (dd dtX5_stays 14 rfl) (by decide) ?_
      refine WPe_istore_n (pc := 27) (ls' := [(3, vI (-1 : Int32)), (0, vR x0), (1, vI x1), (2, vI x2)]) (dd dtX5_stays 15 rfl) (Nat.le_of_ble_eq_true rfl) rfl ?_
      refine WPe_iconst (pc := 28) (0 : Int32) (dd dtX5_stays 16 rfl) (by decide) ?_
      refine WPe_istore (pc := 29) (ls' := [(4, vI (0 : Int32)), (3, vI (-1 : Int32)), (0, vR x0), (1, vI x1), (2, vI x2)]) (dd dtX5_stays 17 rfl) (Nat.le_of_ble_eq_true rfl) rfl ?_
      refine WPe_iconst (pc := 31) (0 : Int32) (dd dtX5_stays 18 rfl) (by decide) ?_
      refine WPe_istore (pc := 32) (ls' := [(5, vI (0 : Int32)), (4, vI (0 : Int32)), (3, vI (-1 : Int32)), (0, vR x0), (1, vI x1), (2, vI x2)]) (dd dtX5_stays 19 rfl) (Nat.le_of_ble_eq_true rfl) rfl ?_
      refine WPe_sub [3, 4, 5, 2, 1, 0] rfl ?_
      exact wplb5_stays_34 X w0  FU _ _
theorem okf5_stays (x0 : Nat) (x1 : Int32) (x2 : Int32) (w : Wd) : ∀ z, f5_stays x0 x1 x2 w = some z → OkM mX5_stays 7 0 0 [vR x0, vI x1, vI x2] w (rtI z.1) z.2 :=
  OkM.of (rt := rtI) moX5_stays (Nat.le_of_ble_eq_true rfl) (fun X => wpf5_stays X w x0 x1 x2 w)
def tbX5_lowest : List (Nat × Instr × Nat) := [(0, .iload_n 1, 1), (1, .ifCond .ne 7, 3), (4, .ldc2_w 194, 3), (7, .lreturn, 1), (8, .iload_n 1, 1), (9, .istore_n 3, 1), (10, .iload_n 0, 1), (11, .istore 4, 2), (13, .iconst 0, 1), (14, .istore 5, 2), (16, .iload 5, 2), (18, .bipush 64, 2), (20, .if_icmp .ge 27, 3), (23, .iload 4, 2), (25, .ifCond .eq 22, 3), (28, .iload_n 3, 1), (29, .iload 4, 2), (31, .irem, 1), (32, .istore 6, 2), (34, .iload 4, 2), (36, .istore_n 3, 1), (37, .iload 6, 2), (39, .istore 4, 2), (41, .iinc 5 1, 3), (44, .goto (-28), 3), (47, .iload_n 3, 1), (48, .ifCond .ne 7, 3), (51, .ldc2_w 194, 3), (54, .lreturn, 1), (55, .iload_n 2, 1), (56, .ifCond .ne 10, 3), (59, .iload_n 0, 1), (60, .iload_n 3, 1), (61, .idiv, 1), (62, .i2l, 1), (63, .goto 7, 3), (66, .iload_n 1, 1), (67, .iload_n 3, 1), (68, .idiv, 1), (69, .i2l, 1), (70, .lreturn, 1)]
set_option maxRecDepth 20000 in
theorem dtX5_lowest : ∀ x ∈ tbX5_lowest, decode cX5_lowest x.1 = .ok x.2 := by decide +kernel
noncomputable def j5_lowest_47  (x0 : Int32) (x1 : Int32) (x2 : Int32) (x3 : Int32) (w : Wd) : Option (Int64 × Wd) :=
  if x3 = (0 : Int32) then (some ((-4611686018427387904 : Int64), w)) else (if x2 = (0 : Int32) then (ck (¬ x3 = 0) (some ((((x0 / x3)).toInt64), w))) else (ck (¬ x3 = 0) (some ((((x1 / x3)).toInt64), w))))
theorem wpj5_lowest_47 (X : CX) (w0 : Wd)  (x0 : Int32) (x1 : Int32) (x2 : Int32) (x3 : Int32) (w : Wd) : WPe rtJ X (mX5_lowest, 1, 0, 0, w0) 0 0 (j5_lowest_47  x0 x1 x2 x3 w) 47 [(0, vI x0), (1, vI x1), (2, vI x2), (3, vI x3)] [] w := by
  unfold j5_lowest_47
  refine WPe_iload_n (pc := 47) 3 (dd dtX5_lowest 25 rfl) rfl ?_
  refine WPe_if_ne (pc := 48) 55 (dd dtX5_lowest 26 rfl) (by decide) (fun h3 => ?_) (fun h3 => ?_)
  · refine WPe_ldc2 (pc := 51) (v := (-4611686018427387904 : Int64)) (dd dtX5_lowest 27 rfl) (bw_mem3 121 rfl rfl) ?_
    exact WPe_lreturn (pc := 54) (dd dtX5_lowest 28 rfl) rfl rfl ⟨(Nat.le_of_ble_eq_true rfl), (Nat.le_of_ble_eq_true rfl)⟩
  · refine WPe_iload_n (pc := 55) 2 (dd dtX5_lowest 29 rfl) rfl ?_
    refine WPe_if_ne (pc := 56) 66 (dd dtX5_lowest 30 rfl) (by decide) (fun h4 => ?_) (fun h4 => ?_)
    · refine WPe_iload_n (pc := 59) 0 (dd dtX5_lowest 31 rfl) rfl ?_
      refine WPe_iload_n (pc := 60) 3 (dd dtX5_lowest 32 rfl) rfl ?_
      refine WPe_ck fun h5 => ?_
      refine WPe_idiv (pc := 61) (dd dtX5_lowest 33 rfl) h5 ?_
      refine WPe_i2l (pc := 62) (dd dtX5_lowest 34 rfl) ?_
      refine WPe_goto (pc := 63) 70 (dd dtX5_lowest 35 rfl) (by decide) ?_
      exact WPe_lreturn (pc := 70) (dd dtX5_lowest 40 rfl) rfl rfl ⟨(Nat.le_of_ble_eq_true rfl), (Nat.le_of_ble_eq_true rfl)⟩
    · refine WPe_iload_n (pc := 66) 1 (dd dtX5_lowest 36 rfl) rfl ?_
      refine WPe_iload_n (pc := 67) 3 (dd dtX5_lowest 37 rfl) rfl ?_
      refine WPe_ck fun h6 => ?_
      refine WPe_idiv (pc := 68) (dd dtX5_lowest 38 rfl) h6 ?_
      refine WPe_i2l (pc := 69) (dd dtX5_lowest 39 rfl) ?_
      exact WPe_lreturn (pc := 70) (dd dtX5_lowest 40 rfl) rfl rfl ⟨(Nat.le_of_ble_eq_true rfl), (Nat.le_of_ble_eq_true rfl)⟩
noncomputable def b5_lowest_16 (k16 : Int32 × Int32 × Int32 × Int32 × Int32 × Int32 → Wd → Option (Int64 × Wd)) (v : Int32 × Int32 × Int32 × Int32 × Int32 × Int32) (w : Wd) : Option (Int64 × Wd) :=
  if (64 : Int32) ≤ v.2.2.2.2.2 then (j5_lowest_47 v.1 v.2.1 v.2.2.1 v.2.2.2.1 w) else (if v.2.2.2.2.1 = (0 : Int32) then (j5_lowest_47 v.1 v.2.1 v.2.2.1 v.2.2.2.1 w) else (ck (¬ v.2.2.2.2.1 = 0) (k16 (v.1, v.2.1, v.2.2.1, v.2.2.2.2.1, (v.2.2.2.1 - v.2.2.2.1 / v.2.2.2.2.1 * v.2.2.2.2.1), (v.2.2.2.2.2 + (1 : Int32))) w)))
theorem wpb5_lowest_16 (X : CX) (w0 : Wd) (k16 : Int32 × Int32 × Int32 × Int32 × Int32 × Int32 → Wd → Option (Int64 × Wd)) (hk16 : ∀ (v : Int32 × Int32 × Int32 × Int32 × Int32 × Int32) (w : Wd), WPe rtJ X (mX5_lowest, 1, 0, 0, w0) 0 0 (k16 v w) 16 [(0, vI v.1), (1, vI v.2.1), (2, vI v.2.2.1), (3, vI v.2.2.2.1), (4, vI v.2.2.2.2.1), (5, vI v.2.2.2.2.2)] [] w) (v : Int32 × Int32 × Int32 × Int32 × Int32 × Int32) (w : Wd) : WPe rtJ X (mX5_lowest, 1, 0, 0, w0) 0 0 (b5_lowest_16 k16 v w) 16 [(0, vI v.1), (1, vI v.2.1), (2, vI v.2.2.1), (3, vI v.2.2.2.1), (4, vI v.2.2.2.2.1), (5, vI v.2.2.2.2.2)] [] w := by
  unfold b5_lowest_16
  refine WPe_iload (pc := 16) 5 (dd dtX5_lowest 10 rfl) rfl ?_
  refine WPe_bipush (pc := 18) (64 : Int32) (dd dtX5_lowest 11 rfl) (by decide) ?_
  refine WPe_icmp_ge (pc := 20) 47 (dd dtX5_lowest 12 rfl) (by decide) (fun h2 => ?_) (fun h2 => ?_)
  · refine WPe_sub [0, 1, 2, 3] rfl ?_
    exact wpj5_lowest_47 X w0  v.1 v.2.1 v.2.2.1 v.2.2.2.1 w
  · refine WPe_iload (pc := 23) 4 (dd dtX5_lowest 13 rfl) rfl ?_
    refine WPe_if_eq (pc := 25) 47 (dd dtX5_lowest 14 rfl) (by decide) (fun h7 => ?_) (fun h7 => ?_)
    · refine WPe_sub [0, 1, 2, 3] rfl ?_
      exact wpj5_lowest_47 X w0  v.1 v.2.1 v.2.2.1 v.2.2.2.1 w
    · refine WPe_iload_n (pc := 28) 3 (dd dtX5_lowest 15 rfl) rfl ?_
      refine WPe_iload (pc := 29) 4 (dd dtX5_lowest 16 rfl) rfl ?_
      refine WPe_ck fun h8 => ?_
      refine WPe_irem (pc := 31) (dd dtX5_lowest 17 rfl) h8 ?_
      refine WPe_istore (pc := 32) (ls' := [(6, vI (v.2.2.2.1 - v.2.2.2.1 / v.2.2.2.2.1 * v.2.2.2.2.1)), (0, vI v.1), (1, vI v.2.1), (2, vI v.2.2.1), (3, vI v.2.2.2.1), (4, vI v.2.2.2.2.1), (5, vI v.2.2.2.2.2)]) (dd dtX5_lowest 18 rfl) (Nat.le_of_ble_eq_true rfl) rfl ?_
      refine WPe_iload (pc := 34) 5 (dd dtX5_lowest 19 rfl) rfl ?_
      refine WPe_istore_n (pc := 36) (ls' := [(3, vI v.2.2.2.2.1), (6, vI (v.2.2.2.1 - v.2.2.2.1 / v.2.2.2.2.1 * v.2.2.2.2.1)), (0, vI v.1), (1, vI v.2.1), (2, vI v.2.2.1), (4, vI v.2.2.2.2.1), (5, vI v.2.2.2.2.2)]) (dd dtX5_lowest 20 rfl) (Nat.le_of_ble_eq_true rfl) rfl ?_
      refine WPe_iload (pc := 37) 1 (dd dtX5_lowest 21 rfl) rfl ?_
      refine WPe_istore (pc := 39) (ls' := [(4, vI (v.2.2.2.1 - v.2.2.2.1 / v.2.2.2.2.1 * v.2.2.2.2.1)), (3, vI v.2.2.2.2.1), (6, vI (v.2.2.2.1 - v.2.2.2.1 / v.2.2.2.2.1 * v.2.2.2.2.1)), (0, vI v.1), (1, vI v.2.1), (2, vI v.2.2.1), (5, vI v.2.2.2.2.2)]) (dd dtX5_lowest 22 rfl) (Nat.le_of_ble_eq_true rfl) rfl ?_
      refine WPe_iinc (pc := 41) (ls' := [(5, vI (v.2.2.2.2.2 + (1 : Int32))), (4, vI (v.2.2.2.1 - v.2.2.2.1 / v.2.2.2.2.1 * v.2.2.2.2.1)), (3, vI v.2.2.2.2.1), (6, vI (v.2.2.2.1 - v.2.2.2.1 / v.2.2.2.2.1 * v.2.2.2.2.1)), (0, vI v.1), (1, vI v.2.1), (2, vI v.2.2.1)]) 6 (v.2.2.2.2.2 + (1 : Int32)) (dd dtX5_lowest 23 rfl) rfl (congrArg (HAdd.hAdd _) (by decide : Int32.ofInt (1) = (1 : Int32))) (Nat.le_of_ble_eq_true rfl) rfl ?_
      refine WPe_goto (pc := 44) 16 (dd dtX5_lowest 24 rfl) (by decide) ?_
      refine WPe_sub [4, 5, 6, 2, 1, 0] rfl ?_
      exact hk16 (v.1, v.2.1, v.2.2.1, v.2.2.2.2.1, (v.2.2.2.1 - v.2.2.2.1 / v.2.2.2.2.1 * v.2.2.2.2.1), (v.2.2.2.2.2 + (1 : Int32))) w
theorem wplb5_lowest_16 (X : CX) (w0 : Wd)  : ∀ (n9 : Nat) (v : Int32 × Int32 × Int32 × Int32 × Int32 × Int32) (w : Wd), WPe rtJ X (mX5_lowest, 1, 0, 0, w0) 0 0 (loopF (b5_lowest_16 ) n9 v w) 16 [(0, vI v.1), (1, vI v.2.1), (2, vI v.2.2.1), (3, vI v.2.2.2.1), (4, vI v.2.2.2.2.1), (5, vI v.2.2.2.2.2)] [] w :=
  WPe_loop (rt := rtJ) (X := X) (M := (mX5_lowest, 1, 0, 0, w0)) (fun v : Int32 × Int32 × Int32 × Int32 × Int32 × Int32 => [(0, vI v.1), (1, vI v.2.1), (2, vI v.2.2.1), (3, vI v.2.2.2.1), (4, vI v.2.2.2.2.1), (5, vI v.2.2.2.2.2)]) (fun k hk v w => wpb5_lowest_16 X w0  k hk v w)
noncomputable def f5_lowest (x0 : Int32) (x1 : Int32) (x2 : Int32) (w : Wd) : Option (Int64 × Wd) :=
  if x1 = (0 : Int32) then (some ((-4611686018427387904 : Int64), w)) else (loopF (b5_lowest_16) FU (x0, x1, x2, x1, x0, (0 : Int32)) w)
theorem wpf5_lowest (X : CX) (w0 : Wd) (x0 : Int32) (x1 : Int32) (x2 : Int32) (w : Wd) : WPe rtJ X (mX5_lowest, 1, 0, 0, w0) 0 0 (f5_lowest x0 x1 x2 w) 0 [(0, vI x0), (1, vI x1), (2, vI x2)] [] w := by
  unfold f5_lowest
  refine WPe_iload_n (pc := 0) 1 (dd dtX5_lowest 0 rfl) rfl ?_
  refine WPe_if_ne (pc := 1) 8 (dd dtX5_lowest 1 rfl) (by decide) (fun h1 => ?_) (fun h1 => ?_)
  · refine WPe_ldc2 (pc := 4) (v := (-4611686018427387904 : Int64)) (dd dtX5_lowest 2 rfl) (bw_mem3 121 rfl rfl) ?_
    exact WPe_lreturn (pc := 7) (dd dtX5_lowest 3 rfl) rfl rfl ⟨(Nat.le_of_ble_eq_true rfl), (Nat.le_of_ble_eq_true rfl)⟩
  · refine WPe_iload_n (pc := 8) 1 (dd dtX5_lowest 4 rfl) rfl ?_
    refine WPe_istore_n (pc := 9) (ls' := [(3, vI x1), (0, vI x0), (1, vI x1), (2, vI x2)]) (dd dtX5_lowest 5 rfl) (Nat.le_of_ble_eq_true rfl) rfl ?_
    refine WPe_iload_n (pc := 10) 1 (dd dtX5_lowest 6 rfl) rfl ?_
    refine WPe_istore (pc := 11) (ls' := [(4, vI x0), (3, vI x1), (0, vI x0), (1, vI x1), (2, vI x2)]) (dd dtX5_lowest 7 rfl) (Nat.le_of_ble_eq_true rfl) rfl ?_
    refine WPe_iconst (pc := 13) (0 : Int32) (dd dtX5_lowest 8 rfl) (by decide) ?_
    refine WPe_istore (pc := 14) (ls' := [(5, vI (0 : Int32)), (4, vI x0), (3, vI x1), (0, vI x0), (1, vI x1), (2, vI x2)]) (dd dtX5_lowest 9 rfl) (Nat.le_of_ble_eq_true rfl) rfl ?_
    refine WPe_sub [3, 4, 5, 2, 1, 0] rfl ?_
    exact wplb5_lowest_16 X w0  FU _ _
theorem okf5_lowest (x0 : Int32) (x1 : Int32) (x2 : Int32) (w : Wd) : ∀ z, f5_lowest x0 x1 x2 w = some z → OkM mX5_lowest 1 0 0 [vI x0, vI x1, vI x2] w (rtJ z.1) z.2 :=
  OkM.of (rt := rtJ) moX5_lowest (Nat.le_of_ble_eq_true rfl) (fun X => wpf5_lowest X w x0 x1 x2 w)
def tbX5_share : List (Nat × Instr × Nat) := [(0, .aload_n 0, 1), (1, .getfield 48, 3), (4, .iload_n 1, 1), (5, .invokevirtual 115, 3), (8, .ifCond .eq 22, 3), (11, .iload_n 2, 1), (12, .iconst 0, 1), (13, .bipush 40, 2), (15, .invokestatic 111, 3), (18, .ifCond .eq 12, 3), (21, .iload_n 3, 1), (22, .iconst 0, 1), (23, .iconst 1, 1), (24, .invokestatic 111, 3), (27, .ifCond .ne 7, 3), (30, .ldc2_w 194, 3), (33, .lreturn, 1), (34, .aload_n 0, 1), (35, .invokevirtual 172, 3), (38, .aload_n 0, 1), (39, .iload_n 2, 1), (40, .invokevirtual 175, 3), (43, .istore 4, 2), (45, .aload_n 0, 1), (46, .getfield 52, 3), (49, .getfield 118, 3), (52, .iload_n 1, 1), (53, .aaload, 1), (54, .getfield 141, 3), (57, .iload 4, 2), (59, .iload_n 3, 1), (60, .invokestatic 196, 3), (63, .lreturn, 1)]
set_option maxRecDepth 20000 in
theorem dtX5_share : ∀ x ∈ tbX5_share, decode cX5_share x.1 = .ok x.2 := by decide +kernel
noncomputable def f5_share (x0 : Nat) (x1 : Int32) (x2 : Int32) (x3 : Int32) (w : Wd) : Option (Int64 × Wd) :=
  ck (tg w x0 = 5) (ck (tg w (wr w x0 3) = 1) ((f1_has (wr w x0 3) x1 w).bind fun z3 => (if z3.1 = (0 : Int32) then (some ((-4611686018427387904 : Int64), z3.2)) else ((f5_isWithin x2 (0 : Int32) (40 : Int32) z3.2).bind fun z7 => (if z7.1 = (0 : Int32) then (some ((-4611686018427387904 : Int64), z7.2)) else ((f5_isWithin x3 (0 : Int32) (1 : Int32) z7.2).bind fun z11 => (if z11.1 = (0 : Int32) then (some ((-4611686018427387904 : Int64), z11.2)) else ((f5_think x0 z11.2).bind fun z15 => ((f5_joyBehind x0 x2 z15.2).bind fun z18 => (ck (tg z18.2 (wr z18.2 x0 4) = 1) (ck (tg z18.2 (wr z18.2 (wr z18.2 x0 4) 6) = 22 ∧ vp_in x1 (ln z18.2 (wr z18.2 (wr z18.2 x0 4) 6))) (ck (tg z18.2 (wr z18.2 (wr z18.2 (wr z18.2 x0 4) 6) (x1).toNatClampNeg) = 0) ((f5_lowest (wi z18.2 (wr z18.2 (wr z18.2 (wr z18.2 x0 4) 6) (x1).toNatClampNeg) 4) z18.1 x3 z18.2).bind fun z24 => (some (z24.1, z24.2)))))))))))))))
theorem wpf5_share (X : CX) (w0 : Wd) (x0 : Nat) (x1 : Int32) (x2 : Int32) (x3 : Int32) (w : Wd) : WPe rtJ X (mX5_share, 7, 0, 0, w0) 0 0 (f5_share x0 x1 x2 x3 w) 0 [(0, vR x0), (1, vI x1), (2, vI x2), (3, vI x3)] [] w := by
  unfold f5_share
  refine WPe_aload_n (pc := 0) 0 (dd dtX5_share 0 rfl) rfl ?_
  refine WPe_ck fun h1 => ?_
  refine WPe_getR (pc := 1) (t := 5) (C := RX5) (T := TX5) 3 (dd dtX5_share 1 rfl) (shE h1) rfl (Nat.le_of_ble_eq_true rfl) rfl (bw_mem2 123 rfl rfl) ?_
  refine WPe_iload_n (pc := 4) 1 (dd dtX5_share 2 rfl) rfl ?_
  refine WPe_ck fun h2 => ?_
  refine WPe_callV (pc := 5) (rtc := rtI) (Mc := mX1_has) (d' := 1) (mc' := 0) (ms' := 0) [vI x1] [] rfl (dd dtX5_share 3 rfl) (okf1_has (wr w x0 3) x1 w) moX1_has miX1_has (bw_mem2 193 rfl rfl) (Or.inl ⟨_, _, _, _, (shE h2), rfl⟩) rfl (Nat.le_of_ble_eq_true rfl) ⟨(Nat.le_of_ble_eq_true rfl), (Nat.le_of_ble_eq_true rfl)⟩ ⟨(Nat.le_of_ble_eq_true rfl), (Nat.le_of_ble_eq_true rfl)⟩ (fun z3 h4 e5 => ?_)
  refine WPe_st (st2 := [vI z3.1]) rfl ?_
  refine WPe_if_eq (pc := 8) 30 (dd dtX5_share 4 rfl) (by decide) (fun h6 => ?_) (fun h6 => ?_)
  · refine WPe_ldc2 (pc := 30) (v := (-4611686018427387904 : Int64)) (dd dtX5_share 15 rfl) (bw_mem3 121 rfl rfl) ?_
    exact WPe_lreturn (pc := 33) (dd dtX5_share 16 rfl) rfl rfl ⟨(Nat.le_of_ble_eq_true rfl), (Nat.le_of_ble_eq_true rfl)⟩
  · refine WPe_iload_n (pc := 11) 2 (dd dtX5_share 5 rfl) rfl ?_
    refine WPe_iconst (pc := 12) (0 : Int32) (dd dtX5_share 6 rfl) (by decide) ?_
    refine WPe_bipush (pc := 13) (40 : Int32) (dd dtX5_share 7 rfl) (by decide) ?_
    refine WPe_callS (pc := 15) (rtc := rtI) (Mc := mX5_isWithin) (d' := 1) (mc' := 0) (ms' := 0) [vI x2, vI (0 : Int32), vI (40 : Int32)] [] rfl (dd dtX5_share 8 rfl) (okf5_isWithin x2 (0 : Int32) (40 : Int32) z3.2) moX5_isWithin msX5_isWithin (bw_mem2 176 rfl rfl) rfl (Nat.le_of_ble_eq_true rfl) ⟨(Nat.le_of_ble_eq_true rfl), (Nat.le_of_ble_eq_true rfl)⟩ ⟨(Nat.le_of_ble_eq_true rfl), (Nat.le_of_ble_eq_true rfl)⟩ (fun z7 h8 e9 => ?_)
    refine WPe_st (st2 := [vI z7.1]) rfl ?_
    refine WPe_if_eq (pc := 18) 30 (dd dtX5_share 9 rfl) (by decide) (fun h10 => ?_) (fun h10 => ?_)
    · refine WPe_ldc2 (pc := 30) (v := (-4611686018427387904 : Int64)) (dd dtX5_share 15 rfl) (bw_mem3 121 rfl rfl) ?_
      exact WPe_lreturn (pc := 33) (dd dtX5_share 16 rfl) rfl rfl ⟨(Nat.le_of_ble_eq_true rfl), (Nat.le_of_ble_eq_true rfl)⟩
    · refine WPe_iload_n (pc := 21) 3 (dd dtX5_share 10 rfl) rfl ?_
      refine WPe_iconst (pc := 22) (0 : Int32) (dd dtX5_share 11 rfl) (by decide) ?_
      refine WPe_iconst (pc := 23) (1 : Int32) (dd dtX5_share 12 rfl) (by decide) ?_
      refine WPe_callS (pc := 24) (rtc := rtI) (Mc := mX5_isWithin) (d' := 1) (mc' := 0) (ms' := 0) [vI x3, vI (0 : Int32), vI (1 : Int32)] [] rfl (dd dtX5_share 13 rfl) (okf5_isWithin x3 (0 : Int32) (1 : Int32) z7.2) moX5_isWithin msX5_isWithin (bw_mem2 176 rfl rfl) rfl (Nat.le_of_ble_eq_true rfl) ⟨(Nat.le_of_ble_eq_true rfl), (Nat.le_of_ble_eq_true rfl)⟩ ⟨(Nat.le_of_ble_eq_true rfl), (Nat.le_of_ble_eq_true rfl)⟩ (fun z11 h12 e13 => ?_)
      refine WPe_st (st2 := [vI z11.1]) rfl ?_
      refine WPe_if_ne (pc := 27) 34 (dd dtX5_share 14 rfl) (by decide) (fun h14 => ?_) (fun h14 => ?_)
      · refine WPe_ldc2 (pc := 30) (v := (-4611686018427387904 : Int64)) (dd dtX5_share 15 rfl) (bw_mem3 121 rfl rfl) ?_
        exact WPe_lreturn (pc := 33) (dd dtX5_share 16 rfl) rfl rfl ⟨(Nat.le_of_ble_eq_true rfl), (Nat.le_of_ble_eq_true rfl)⟩
      · refine WPe_aload_n (pc := 34) 0 (dd dtX5_share 17 rfl) rfl ?_
        refine WPe_callV (pc := 35) (rtc := rtV) (Mc := mX5_think) (d' := 3) (mc' := 0) (ms' := 0) [] [] rfl (dd dtX5_share 18 rfl) (okf5_think x0 z11.2) moX5_think miX5_think (bw_mem3 53 rfl rfl) (Or.inl ⟨_, _, _, _, (e13.at (e9.at (e5.at (shE h1) (by decide)) (by decide)) (by decide)), rfl⟩) rfl (Nat.le_of_ble_eq_true rfl) ⟨(Nat.le_of_ble_eq_true rfl), (Nat.le_of_ble_eq_true rfl)⟩ ⟨(Nat.le_of_ble_eq_true rfl), (Nat.le_of_ble_eq_true rfl)⟩ (fun z15 h16 e17 => ?_)
        refine WPe_st (st2 := []) rfl ?_
        refine WPe_aload_n (pc := 38) 0 (dd dtX5_share 19 rfl) rfl ?_
        refine WPe_iload_n (pc := 39) 2 (dd dtX5_share 20 rfl) rfl ?_
        refine WPe_callV (pc := 40) (rtc := rtI) (Mc := mX5_joyBehind) (d' := 6) (mc' := 0) (ms' := 0) [vI x2] [] rfl (dd dtX5_share 21 rfl) (okf5_joyBehind x0 x2 z15.2) moX5_joyBehind miX5_joyBehind (bw_mem3 65 rfl rfl) (Or.inl ⟨_, _, _, _, (e17.at (e13.at (e9.at (e5.at (shE h1) (by decide)) (by decide)) (by decide)) (by decide)), rfl⟩) rfl (Nat.le_of_ble_eq_true rfl) ⟨(Nat.le_of_ble_eq_true rfl), (Nat.le_of_ble_eq_true rfl)⟩ ⟨(Nat.le_of_ble_eq_true rfl), (Nat.le_of_ble_eq_true rfl)⟩ (fun z18 h19 e20 => ?_)
        refine WPe_st (st2 := [vI z18.1]) rfl ?_
        refine WPe_istore (pc := 43) (ls' := [(4, vI z18.1), (0, vR x0), (1, vI x1), (2, vI x2), (3, vI x3)]) (dd dtX5_share 22 rfl) (Nat.le_of_ble_eq_true rfl) rfl ?_
        refine WPe_aload_n (pc := 45) 1 (dd dtX5_share 23 rfl) rfl ?_
        refine WPe_getR (pc := 46) (t := 5) (C := RX5) (T := TX5) 4 (dd dtX5_share 24 rfl) (e20.at (e17.at (e13.at (e9.at (e5.at (shE h1) (by decide)) (by decide)) (by decide)) (by decide)) (by decide)) rfl (Nat.le_of_ble_eq_true rfl) rfl (bw_mem2 124 rfl rfl) ?_
        refine WPe_ck fun h21 => ?_
        refine WPe_getR (pc := 49) (t := 1) (C := RX1) (T := TX1) 6 (dd dtX5_share 25 rfl) (shE h21) rfl (Nat.le_of_ble_eq_true rfl) rfl (bw_mem2 84 rfl rfl) ?_
        refine WPe_iload_n (pc := 52) 2 (dd dtX5_share 26 rfl) rfl ?_
        refine WPe_ck fun h22 => ?_
        refine WPe_aald (pc := 53) (dd dtX5_share 27 rfl) (shE h22.1) ⟨(Nat.le_of_ble_eq_true rfl), (Nat.le_of_ble_eq_true rfl)⟩ h22.2 ?_
        refine WPe_ck fun h23 => ?_
        refine WPe_getI (pc := 54) (t := 0) (C := RX0) (T := TX0) 4 (dd dtX5_share 28 rfl) (shE h23) rfl (Nat.le_of_ble_eq_true rfl) rfl (bw_mem2 56 rfl rfl) ?_
        refine WPe_iload (pc := 57) 0 (dd dtX5_share 29 rfl) rfl ?_
        refine WPe_iload_n (pc := 59) 4 (dd dtX5_share 30 rfl) rfl ?_
        refine WPe_callS (pc := 60) (rtc := rtJ) (Mc := mX5_lowest) (d' := 1) (mc' := 0) (ms' := 0) [vI (wi z18.2 (wr z18.2 (wr z18.2 (wr z18.2 x0 4) 6) (x1).toNatClampNeg) 4), vI z18.1, vI x3] [] rfl (dd dtX5_share 31 rfl) (okf5_lowest (wi z18.2 (wr z18.2 (wr z18.2 (wr z18.2 x0 4) 6) (x1).toNatClampNeg) 4) z18.1 x3 z18.2) moX5_lowest msX5_lowest (bw_mem3 122 rfl rfl) rfl (Nat.le_of_ble_eq_true rfl) ⟨(Nat.le_of_ble_eq_true rfl), (Nat.le_of_ble_eq_true rfl)⟩ ⟨(Nat.le_of_ble_eq_true rfl), (Nat.le_of_ble_eq_true rfl)⟩ (fun z24 h25 e26 => ?_)
        refine WPe_st (st2 := [vJ z24.1]) rfl ?_
        exact WPe_lreturn (pc := 63) (dd dtX5_share 32 rfl) rfl rfl ⟨(Nat.le_of_ble_eq_true rfl), (Nat.le_of_ble_eq_true rfl)⟩
theorem okf5_share (x0 : Nat) (x1 : Int32) (x2 : Int32) (x3 : Int32) (w : Wd) : ∀ z, f5_share x0 x1 x2 x3 w = some z → OkM mX5_share 7 0 0 [vR x0, vI x1, vI x2, vI x3] w (rtJ z.1) z.2 :=
  OkM.of (rt := rtJ) moX5_share (Nat.le_of_ble_eq_true rfl) (fun X => wpf5_share X w x0 x1 x2 x3 w)
def tbX5_isSheet : List (Nat × Instr × Nat) := [(0, .iload_n 0, 1), (1, .ifCond .lt 12, 3), (4, .iload_n 0, 1), (5, .iconst 4, 1), (6, .if_icmp .ge 7, 3), (9, .iconst 1, 1), (10, .goto 4, 3), (13, .iconst 0, 1), (14, .ireturn, 1)]
set_option maxRecDepth 20000 in
theorem dtX5_isSheet : ∀ x ∈ tbX5_isSheet, decode cX5_isSheet x.1 = .ok x.2 := by decide +kernel
noncomputable def f5_isSheet (x0 : Int32) (w : Wd) : Option (Int32 × Wd) :=
  if x0 < (0 : Int32) then (some ((0 : Int32), w)) else (if (4 : Int32) ≤ x0 then (some ((0 : Int32), w)) else (some ((1 : Int32), w)))
theorem wpf5_isSheet (X : CX) (w0 : Wd) (x0 : Int32) (w : Wd) : WPe rtI X (mX5_isSheet, 1, 0, 0, w0) 0 0 (f5_isSheet x0 w) 0 [(0, vI x0)] [] w := by
  unfold f5_isSheet
  refine WPe_iload_n (pc := 0) 0 (dd dtX5_isSheet 0 rfl) rfl ?_
  refine WPe_if_lt (pc := 1) 13 (dd dtX5_isSheet 1 rfl) (by decide) (fun h1 => ?_) (fun h1 => ?_)
  · refine WPe_iconst (pc := 13) (0 : Int32) (dd dtX5_isSheet 7 rfl) (by decide) ?_
    exact WPe_zreturn (pc := 14) (ty := .boolean) (dd dtX5_isSheet 8 rfl) rfl rfl rfl ⟨(Nat.le_of_ble_eq_true rfl), (Nat.le_of_ble_eq_true rfl)⟩
  · refine WPe_iload_n (pc := 4) 0 (dd dtX5_isSheet 2 rfl) rfl ?_
    refine WPe_iconst (pc := 5) (4 : Int32) (dd dtX5_isSheet 3 rfl) (by decide) ?_
    refine WPe_icmp_ge (pc := 6) 13 (dd dtX5_isSheet 4 rfl) (by decide) (fun h2 => ?_) (fun h2 => ?_)
    · refine WPe_iconst (pc := 13) (0 : Int32) (dd dtX5_isSheet 7 rfl) (by decide) ?_
      exact WPe_zreturn (pc := 14) (ty := .boolean) (dd dtX5_isSheet 8 rfl) rfl rfl rfl ⟨(Nat.le_of_ble_eq_true rfl), (Nat.le_of_ble_eq_true rfl)⟩
    · refine WPe_iconst (pc := 9) (1 : Int32) (dd dtX5_isSheet 5 rfl) (by decide) ?_
      refine WPe_goto (pc := 10) 14 (dd dtX5_isSheet 6 rfl) (by decide) ?_
      exact WPe_zreturn (pc := 14) (ty := .boolean) (dd dtX5_isSheet 8 rfl) rfl rfl rfl ⟨(Nat.le_of_ble_eq_true rfl), (Nat.le_of_ble_eq_true rfl)⟩
theorem okf5_isSheet (x0 : Int32) (w : Wd) : ∀ z, f5_isSheet x0 w = some z → OkM mX5_isSheet 1 0 0 [vI x0] w (rtI z.1) z.2 :=
  OkM.of (rt := rtI) moX5_isSheet (Nat.le_of_ble_eq_true rfl) (fun X => wpf5_isSheet X w x0 w)
def tbX5_sheetRefusal : List (Nat × Instr × Nat) := [(0, .iload_n 1, 1), (1, .invokestatic 209, 3), (4, .ifCond .ne 6, 3), (7, .bipush (-2), 2), (9, .ireturn, 1), (10, .aload_n 0, 1), (11, .getfield 60, 3), (14, .iload_n 1, 1), (15, .aaload, 1), (16, .invokevirtual 231, 3), (19, .ifCond .eq 6, 3), (22, .bipush (-11), 2), (24, .ireturn, 1), (25, .aload_n 0, 1), (26, .getfield 60, 3), (29, .iload_n 1, 1), (30, .aaload, 1), (31, .getfield 263, 3), (34, .bipush 20, 2), (36, .if_icmp .le 8, 3), (39, .bipush (-2), 2), (41, .goto 4, 3), (44, .iconst 0, 1), (45, .ireturn, 1)]
set_option maxRecDepth 20000 in
theorem dtX5_sheetRefusal : ∀ x ∈ tbX5_sheetRefusal, decode cX5_sheetRefusal x.1 = .ok x.2 := by decide +kernel
noncomputable def f5_sheetRefusal (x0 : Nat) (x1 : Int32) (w : Wd) : Option (Int32 × Wd) :=
  (f5_isSheet x1 w).bind fun z1 => (if z1.1 = (0 : Int32) then (some ((-2 : Int32), z1.2)) else (ck (tg z1.2 x0 = 5) (ck (tg z1.2 (wr z1.2 x0 7) = 23 ∧ vp_in x1 (ln z1.2 (wr z1.2 x0 7))) (ck (tg z1.2 (wr z1.2 (wr z1.2 x0 7) (x1).toNatClampNeg) = 2) ((f2_isMissing (wr z1.2 (wr z1.2 x0 7) (x1).toNatClampNeg) z1.2).bind fun z8 => (if z8.1 = (0 : Int32) then (ck (tg z8.2 (wr z8.2 x0 7) = 23 ∧ vp_in x1 (ln z8.2 (wr z8.2 x0 7))) (ck (tg z8.2 (wr z8.2 (wr z8.2 x0 7) (x1).toNatClampNeg) = 2) (if (wi z8.2 (wr z8.2 (wr z8.2 x0 7) (x1).toNatClampNeg) 1) ≤ (20 : Int32) then (some ((0 : Int32), z8.2)) else (some ((-2 : Int32), z8.2))))) else (some ((-11 : Int32), z8.2))))))))
theorem wpf5_sheetRefusal (X : CX) (w0 : Wd) (x0 : Nat) (x1 : Int32) (w : Wd) : WPe rtI X (mX5_sheetRefusal, 2, 0, 0, w0) 0 0 (f5_sheetRefusal x0 x1 w) 0 [(0, vR x0), (1, vI x1)] [] w := by
  unfold f5_sheetRefusal
  refine WPe_iload_n (pc := 0) 1 (dd dtX5_sheetRefusal 0 rfl) rfl ?_
  refine WPe_callS (pc := 1) (rtc := rtI) (Mc := mX5_isSheet) (d' := 1) (mc' := 0) (ms' := 0) [vI x1] [] rfl (dd dtX5_sheetRefusal 1 rfl) (okf5_isSheet x1 w) moX5_isSheet msX5_isSheet (bw_mem3 137 rfl rfl) rfl (Nat.le_of_ble_eq_true rfl) ⟨(Nat.le_of_ble_eq_true rfl), (Nat.le_of_ble_eq_true rfl)⟩ ⟨(Nat.le_of_ble_eq_true rfl), (Nat.le_of_ble_eq_true rfl)⟩ (fun z1 h2 e3 => ?_)
  refine WPe_st (st2 := [vI z1.1]) rfl ?_
  refine WPe_if_ne (pc := 4) 10 (dd dtX5_sheetRefusal 2 rfl) (by decide) (fun h4 => ?_) (fun h4 => ?_)
  · refine WPe_bipush (pc := 7) (-2 : Int32) (dd dtX5_sheetRefusal 3 rfl) (by decide) ?_
    exact WPe_ireturn (pc := 9) (dd dtX5_sheetRefusal 4 rfl) rfl rfl ⟨(Nat.le_of_ble_eq_true rfl), (Nat.le_of_ble_eq_true rfl)⟩
  · refine WPe_aload_n (pc := 10) 0 (dd dtX5_sheetRefusal 5 rfl) rfl ?_
    refine WPe_ck fun h5 => ?_
    refine WPe_getR (pc := 11) (t := 5) (C := RX5) (T := TX5) 7 (dd dtX5_sheetRefusal 6 rfl) (shE h5) rfl (Nat.le_of_ble_eq_true rfl) rfl (bw_mem2 127 rfl rfl) ?_
    refine WPe_iload_n (pc := 14) 1 (dd dtX5_sheetRefusal 7 rfl) rfl ?_
    refine WPe_ck fun h6 => ?_
    refine WPe_aald (pc := 15) (dd dtX5_sheetRefusal 8 rfl) (shE h6.1) ⟨(Nat.le_of_ble_eq_true rfl), (Nat.le_of_ble_eq_true rfl)⟩ h6.2 ?_
    refine WPe_ck fun h7 => ?_
    refine WPe_callV (pc := 16) (rtc := rtI) (Mc := mX2_isMissing) (d' := 1) (mc' := 0) (ms' := 0) [] [] rfl (dd dtX5_sheetRefusal 9 rfl) (okf2_isMissing (wr z1.2 (wr z1.2 x0 7) (x1).toNatClampNeg) z1.2) moX2_isMissing miX2_isMissing (bw_mem3 140 rfl rfl) (Or.inl ⟨_, _, _, _, (shE h7), rfl⟩) rfl (Nat.le_of_ble_eq_true rfl) ⟨(Nat.le_of_ble_eq_true rfl), (Nat.le_of_ble_eq_true rfl)⟩ ⟨(Nat.le_of_ble_eq_true rfl), (Nat.le_of_ble_eq_true rfl)⟩ (fun z8 h9 e10 => ?_)
    refine WPe_st (st2 := [vI z8.1]) rfl ?_
    refine WPe_if_eq (pc := 19) 25 (dd dtX5_sheetRefusal 10 rfl) (by decide) (fun h11 => ?_) (fun h11 => ?_)
    · refine WPe_aload_n (pc := 25) 0 (dd dtX5_sheetRefusal 13 rfl) rfl ?_
      refine WPe_getR (pc := 26) (t := 5) (C := RX5) (T := TX5) 7 (dd dtX5_sheetRefusal 14 rfl) (e10.at (shE h5) (by decide)) rfl (Nat.le_of_ble_eq_true rfl) rfl (bw_mem2 127 rfl rfl) ?_
      refine WPe_iload_n (pc := 29) 1 (dd dtX5_sheetRefusal 15 rfl) rfl ?_
      refine WPe_ck fun h12 => ?_
      refine WPe_aald (pc := 30) (dd dtX5_sheetRefusal 16 rfl) (shE h12.1) ⟨(Nat.le_of_ble_eq_true rfl), (Nat.le_of_ble_eq_true rfl)⟩ h12.2 ?_
      refine WPe_ck fun h13 => ?_
      refine WPe_getI (pc := 31) (t := 2) (C := RX2) (T := TX2) 1 (dd dtX5_sheetRefusal 17 rfl) (shE h13) rfl (Nat.le_of_ble_eq_true rfl) rfl (bw_mem2 110 rfl rfl) ?_
      refine WPe_bipush (pc := 34) (20 : Int32) (dd dtX5_sheetRefusal 18 rfl) (by decide) ?_
      refine WPe_icmp_le (pc := 36) 44 (dd dtX5_sheetRefusal 19 rfl) (by decide) (fun h14 => ?_) (fun h14 => ?_)
      · refine WPe_iconst (pc := 44) (0 : Int32) (dd dtX5_sheetRefusal 22 rfl) (by decide) ?_
        exact WPe_ireturn (pc := 45) (dd dtX5_sheetRefusal 23 rfl) rfl rfl ⟨(Nat.le_of_ble_eq_true rfl), (Nat.le_of_ble_eq_true rfl)⟩
      · refine WPe_bipush (pc := 39) (-2 : Int32) (dd dtX5_sheetRefusal 20 rfl) (by decide) ?_
        refine WPe_goto (pc := 41) 45 (dd dtX5_sheetRefusal 21 rfl) (by decide) ?_
        exact WPe_ireturn (pc := 45) (dd dtX5_sheetRefusal 23 rfl) rfl rfl ⟨(Nat.le_of_ble_eq_true rfl), (Nat.le_of_ble_eq_true rfl)⟩
    · refine WPe_bipush (pc := 22) (-11 : Int32) (dd dtX5_sheetRefusal 11 rfl) (by decide) ?_
      exact WPe_ireturn (pc := 24) (dd dtX5_sheetRefusal 12 rfl) rfl rfl ⟨(Nat.le_of_ble_eq_true rfl), (Nat.le_of_ble_eq_true rfl)⟩
theorem okf5_sheetRefusal (x0 : Nat) (x1 : Int32) (w : Wd) : ∀ z, f5_sheetRefusal x0 x1 w = some z → OkM mX5_sheetRefusal 2 0 0 [vR x0, vI x1] w (rtI z.1) z.2 :=
  OkM.of (rt := rtI) moX5_sheetRefusal (Nat.le_of_ble_eq_true rfl) (fun X => wpf5_sheetRefusal X w x0 x1 w)
def tbX5_toldRefusal : List (Nat × Instr × Nat) := [(0, .aload_n 0, 1), (1, .iload_n 1, 1), (2, .invokevirtual 206, 3), (5, .istore_n 3, 1), (6, .iload_n 3, 1), (7, .ifCond .eq 5, 3), (10, .iload_n 3, 1), (11, .ireturn, 1), (12, .aload_n 0, 1), (13, .getfield 48, 3), (16, .iload_n 2, 1), (17, .invokevirtual 115, 3), (20, .ifCond .eq 7, 3), (23, .iconst 0, 1), (24, .goto 5, 3), (27, .bipush (-5), 2), (29, .ireturn, 1)]
set_option maxRecDepth 20000 in
theorem dtX5_toldRefusal : ∀ x ∈ tbX5_toldRefusal, decode cX5_toldRefusal x.1 = .ok x.2 := by decide +kernel
noncomputable def f5_toldRefusal (x0 : Nat) (x1 : Int32) (x2 : Int32) (w : Wd) : Option (Int32 × Wd) :=
  ck (tg w x0 = 5) ((f5_sheetRefusal x0 x1 w).bind fun z2 => (if z2.1 = (0 : Int32) then (ck (tg z2.2 (wr z2.2 x0 3) = 1) ((f1_has (wr z2.2 x0 3) x2 z2.2).bind fun z7 => (if z7.1 = (0 : Int32) then (some ((-5 : Int32), z7.2)) else (some ((0 : Int32), z7.2))))) else (some (z2.1, z2.2))))
theorem wpf5_toldRefusal (X : CX) (w0 : Wd) (x0 : Nat) (x1 : Int32) (x2 : Int32) (w : Wd) : WPe rtI X (mX5_toldRefusal, 3, 0, 0, w0) 0 0 (f5_toldRefusal x0 x1 x2 w) 0 [(0, vR x0), (1, vI x1), (2, vI x2)] [] w := by
  unfold f5_toldRefusal
  refine WPe_aload_n (pc := 0) 0 (dd dtX5_toldRefusal 0 rfl) rfl ?_
  refine WPe_iload_n (pc := 1) 1 (dd dtX5_toldRefusal 1 rfl) rfl ?_
  refine WPe_ck fun h1 => ?_
  refine WPe_callV (pc := 2) (rtc := rtI) (Mc := mX5_sheetRefusal) (d' := 2) (mc' := 0) (ms' := 0) [vI x1] [] rfl (dd dtX5_toldRefusal 2 rfl) (okf5_sheetRefusal x0 x1 w) moX5_sheetRefusal miX5_sheetRefusal (bw_mem3 133 rfl rfl) (Or.inl ⟨_, _, _, _, (shE h1), rfl⟩) rfl (Nat.le_of_ble_eq_true rfl) ⟨(Nat.le_of_ble_eq_true rfl), (Nat.le_of_ble_eq_true rfl)⟩ ⟨(Nat.le_of_ble_eq_true rfl), (Nat.le_of_ble_eq_true rfl)⟩ (fun z2 h3 e4 => ?_)
  refine WPe_st (st2 := [vI z2.1]) rfl ?_
  refine WPe_istore_n (pc := 5) (ls' := [(3, vI z2.1), (0, vR x0), (1, vI x1), (2, vI x2)]) (dd dtX5_toldRefusal 3 rfl) (Nat.le_of_ble_eq_true rfl) rfl ?_
  refine WPe_iload_n (pc := 6) 0 (dd dtX5_toldRefusal 4 rfl) rfl ?_
  refine WPe_if_eq (pc := 7) 12 (dd dtX5_toldRefusal 5 rfl) (by decide) (fun h5 => ?_) (fun h5 => ?_)
  · refine WPe_aload_n (pc := 12) 1 (dd dtX5_toldRefusal 8 rfl) rfl ?_
    refine WPe_getR (pc := 13) (t := 5) (C := RX5) (T := TX5) 3 (dd dtX5_toldRefusal 9 rfl) (e4.at (shE h1) (by decide)) rfl (Nat.le_of_ble_eq_true rfl) rfl (bw_mem2 123 rfl rfl) ?_
    refine WPe_iload_n (pc := 16) 3 (dd dtX5_toldRefusal 10 rfl) rfl ?_
    refine WPe_ck fun h6 => ?_
    refine WPe_callV (pc := 17) (rtc := rtI) (Mc := mX1_has) (d' := 1) (mc' := 0) (ms' := 0) [vI x2] [] rfl (dd dtX5_toldRefusal 11 rfl) (okf1_has (wr z2.2 x0 3) x2 z2.2) moX1_has miX1_has (bw_mem2 193 rfl rfl) (Or.inl ⟨_, _, _, _, (shE h6), rfl⟩) rfl (Nat.le_of_ble_eq_true rfl) ⟨(Nat.le_of_ble_eq_true rfl), (Nat.le_of_ble_eq_true rfl)⟩ ⟨(Nat.le_of_ble_eq_true rfl), (Nat.le_of_ble_eq_true rfl)⟩ (fun z7 h8 e9 => ?_)
    refine WPe_st (st2 := [vI z7.1]) rfl ?_
    refine WPe_if_eq (pc := 20) 27 (dd dtX5_toldRefusal 12 rfl) (by decide) (fun h10 => ?_) (fun h10 => ?_)
    · refine WPe_bipush (pc := 27) (-5 : Int32) (dd dtX5_toldRefusal 15 rfl) (by decide) ?_
      exact WPe_ireturn (pc := 29) (dd dtX5_toldRefusal 16 rfl) rfl rfl ⟨(Nat.le_of_ble_eq_true rfl), (Nat.le_of_ble_eq_true rfl)⟩
    · refine WPe_iconst (pc := 23) (0 : Int32) (dd dtX5_toldRefusal 13 rfl) (by decide) ?_
      refine WPe_goto (pc := 24) 29 (dd dtX5_toldRefusal 14 rfl) (by decide) ?_
      exact WPe_ireturn (pc := 29) (dd dtX5_toldRefusal 16 rfl) rfl rfl ⟨(Nat.le_of_ble_eq_true rfl), (Nat.le_of_ble_eq_true rfl)⟩
  · refine WPe_iload_n (pc := 10) 0 (dd dtX5_toldRefusal 6 rfl) rfl ?_
    exact WPe_ireturn (pc := 11) (dd dtX5_toldRefusal 7 rfl) rfl rfl ⟨(Nat.le_of_ble_eq_true rfl), (Nat.le_of_ble_eq_true rfl)⟩
theorem okf5_toldRefusal (x0 : Nat) (x1 : Int32) (x2 : Int32) (w : Wd) : ∀ z, f5_toldRefusal x0 x1 x2 w = some z → OkM mX5_toldRefusal 3 0 0 [vR x0, vI x1, vI x2] w (rtI z.1) z.2 :=
  OkM.of (rt := rtI) moX5_toldRefusal (Nat.le_of_ble_eq_true rfl) (fun X => wpf5_toldRefusal X w x0 x1 x2 w)
def tbX5_firstOtherwise : List (Nat × Instr × Nat) := [(0, .aload_n 0, 1), (1, .getfield 60, 3), (4, .iload_n 1, 1), (5, .aaload, 1), (6, .astore_n 3, 1), (7, .aload_n 0, 1), (8, .getfield 52, 3), (11, .getfield 118, 3), (14, .iload_n 2, 1), (15, .aaload, 1), (16, .astore 4, 2), (18, .iconst 0, 1), (19, .istore 5, 2), (21, .iload 5, 2), (23, .aload_n 3, 1), (24, .getfield 263, 3), (27, .if_icmp .ge 35, 3), (30, .aload_n 0, 1), (31, .getfield 52, 3), (34, .invokevirtual 169, 3), (37, .pop, 1), (38, .aload_n 3, 1), (39, .getfield 244, 3), (42, .iload 5, 2), (44, .iaload, 1), (45, .aload 4, 2), (47, .getfield 138, 3), (50, .if_icmp .eq 6, 3), (53, .iload 5, 2), (55, .ireturn, 1), (56, .iinc 5 1, 3), (59, .goto (-38), 3), (62, .iconst (-1), 1), (63, .ireturn, 1)]
set_option maxRecDepth 20000 in
theorem dtX5_firstOtherwise : ∀ x ∈ tbX5_firstOtherwise, decode cX5_firstOtherwise x.1 = .ok x.2 := by decide +kernel
noncomputable def b5_firstOtherwise_21 (k21 : Nat × Nat × Nat × Int32 → Wd → Option (Int32 × Wd)) (v : Nat × Nat × Nat × Int32) (w : Wd) : Option (Int32 × Wd) :=
  ck (tg w v.2.1 = 2) (if (wi w v.2.1 1) ≤ v.2.2.2 then (some ((-1 : Int32), w)) else (ck (tg w v.1 = 5) (ck (tg w (wr w v.1 4) = 1) ((f1_passMinute (wr w v.1 4) w).bind fun z9 => (ck (tg z9.2 (wr z9.2 v.2.1 2) = 20 ∧ vp_in v.2.2.2 (ln z9.2 (wr z9.2 v.2.1 2))) (ck (tg z9.2 v.2.2.1 = 0) (if (wi z9.2 (wr z9.2 v.2.1 2) (v.2.2.2).toNatClampNeg) = (wi z9.2 v.2.2.1 3) then (k21 (v.1, v.2.1, v.2.2.1, (v.2.2.2 + (1 : Int32))) z9.2) else (some (v.2.2.2, z9.2)))))))))
theorem wpb5_firstOtherwise_21 (X : CX) (w0 : Wd) (k21 : Nat × Nat × Nat × Int32 → Wd → Option (Int32 × Wd)) (hk21 : ∀ (v : Nat × Nat × Nat × Int32) (w : Wd), WPe rtI X (mX5_firstOtherwise, 6, 0, 0, w0) 0 0 (k21 v w) 21 [(0, vR v.1), (3, vR v.2.1), (4, vR v.2.2.1), (5, vI v.2.2.2)] [] w) (v : Nat × Nat × Nat × Int32) (w : Wd) : WPe rtI X (mX5_firstOtherwise, 6, 0, 0, w0) 0 0 (b5_firstOtherwise_21 k21 v w) 21 [(0, vR v.1), (3, vR v.2.1), (4, vR v.2.2.1), (5, vI v.2.2.2)] [] w := by
  unfold b5_firstOtherwise_21
  refine WPe_iload (pc := 21) 3 (dd dtX5_firstOtherwise 13 rfl) rfl ?_
  refine WPe_aload_n (pc := 23) 1 (dd dtX5_firstOtherwise 14 rfl) rfl ?_
  refine WPe_ck fun h5 => ?_
  refine WPe_getI (pc := 24) (t := 2) (C := RX2) (T := TX2) 1 (dd dtX5_firstOtherwise 15 rfl) (shE h5) rfl (Nat.le_of_ble_eq_true rfl) rfl (bw_mem2 110 rfl rfl) ?_
  refine WPe_icmp_ge (pc := 27) 62 (dd dtX5_firstOtherwise 16 rfl) (by decide) (fun h6 => ?_) (fun h6 => ?_)
  · refine WPe_iconst (pc := 62) (-1 : Int32) (dd dtX5_firstOtherwise 32 rfl) (by decide) ?_
    exact WPe_ireturn (pc := 63) (dd dtX5_firstOtherwise 33 rfl) rfl rfl ⟨(Nat.le_of_ble_eq_true rfl), (Nat.le_of_ble_eq_true rfl)⟩
  · refine WPe_aload_n (pc := 30) 0 (dd dtX5_firstOtherwise 17 rfl) rfl ?_
    refine WPe_ck fun h7 => ?_
    refine WPe_getR (pc := 31) (t := 5) (C := RX5) (T := TX5) 4 (dd dtX5_firstOtherwise 18 rfl) (shE h7) rfl (Nat.le_of_ble_eq_true rfl) rfl (bw_mem2 124 rfl rfl) ?_
    refine WPe_ck fun h8 => ?_
    refine WPe_callV (pc := 34) (rtc := rtI) (Mc := mX1_passMinute) (d' := 5) (mc' := 0) (ms' := 0) [] [] rfl (dd dtX5_firstOtherwise 19 rfl) (okf1_passMinute (wr w v.1 4) w) moX1_passMinute miX1_passMinute (bw_mem3 36 rfl rfl) (Or.inl ⟨_, _, _, _, (shE h8), rfl⟩) rfl (Nat.le_of_ble_eq_true rfl) ⟨(Nat.le_of_ble_eq_true rfl), (Nat.le_of_ble_eq_true rfl)⟩ ⟨(Nat.le_of_ble_eq_true rfl), (Nat.le_of_ble_eq_true rfl)⟩ (fun z9 h10 e11 => ?_)
    refine WPe_st (st2 := [vI z9.1]) rfl ?_
    refine WPe_pop (pc := 37) (dd dtX5_firstOtherwise 20 rfl) rfl ?_
    refine WPe_aload_n (pc := 38) 1 (dd dtX5_firstOtherwise 21 rfl) rfl ?_
    refine WPe_getR (pc := 39) (t := 2) (C := RX2) (T := TX2) 2 (dd dtX5_firstOtherwise 22 rfl) (e11.at (shE h5) (by decide)) rfl (Nat.le_of_ble_eq_true rfl) rfl (bw_mem2 112 rfl rfl) ?_
    refine WPe_iload (pc := 42) 3 (dd dtX5_firstOtherwise 23 rfl) rfl ?_
    refine WPe_ck fun h12 => ?_
    refine WPe_iald (pc := 44) (dd dtX5_firstOtherwise 24 rfl) (shE h12.1) h12.2 ?_
    refine WPe_aload (pc := 45) 2 (dd dtX5_firstOtherwise 25 rfl) rfl ?_
    refine WPe_ck fun h13 => ?_
    refine WPe_getI (pc := 47) (t := 0) (C := RX0) (T := TX0) 3 (dd dtX5_firstOtherwise 26 rfl) (shE h13) rfl (Nat.le_of_ble_eq_true rfl) rfl (bw_mem2 53 rfl rfl) ?_
    refine WPe_icmp_eq (pc := 50) 56 (dd dtX5_firstOtherwise 27 rfl) (by decide) (fun h14 => ?_) (fun h14 => ?_)
    · refine WPe_iinc (pc := 56) (ls' := [(5, vI (v.2.2.2 + (1 : Int32))), (0, vR v.1), (3, vR v.2.1), (4, vR v.2.2.1)]) 3 (v.2.2.2 + (1 : Int32)) (dd dtX5_firstOtherwise 30 rfl) rfl (congrArg (HAdd.hAdd _) (by decide : Int32.ofInt (1) = (1 : Int32))) (Nat.le_of_ble_eq_true rfl) rfl ?_
      refine WPe_goto (pc := 59) 21 (dd dtX5_firstOtherwise 31 rfl) (by decide) ?_
      refine WPe_sub [1, 2, 3, 0] rfl ?_
      exact hk21 (v.1, v.2.1, v.2.2.1, (v.2.2.2 + (1 : Int32))) z9.2
    · refine WPe_iload (pc := 53) 3 (dd dtX5_firstOtherwise 28 rfl) rfl ?_
      exact WPe_ireturn (pc := 55) (dd dtX5_firstOtherwise 29 rfl) rfl rfl ⟨(Nat.le_of_ble_eq_true rfl), (Nat.le_of_ble_eq_true rfl)⟩
theorem wplb5_firstOtherwise_21 (X : CX) (w0 : Wd)  : ∀ (n9 : Nat) (v : Nat × Nat × Nat × Int32) (w : Wd), WPe rtI X (mX5_firstOtherwise, 6, 0, 0, w0) 0 0 (loopF (b5_firstOtherwise_21 ) n9 v w) 21 [(0, vR v.1), (3, vR v.2.1), (4, vR v.2.2.1), (5, vI v.2.2.2)] [] w :=
  WPe_loop (rt := rtI) (X := X) (M := (mX5_firstOtherwise, 6, 0, 0, w0)) (fun v : Nat × Nat × Nat × Int32 => [(0, vR v.1), (3, vR v.2.1), (4, vR v.2.2.1), (5, vI v.2.2.2)]) (fun k hk v w => wpb5_firstOtherwise_21 X w0  k hk v w)
noncomputable def f5_firstOtherwise (x0 : Nat) (x1 : Int32) (x2 : Int32) (w : Wd) : Option (Int32 × Wd) :=
  ck (tg w x0 = 5) (ck (tg w (wr w x0 7) = 23 ∧ vp_in x1 (ln w (wr w x0 7))) (ck (tg w (wr w x0 4) = 1) (ck (tg w (wr w (wr w x0 4) 6) = 22 ∧ vp_in x2 (ln w (wr w (wr w x0 4) 6))) (loopF (b5_firstOtherwise_21) FU (x0, (wr w (wr w x0 7) (x1).toNatClampNeg), (wr w (wr w (wr w x0 4) 6) (x2).toNatClampNeg), (0 : Int32)) w))))
theorem wpf5_firstOtherwise (X : CX) (w0 : Wd) (x0 : Nat) (x1 : Int32) (x2 : Int32) (w : Wd) : WPe rtI X (mX5_firstOtherwise, 6, 0, 0, w0) 0 0 (f5_firstOtherwise x0 x1 x2 w) 0 [(0, vR x0), (1, vI x1), (2, vI x2)] [] w := by
  unfold f5_firstOtherwise
  refine WPe_aload_n (pc := 0) 0 (dd dtX5_firstOtherwise 0 rfl) rfl ?_
  refine WPe_ck fun h1 => ?_
  refine WPe_getR (pc := 1) (t := 5) (C := RX5) (T := TX5) 7 (dd dtX5_firstOtherwise 1 rfl) (shE h1) rfl (Nat.le_of_ble_eq_true rfl) rfl (bw_mem2 127 rfl rfl) ?_
  refine WPe_iload_n (pc := 4) 1 (dd dtX5_firstOtherwise 2 rfl) rfl ?_
  refine WPe_ck fun h2 => ?_
  refine WPe_aald (pc := 5) (dd dtX5_firstOtherwise 3 rfl) (shE h2.1) ⟨(Nat.le_of_ble_eq_true rfl), (Nat.le_of_ble_eq_true rfl)⟩ h2.2 ?_
  refine WPe_astore_n (pc := 6) (ls' := [(3, vR (wr w (wr w x0 7) (x1).toNatClampNeg)), (0, vR x0), (1, vI x1), (2, vI x2)]) (dd dtX5_firstOtherwise 4 rfl) (Nat.le_of_ble_eq_true rfl) rfl ?_
  refine WPe_aload_n (pc := 7) 1 (dd dtX5_firstOtherwise 5 rfl) rfl ?_
  refine WPe_getR (pc := 8) (t := 5) (C := RX5) (T := TX5) 4 (dd dtX5_firstOtherwise 6 rfl) (shE h1) rfl (Nat.le_of_ble_eq_true rfl) rfl (bw_mem2 124 rfl rfl) ?_
  refine WPe_ck fun h3 => ?_
  refine WPe_getR (pc := 11) (t := 1) (C := RX1) (T := TX1) 6 (dd dtX5_firstOtherwise 7 rfl) (shE h3) rfl (Nat.le_of_ble_eq_true rfl) rfl (bw_mem2 84 rfl rfl) ?_
  refine WPe_iload_n (pc := 14) 3 (dd dtX5_firstOtherwise 8 rfl) rfl ?_
  refine WPe_ck fun h4 => ?_
  refine WPe_aald (pc := 15) (dd dtX5_firstOtherwise 9 rfl) (shE h4.1) ⟨(Nat.le_of_ble_eq_true rfl), (Nat.le_of_ble_eq_true rfl)⟩ h4.2 ?_
  refine WPe_astore (pc := 16) (ls' := [(4, vR (wr w (wr w (wr w x0 4) 6) (x2).toNatClampNeg)), (3, vR (wr w (wr w x0 7) (x1).toNatClampNeg)), (0, vR x0), (1, vI x1), (2, vI x2)]) (dd dtX5_firstOtherwise 10 rfl) (Nat.le_of_ble_eq_true rfl) rfl ?_
  refine WPe_iconst (pc := 18) (0 : Int32) (dd dtX5_firstOtherwise 11 rfl) (by decide) ?_
  refine WPe_istore (pc := 19) (ls' := [(5, vI (0 : Int32)), (4, vR (wr w (wr w (wr w x0 4) 6) (x2).toNatClampNeg)), (3, vR (wr w (wr w x0 7) (x1).toNatClampNeg)), (0, vR x0), (1, vI x1), (2, vI x2)]) (dd dtX5_firstOtherwise 12 rfl) (Nat.le_of_ble_eq_true rfl) rfl ?_
  refine WPe_sub [3, 2, 1, 0] rfl ?_
  exact wplb5_firstOtherwise_21 X w0  FU _ _
theorem okf5_firstOtherwise (x0 : Nat) (x1 : Int32) (x2 : Int32) (w : Wd) : ∀ z, f5_firstOtherwise x0 x1 x2 w = some z → OkM mX5_firstOtherwise 6 0 0 [vR x0, vI x1, vI x2] w (rtI z.1) z.2 :=
  OkM.of (rt := rtI) moX5_firstOtherwise (Nat.le_of_ble_eq_true rfl) (fun X => wpf5_firstOtherwise X w x0 x1 x2 w)
def tbX5_judge : List (Nat × Instr × Nat) := [(0, .aload_n 0, 1), (1, .iload_n 1, 1), (2, .iload_n 2, 1), (3, .invokevirtual 200, 3), (6, .istore_n 3, 1), (7, .iload_n 3, 1), (8, .ifCond .eq 5, 3), (11, .iload_n 3, 1), (12, .ireturn, 1), (13, .aload_n 0, 1), (14, .invokevirtual 172, 3), (17, .aload_n 0, 1), (18, .iload_n 1, 1), (19, .iload_n 2, 1), (20, .invokevirtual 203, 3), (23, .ireturn, 1)]
set_option maxRecDepth 20000 in
theorem dtX5_judge : ∀ x ∈ tbX5_judge, decode cX5_judge x.1 = .ok x.2 := by decide +kernel
noncomputable def f5_judge (x0 : Nat) (x1 : Int32) (x2 : Int32) (w : Wd) : Option (Int32 × Wd) :=
  ck (tg w x0 = 5) ((f5_toldRefusal x0 x1 x2 w).bind fun z2 => (if z2.1 = (0 : Int32) then ((f5_think x0 z2.2).bind fun z6 => ((f5_firstOtherwise x0 x1 x2 z6.2).bind fun z9 => (some (z9.1, z9.2)))) else (some (z2.1, z2.2))))
theorem wpf5_judge (X : CX) (w0 : Wd) (x0 : Nat) (x1 : Int32) (x2 : Int32) (w : Wd) : WPe rtI X (mX5_judge, 7, 0, 0, w0) 0 0 (f5_judge x0 x1 x2 w) 0 [(0, vR x0), (1, vI x1), (2, vI x2)] [] w := by
  unfold f5_judge
  refine WPe_aload_n (pc := 0) 0 (dd dtX5_judge 0 rfl) rfl ?_
  refine WPe_iload_n (pc := 1) 1 (dd dtX5_judge 1 rfl) rfl ?_
  refine WPe_iload_n (pc := 2) 2 (dd dtX5_judge 2 rfl) rfl ?_
  refine WPe_ck fun h1 => ?_
  refine WPe_callV (pc := 3) (rtc := rtI) (Mc := mX5_toldRefusal) (d' := 3) (mc' := 0) (ms' := 0) [vI x1, vI x2] [] rfl (dd dtX5_judge 3 rfl) (okf5_toldRefusal x0 x1 x2 w) moX5_toldRefusal miX5_toldRefusal (bw_mem3 129 rfl rfl) (Or.inl ⟨_, _, _, _, (shE h1), rfl⟩) rfl (Nat.le_of_ble_eq_true rfl) ⟨(Nat.le_of_ble_eq_true rfl), (Nat.le_of_ble_eq_true rfl)⟩ ⟨(Nat.le_of_ble_eq_true rfl), (Nat.le_of_ble_eq_true rfl)⟩ (fun z2 h3 e4 => ?_)
  refine WPe_st (st2 := [vI z2.1]) rfl ?_
  refine WPe_istore_n (pc := 6) (ls' := [(3, vI z2.1), (0, vR x0), (1, vI x1), (2, vI x2)]) (dd dtX5_judge 4 rfl) (Nat.le_of_ble_eq_true rfl) rfl ?_
  refine WPe_iload_n (pc := 7) 0 (dd dtX5_judge 5 rfl) rfl ?_
  refine WPe_if_eq (pc := 8) 13 (dd dtX5_judge 6 rfl) (by decide) (fun h5 => ?_) (fun h5 => ?_)
  · refine WPe_aload_n (pc := 13) 1 (dd dtX5_judge 9 rfl) rfl ?_
    refine WPe_callV (pc := 14) (rtc := rtV) (Mc := mX5_think) (d' := 3) (mc' := 0) (ms' := 0) [] [] rfl (dd dtX5_judge 10 rfl) (okf5_think x0 z2.2) moX5_think miX5_think (bw_mem3 53 rfl rfl) (Or.inl ⟨_, _, _, _, (e4.at (shE h1) (by decide)), rfl⟩) rfl (Nat.le_of_ble_eq_true rfl) ⟨(Nat.le_of_ble_eq_true rfl), (Nat.le_of_ble_eq_true rfl)⟩ ⟨(Nat.le_of_ble_eq_true rfl), (Nat.le_of_ble_eq_true rfl)⟩ (fun z6 h7 e8 => ?_)
    refine WPe_st (st2 := []) rfl ?_
    refine WPe_aload_n (pc := 17) 1 (dd dtX5_judge 11 rfl) rfl ?_
    refine WPe_iload_n (pc := 18) 2 (dd dtX5_judge 12 rfl) rfl ?_
    refine WPe_iload_n (pc := 19) 3 (dd dtX5_judge 13 rfl) rfl ?_
    refine WPe_callV (pc := 20) (rtc := rtI) (Mc := mX5_firstOtherwise) (d' := 6) (mc' := 0) (ms' := 0) [vI x1, vI x2] [] rfl (dd dtX5_judge 14 rfl) (okf5_firstOtherwise x0 x1 x2 z6.2) moX5_firstOtherwise miX5_firstOtherwise (bw_mem3 144 rfl rfl) (Or.inl ⟨_, _, _, _, (e8.at (e4.at (shE h1) (by decide)) (by decide)), rfl⟩) rfl (Nat.le_of_ble_eq_true rfl) ⟨(Nat.le_of_ble_eq_true rfl), (Nat.le_of_ble_eq_true rfl)⟩ ⟨(Nat.le_of_ble_eq_true rfl), (Nat.le_of_ble_eq_true rfl)⟩ (fun z9 h10 e11 => ?_)
    refine WPe_st (st2 := [vI z9.1]) rfl ?_
    exact WPe_ireturn (pc := 23) (dd dtX5_judge 15 rfl) rfl rfl ⟨(Nat.le_of_ble_eq_true rfl), (Nat.le_of_ble_eq_true rfl)⟩
  · refine WPe_iload_n (pc := 11) 0 (dd dtX5_judge 7 rfl) rfl ?_
    exact WPe_ireturn (pc := 12) (dd dtX5_judge 8 rfl) rfl rfl ⟨(Nat.le_of_ble_eq_true rfl), (Nat.le_of_ble_eq_true rfl)⟩
theorem okf5_judge (x0 : Nat) (x1 : Int32) (x2 : Int32) (w : Wd) : ∀ z, f5_judge x0 x1 x2 w = some z → OkM mX5_judge 7 0 0 [vR x0, vI x1, vI x2] w (rtI z.1) z.2 :=
  OkM.of (rt := rtI) moX5_judge (Nat.le_of_ble_eq_true rfl) (fun X => wpf5_judge X w x0 x1 x2 w)
def tbX5_kinds : List (Nat × Instr × Nat) := [(0, .aload_n 0, 1), (1, .iload_n 1, 1), (2, .iload_n 2, 1), (3, .invokevirtual 200, 3), (6, .istore 4, 2), (8, .iload 4, 2), (10, .ifCond .eq 6, 3), (13, .iload 4, 2), (15, .ireturn, 1), (16, .iload_n 3, 1), (17, .iconst 0, 1), (18, .iconst 1, 1), (19, .invokestatic 111, 3), (22, .ifCond .ne 6, 3), (25, .bipush (-7), 2), (27, .ireturn, 1), (28, .iconst 0, 1), (29, .istore 5, 2), (31, .iload_n 3, 1), (32, .ifCond .ne 8, 3), (35, .bipush 6, 2), (37, .goto 5, 3), (40, .bipush 10, 2), (42, .istore 6, 2), (44, .iconst 0, 1), (45, .istore 7, 2), (47, .iload 7, 2), (49, .iload 6, 2), (51, .if_icmp .ge 67, 3), (54, .aload_n 0, 1), (55, .invokevirtual 172, 3), (58, .iload_n 3, 1), (59, .ifCond .ne 20, 3), (62, .aload_n 0, 1), (63, .getfield 52, 3), (66, .getfield 118, 3), (69, .iload_n 2, 1), (70, .aaload, 1), (71, .iload 7, 2), (73, .putfield 144, 3), (76, .goto 17, 3), (79, .aload_n 0, 1), (80, .getfield 52, 3), (83, .getfield 118, 3), (86, .iload_n 2, 1), (87, .aaload, 1), (88, .iload 7, 2), (90, .putfield 147, 3), (93, .aload_n 0, 1), (94, .iload_n 1, 1), (95, .iload_n 2, 1), (96, .invokevirtual 203, 3), (99, .iconst (-1), 1), (100, .if_icmp .ne 12, 3), (103, .iload 5, 2), (105, .iconst 1, 1), (106, .iload 7, 2), (108, .ishl, 1), (109, .ior, 1), (110, .istore 5, 2), (112, .iinc 7 1, 3), (115, .goto (-68), 3), (118, .iload 5, 2), (120, .ireturn, 1)]
set_option maxRecDepth 20000 in
theorem dtX5_kinds : ∀ x ∈ tbX5_kinds, decode cX5_kinds x.1 = .ok x.2 := by decide +kernel
noncomputable def j5_kinds_112 (k47 : Nat × Int32 × Int32 × Int32 × Int32 × Int32 × Int32 → Wd → Option (Int32 × Wd)) (x0 : Nat) (x1 : Int32) (x2 : Int32) (x3 : Int32) (x5 : Int32) (x6 : Int32) (x7 : Int32) (w : Wd) : Option (Int32 × Wd) :=
  k47 (x0, x1, x2, x3, x5, x6, (x7 + (1 : Int32))) w
theorem wpj5_kinds_112 (X : CX) (w0 : Wd) (k47 : Nat × Int32 × Int32 × Int32 × Int32 × Int32 × Int32 → Wd → Option (Int32 × Wd)) (hk47 : ∀ (v : Nat × Int32 × Int32 × Int32 × Int32 × Int32 × Int32) (w : Wd), WPe rtI X (mX5_kinds, 7, 0, 0, w0) 0 0 (k47 v w) 47 [(0, vR v.1), (1, vI v.2.1), (2, vI v.2.2.1), (3, vI v.2.2.2.1), (5, vI v.2.2.2.2.1), (6, vI v.2.2.2.2.2.1), (7, vI v.2.2.2.2.2.2)] [] w) (x0 : Nat) (x1 : Int32) (x2 : Int32) (x3 : Int32) (x5 : Int32) (x6 : Int32) (x7 : Int32) (w : Wd) : WPe rtI X (mX5_kinds, 7, 0, 0, w0) 0 0 (j5_kinds_112 k47 x0 x1 x2 x3 x5 x6 x7 w) 112 [(0, vR x0), (1, vI x1), (2, vI x2), (3, vI x3), (5, vI x5), (6, vI x6), (7, vI x7)] [] w := by
  unfold j5_kinds_112
  refine WPe_iinc (pc := 112) (ls' := [(7, vI (x7 + (1 : Int32))), (0, vR x0), (1, vI x1), (2, vI x2), (3, vI x3), (5, vI x5), (6, vI x6)]) 6 (x7 + (1 : Int32)) (dd dtX5_kinds 60 rfl) rfl (congrArg (HAdd.hAdd _) (by decide : Int32.ofInt (1) = (1 : Int32))) (Nat.le_of_ble_eq_true rfl) rfl ?_
  refine WPe_goto (pc := 115) 47 (dd dtX5_kinds 61 rfl) (by decide) ?_
  refine WPe_sub [1, 2, 3, 4, 5, 6, 0] rfl ?_
  exact hk47 (x0, x1, x2, x3, x5, x6, (x7 + (1 : Int32))) w
noncomputable def j5_kinds_93 (k47 : Nat × Int32 × Int32 × Int32 × Int32 × Int32 × Int32 → Wd → Option (Int32 × Wd)) (x0 : Nat) (x1 : Int32) (x2 : Int32) (x3 : Int32) (x5 : Int32) (x6 : Int32) (x7 : Int32) (w : Wd) : Option (Int32 × Wd) :=
  ck (tg w x0 = 5) ((f5_firstOtherwise x0 x1 x2 w).bind fun z23 => (if z23.1 = (-1 : Int32) then (j5_kinds_112 k47 x0 x1 x2 x3 (x5 ||| ((1 : Int32) <<< (x7 &&& 31))) x6 x7 z23.2) else (j5_kinds_112 k47 x0 x1 x2 x3 x5 x6 x7 z23.2)))
theorem wpj5_kinds_93 (X : CX) (w0 : Wd) (k47 : Nat × Int32 × Int32 × Int32 × Int32 × Int32 × Int32 → Wd → Option (Int32 × Wd)) (hk47 : ∀ (v : Nat × Int32 × Int32 × Int32 × Int32 × Int32 × Int32) (w : Wd), WPe rtI X (mX5_kinds, 7, 0, 0, w0) 0 0 (k47 v w) 47 [(0, vR v.1), (1, vI v.2.1), (2, vI v.2.2.1), (3, vI v.2.2.2.1), (5, vI v.2.2.2.2.1), (6, vI v.2.2.2.2.2.1), (7, vI v.2.2.2.2.2.2)] [] w) (x0 : Nat) (x1 : Int32) (x2 : Int32) (x3 : Int32) (x5 : Int32) (x6 : Int32) (x7 : Int32) (w : Wd) : WPe rtI X (mX5_kinds, 7, 0, 0, w0) 0 0 (j5_kinds_93 k47 x0 x1 x2 x3 x5 x6 x7 w) 93 [(0, vR x0), (1, vI x1), (2, vI x2), (3, vI x3), (5, vI x5), (6, vI x6), (7, vI x7)] [] w := by
  unfold j5_kinds_93
  refine WPe_aload_n (pc := 93) 0 (dd dtX5_kinds 48 rfl) rfl ?_
  refine WPe_iload_n (pc := 94) 1 (dd dtX5_kinds 49 rfl) rfl ?_
  refine WPe_iload_n (pc := 95) 2 (dd dtX5_kinds 50 rfl) rfl ?_
  refine WPe_ck fun h22 => ?_
  refine WPe_callV (pc := 96) (rtc := rtI) (Mc := mX5_firstOtherwise) (d' := 6) (mc' := 0) (ms' := 0) [vI x1, vI x2] [] rfl (dd dtX5_kinds 51 rfl) (okf5_firstOtherwise x0 x1 x2 w) moX5_firstOtherwise miX5_firstOtherwise (bw_mem3 144 rfl rfl) (Or.inl ⟨_, _, _, _, (shE h22), rfl⟩) rfl (Nat.le_of_ble_eq_true rfl) ⟨(Nat.le_of_ble_eq_true rfl), (Nat.le_of_ble_eq_true rfl)⟩ ⟨(Nat.le_of_ble_eq_true rfl), (Nat.le_of_ble_eq_true rfl)⟩ (fun z23 h24 e25 => ?_)
  refine WPe_st (st2 := [vI z23.1]) rfl ?_
  refine WPe_iconst (pc := 99) (-1 : Int32) (dd dtX5_kinds 52 rfl) (by decide) ?_
  refine WPe_icmp_ne (pc := 100) 112 (dd dtX5_kinds 53 rfl) (by decide) (fun h26 => ?_) (fun h26 => ?_)
  · refine WPe_iload (pc := 103) 4 (dd dtX5_kinds 54 rfl) rfl ?_
    refine WPe_iconst (pc := 105) (1 : Int32) (dd dtX5_kinds 55 rfl) (by decide) ?_
    refine WPe_iload (pc := 106) 6 (dd dtX5_kinds 56 rfl) rfl ?_
    refine WPe_ishl (pc := 108) (dd dtX5_kinds 57 rfl) ?_
    refine WPe_ior (pc := 109) (dd dtX5_kinds 58 rfl) ?_
    refine WPe_istore (pc := 110) (ls' := [(5, vI (x5 ||| ((1 : Int32) <<< (x7 &&& 31)))), (0, vR x0), (1, vI x1), (2, vI x2), (3, vI x3), (6, vI x6), (7, vI x7)]) (dd dtX5_kinds 59 rfl) (Nat.le_of_ble_eq_true rfl) rfl ?_
    refine WPe_sub [1, 2, 3, 4, 0, 5, 6] rfl ?_
    exact wpj5_kinds_112 X w0 k47 hk47 x0 x1 x2 x3 (x5 ||| ((1 : Int32) <<< (x7 &&& 31))) x6 x7 z23.2
  · refine WPe_sub [0, 1, 2, 3, 4, 5, 6] rfl ?_
    exact wpj5_kinds_112 X w0 k47 hk47 x0 x1 x2 x3 x5 x6 x7 z23.2
noncomputable def b5_kinds_47 (k47 : Nat × Int32 × Int32 × Int32 × Int32 × Int32 × Int32 → Wd → Option (Int32 × Wd)) (v : Nat × Int32 × Int32 × Int32 × Int32 × Int32 × Int32) (w : Wd) : Option (Int32 × Wd) :=
  if v.2.2.2.2.2.1 ≤ v.2.2.2.2.2.2 then (some (v.2.2.2.2.1, w)) else (ck (tg w v.1 = 5) ((f5_think v.1 w).bind fun z13 => (if v.2.2.2.1 = (0 : Int32) then (ck (tg z13.2 (wr z13.2 v.1 4) = 1) (ck (tg z13.2 (wr z13.2 (wr z13.2 v.1 4) 6) = 22 ∧ vp_in v.2.2.1 (ln z13.2 (wr z13.2 (wr z13.2 v.1 4) 6))) (ck (tg z13.2 (wr z13.2 (wr z13.2 (wr z13.2 v.1 4) 6) (v.2.2.1).toNatClampNeg) = 0) (lw (sI z13.2 (wr z13.2 (wr z13.2 (wr z13.2 v.1 4) 6) (v.2.2.1).toNatClampNeg) 0 v.2.2.2.2.2.2) fun w20 => (j5_kinds_93 k47 v.1 v.2.1 v.2.2.1 v.2.2.2.1 v.2.2.2.2.1 v.2.2.2.2.2.1 v.2.2.2.2.2.2 w20))))) else (ck (tg z13.2 (wr z13.2 v.1 4) = 1) (ck (tg z13.2 (wr z13.2 (wr z13.2 v.1 4) 6) = 22 ∧ vp_in v.2.2.1 (ln z13.2 (wr z13.2 (wr z13.2 v.1 4) 6))) (ck (tg z13.2 (wr z13.2 (wr z13.2 (wr z13.2 v.1 4) 6) (v.2.2.1).toNatClampNeg) = 0) (lw (sI z13.2 (wr z13.2 (wr z13.2 (wr z13.2 v.1 4) 6) (v.2.2.1).toNatClampNeg) 1 v.2.2.2.2.2.2) fun w30 => (j5_kinds_93 k47 v.1 v.2.1 v.2.2.1 v.2.2.2.1 v.2.2.2.2.1 v.2.2.2.2.2.1 v.2.2.2.2.2.2 w30))))))))
theorem wpb5_kinds_47 (X : CX) (w0 : Wd) (k47 : Nat × Int32 × Int32 × Int32 × Int32 × Int32 × Int32 → Wd → Option (Int32 × Wd)) (hk47 : ∀ (v : Nat × Int32 × Int32 × Int32 × Int32 × Int32 × Int32) (w : Wd), WPe rtI X (mX5_kinds, 7, 0, 0, w0) 0 0 (k47 v w) 47 [(0, vR v.1), (1, vI v.2.1), (2, vI v.2.2.1), (3, vI v.2.2.2.1), (5, vI v.2.2.2.2.1), (6, vI v.2.2.2.2.2.1), (7, vI v.2.2.2.2.2.2)] [] w) (v : Nat × Int32 × Int32 × Int32 × Int32 × Int32 × Int32) (w : Wd) : WPe rtI X (mX5_kinds, 7, 0, 0, w0) 0 0 (b5_kinds_47 k47 v w) 47 [(0, vR v.1), (1, vI v.2.1), (2, vI v.2.2.1), (3, vI v.2.2.2.1), (5, vI v.2.2.2.2.1), (6, vI v.2.2.2.2.2.1), (7, vI v.2.2.2.2.2.2)] [] w := by
  unfold b5_kinds_47
  refine WPe_iload (pc := 47) 6 (dd dtX5_kinds 26 rfl) rfl ?_
  refine WPe_iload (pc := 49) 5 (dd dtX5_kinds 27 rfl) rfl ?_
  refine WPe_icmp_ge (pc := 51) 118 (dd dtX5_kinds 28 rfl) (by decide) (fun h11 => ?_) (fun h11 => ?_)
  · refine WPe_iload (pc := 118) 4 (dd dtX5_kinds 62 rfl) rfl ?_
    exact WPe_ireturn (pc := 120) (dd dtX5_kinds 63 rfl) rfl rfl ⟨(Nat.le_of_ble_eq_true rfl), (Nat.le_of_ble_eq_true rfl)⟩
  · refine WPe_aload_n (pc := 54) 0 (dd dtX5_kinds 29 rfl) rfl ?_
    refine WPe_ck fun h12 => ?_
    refine WPe_callV (pc := 55) (rtc := rtV) (Mc := mX5_think) (d' := 3) (mc' := 0) (ms' := 0) [] [] rfl (dd dtX5_kinds 30 rfl) (okf5_think v.1 w) moX5_think miX5_think (bw_mem3 53 rfl rfl) (Or.inl ⟨_, _, _, _, (shE h12), rfl⟩) rfl (Nat.le_of_ble_eq_true rfl) ⟨(Nat.le_of_ble_eq_true rfl), (Nat.le_of_ble_eq_true rfl)⟩ ⟨(Nat.le_of_ble_eq_true rfl), (Nat.le_of_ble_eq_true rfl)⟩ (fun z13 h14 e15 => ?_)
    refine WPe_st (st2 := []) rfl ?_
    refine WPe_iload_n (pc := 58) 3 (dd dtX5_kinds 31 rfl) rfl ?_
    refine WPe_if_ne (pc := 59) 79 (dd dtX5_kinds 32 rfl) (by decide) (fun h16 => ?_) (fun h16 => ?_)
    · refine WPe_aload_n (pc := 62) 0 (dd dtX5_kinds 33 rfl) rfl ?_
      refine WPe_getR (pc := 63) (t := 5) (C := RX5) (T := TX5) 4 (dd dtX5_kinds 34 rfl) (e15.at (shE h12) (by decide)) rfl (Nat.le_of_ble_eq_true rfl) rfl (bw_mem2 124 rfl rfl) ?_
      refine WPe_ck fun h17 => ?_
      refine WPe_getR (pc := 66) (t := 1) (C := RX1) (T := TX1) 6 (dd dtX5_kinds 35 rfl) (shE h17) rfl (Nat.le_of_ble_eq_true rfl) rfl (bw_mem2 84 rfl rfl) ?_
      refine WPe_iload_n (pc := 69) 2 (dd dtX5_kinds 36 rfl) rfl ?_
      refine WPe_ck fun h18 => ?_
      refine WPe_aald (pc := 70) (dd dtX5_kinds 37 rfl) (shE h18.1) ⟨(Nat.le_of_ble_eq_true rfl), (Nat.le_of_ble_eq_true rfl)⟩ h18.2 ?_
      refine WPe_iload (pc := 71) 6 (dd dtX5_kinds 38 rfl) rfl ?_
      refine WPe_ck fun h19 => ?_
      refine WPe_putI (pc := 73) (t := 0) (C := RX0) (T := TX0) 0 (dd dtX5_kinds 39 rfl) (shE h19) rfl (Nat.le_of_ble_eq_true rfl) (bw_mem2 41 rfl rfl) (Or.inl rfl) rfl rfl rfl ?_
      refine WPe_lw fun w20 e21 => ?_
      refine WPe_goto (pc := 76) 93 (dd dtX5_kinds 40 rfl) (by decide) ?_
      refine WPe_sub [0, 1, 2, 3, 4, 5, 6] rfl ?_
      exact wpj5_kinds_93 X w0 k47 hk47 v.1 v.2.1 v.2.2.1 v.2.2.2.1 v.2.2.2.2.1 v.2.2.2.2.2.1 v.2.2.2.2.2.2 w20
    · refine WPe_aload_n (pc := 79) 0 (dd dtX5_kinds 41 rfl) rfl ?_
      refine WPe_getR (pc := 80) (t := 5) (C := RX5) (T := TX5) 4 (dd dtX5_kinds 42 rfl) (e15.at (shE h12) (by decide)) rfl (Nat.le_of_ble_eq_true rfl) rfl (bw_mem2 124 rfl rfl) ?_
      refine WPe_ck fun h27 => ?_
      refine WPe_getR (pc := 83) (t := 1) (C := RX1) (T := TX1) 6 (dd dtX5_kinds 43 rfl) (shE h27) rfl (Nat.le_of_ble_eq_true rfl) rfl (bw_mem2 84 rfl rfl) ?_
      refine WPe_iload_n (pc := 86) 2 (dd dtX5_kinds 44 rfl) rfl ?_
      refine WPe_ck fun h28 => ?_
      refine WPe_aald (pc := 87) (dd dtX5_kinds 45 rfl) (shE h28.1) ⟨(Nat.le_of_ble_eq_true rfl), (Nat.le_of_ble_eq_true rfl)⟩ h28.2 ?_
      refine WPe_iload (pc := 88) 6 (dd dtX5_kinds 46 rfl) rfl ?_
      refine WPe_ck fun h29 => ?_
      refine WPe_putI (pc := 90) (t := 0) (C := RX0) (T := TX0) 1 (dd dtX5_kinds 47 rfl) (shE h29) rfl (Nat.le_of_ble_eq_true rfl) (bw_mem2 45 rfl rfl) (Or.inl rfl) rfl rfl rfl ?_
      refine WPe_lw fun w30 e31 => ?_
      refine WPe_sub [0, 1, 2, 3, 4, 5, 6] rfl ?_
      exact wpj5_kinds_93 X w0 k47 hk47 v.1 v.2.1 v.2.2.1 v.2.2.2.1 v.2.2.2.2.1 v.2.2.2.2.2.1 v.2.2.2.2.2.2 w30
theorem wplb5_kinds_47 (X : CX) (w0 : Wd)  : ∀ (n9 : Nat) (v : Nat × Int32 × Int32 × Int32 × Int32 × Int32 × Int32) (w : Wd), WPe rtI X (mX5_kinds, 7, 0, 0, w0) 0 0 (loopF (b5_kinds_47 ) n9 v w) 47 [(0, vR v.1), (1, vI v.2.1), (2, vI v.2.2.1), (3, vI v.2.2.2.1), (5, vI v.2.2.2.2.1), (6, vI v.2.2.2.2.2.1), (7, vI v.2.2.2.2.2.2)] [] w :=
  WPe_loop (rt := rtI) (X := X) (M := (mX5_kinds, 7, 0, 0, w0)) (fun v : Nat × Int32 × Int32 × Int32 × Int32 × Int32 × Int32 => [(0, vR v.1), (1, vI v.2.1), (2, vI v.2.2.1), (3, vI v.2.2.2.1), (5, vI v.2.2.2.2.1), (6, vI v.2.2.2.2.2.1), (7, vI v.2.2.2.2.2.2)]) (fun k hk v w => wpb5_kinds_47 X w0  k hk v w)
noncomputable def j5_kinds_42  (x0 : Nat) (x1 : Int32) (x2 : Int32) (x3 : Int32) (x5 : Int32) (s0 : Int32) (w : Wd) : Option (Int32 × Wd) :=
  loopF (b5_kinds_47) FU (x0, x1, x2, x3, x5, s0, (0 : Int32)) w
theorem wpj5_kinds_42 (X : CX) (w0 : Wd)  (x0 : Nat) (x1 : Int32) (x2 : Int32) (x3 : Int32) (x5 : Int32) (s0 : Int32) (w : Wd) : WPe rtI X (mX5_kinds, 7, 0, 0, w0) 0 0 (j5_kinds_42  x0 x1 x2 x3 x5 s0 w) 42 [(0, vR x0), (1, vI x1), (2, vI x2), (3, vI x3), (5, vI x5)] [vI s0] w := by
  unfold j5_kinds_42
  refine WPe_istore (pc := 42) (ls' := [(6, vI s0), (0, vR x0), (1, vI x1), (2, vI x2), (3, vI x3), (5, vI x5)]) (dd dtX5_kinds 23 rfl) (Nat.le_of_ble_eq_true rfl) rfl ?_
  refine WPe_iconst (pc := 44) (0 : Int32) (dd dtX5_kinds 24 rfl) (by decide) ?_
  refine WPe_istore (pc := 45) (ls' := [(7, vI (0 : Int32)), (6, vI s0), (0, vR x0), (1, vI x1), (2, vI x2), (3, vI x3), (5, vI x5)]) (dd dtX5_kinds 25 rfl) (Nat.le_of_ble_eq_true rfl) rfl ?_
  refine WPe_sub [2, 3, 4, 5, 6, 1, 0] rfl ?_
  exact wplb5_kinds_47 X w0  FU _ _
noncomputable def f5_kinds (x0 : Nat) (x1 : Int32) (x2 : Int32) (x3 : Int32) (w : Wd) : Option (Int32 × Wd) :=
  ck (tg w x0 = 5) ((f5_toldRefusal x0 x1 x2 w).bind fun z2 => (if z2.1 = (0 : Int32) then ((f5_isWithin x3 (0 : Int32) (1 : Int32) z2.2).bind fun z6 => (if z6.1 = (0 : Int32) then (some ((-7 : Int32), z6.2)) else (if x3 = (0 : Int32) then (j5_kinds_42 x0 x1 x2 x3 (0 : Int32) (6 : Int32) z6.2) else (j5_kinds_42 x0 x1 x2 x3 (0 : Int32) (10 : Int32) z6.2)))) else (some (z2.1, z2.2))))
theorem wpf5_kinds (X : CX) (w0 : Wd) (x0 : Nat) (x1 : Int32) (x2 : Int32) (x3 : Int32) (w : Wd) : WPe rtI X (mX5_kinds, 7, 0, 0, w0) 0 0 (f5_kinds x0 x1 x2 x3 w) 0 [(0, vR x0), (1, vI x1), (2, vI x2), (3, vI x3)] [] w := by
  unfold f5_kinds
  refine WPe_aload_n (pc := 0) 0 (dd dtX5_kinds 0 rfl) rfl ?_
  refine WPe_iload_n (pc := 1) 1 (dd dtX5_kinds 1 rfl) rfl ?_
  refine WPe_iload_n (pc := 2) 2 (dd dtX5_kinds 2 rfl) rfl ?_
  refine WPe_ck fun h1 => ?_
  refine WPe_callV (pc := 3) (rtc := rtI) (Mc := mX5_toldRefusal) (d' := 3) (mc' := 0) (ms' := 0) [vI x1, vI x2] [] rfl (dd dtX5_kinds 3 rfl) (okf5_toldRefusal x0 x1 x2 w) moX5_toldRefusal miX5_toldRefusal (bw_mem3 129 rfl rfl) (Or.inl ⟨_, _, _, _, (shE h1), rfl⟩) rfl (Nat.le_of_ble_eq_true rfl) ⟨(Nat.le_of_ble_eq_true rfl), (Nat.le_of_ble_eq_true rfl)⟩ ⟨(Nat.le_of_ble_eq_true rfl), (Nat.le_of_ble_eq_true rfl)⟩ (fun z2 h3 e4 => ?_)
  refine WPe_st (st2 := [vI z2.1]) rfl ?_
  refine WPe_istore (pc := 6) (ls' := [(4, vI z2.1), (0, vR x0), (1, vI x1), (2, vI x2), (3, vI x3)]) (dd dtX5_kinds 4 rfl) (Nat.le_of_ble_eq_true rfl) rfl ?_
  refine WPe_iload (pc := 8) 0 (dd dtX5_kinds 5 rfl) rfl ?_
  refine WPe_if_eq (pc := 10) 16 (dd dtX5_kinds 6 rfl) (by decide) (fun h5 => ?_) (fun h5 => ?_)
  · refine WPe_iload_n (pc := 16) 4 (dd dtX5_kinds 9 rfl) rfl ?_
    refine WPe_iconst (pc := 17) (0 : Int32) (dd dtX5_kinds 10 rfl) (by decide) ?_
    refine WPe_iconst (pc := 18) (1 : Int32) (dd dtX5_kinds 11 rfl) (by decide) ?_
    refine WPe_callS (pc := 19) (rtc := rtI) (Mc := mX5_isWithin) (d' := 1) (mc' := 0) (ms' := 0) [vI x3, vI (0 : Int32), vI (1 : Int32)] [] rfl (dd dtX5_kinds 12 rfl) (okf5_isWithin x3 (0 : Int32) (1 : Int32) z2.2) moX5_isWithin msX5_isWithin (bw_mem2 176 rfl rfl) rfl (Nat.le_of_ble_eq_true rfl) ⟨(Nat.le_of_ble_eq_true rfl), (Nat.le_of_ble_eq_true rfl)⟩ ⟨(Nat.le_of_ble_eq_true rfl), (Nat.le_of_ble_eq_true rfl)⟩ (fun z6 h7 e8 => ?_)
    refine WPe_st (st2 := [vI z6.1]) rfl ?_
    refine WPe_if_ne (pc := 22) 28 (dd dtX5_kinds 13 rfl) (by decide) (fun h9 => ?_) (fun h9 => ?_)
    · refine WPe_bipush (pc := 25) (-7 : Int32) (dd dtX5_kinds 14 rfl) (by decide) ?_
      exact WPe_ireturn (pc := 27) (dd dtX5_kinds 15 rfl) rfl rfl ⟨(Nat.le_of_ble_eq_true rfl), (Nat.le_of_ble_eq_true rfl)⟩
    · refine WPe_iconst (pc := 28) (0 : Int32) (dd dtX5_kinds 16 rfl) (by decide) ?_
      refine WPe_istore (pc := 29) (ls' := [(5, vI (0 : Int32)), (4, vI z2.1), (0, vR x0), (1, vI x1), (2, vI x2), (3, vI x3)]) (dd dtX5_kinds 17 rfl) (Nat.le_of_ble_eq_true rfl) rfl ?_
      refine WPe_iload_n (pc := 31) 5 (dd dtX5_kinds 18 rfl) rfl ?_
      refine WPe_if_ne (pc := 32) 40 (dd dtX5_kinds 19 rfl) (by decide) (fun h10 => ?_) (fun h10 => ?_)
      · refine WPe_bipush (pc := 35) (6 : Int32) (dd dtX5_kinds 20 rfl) (by decide) ?_
        refine WPe_goto (pc := 37) 42 (dd dtX5_kinds 21 rfl) (by decide) ?_
        refine WPe_sub [2, 3, 4, 5, 0] rfl ?_
        exact wpj5_kinds_42 X w0  x0 x1 x2 x3 (0 : Int32) (6 : Int32) z6.2
      · refine WPe_bipush (pc := 40) (10 : Int32) (dd dtX5_kinds 22 rfl) (by decide) ?_
        refine WPe_sub [2, 3, 4, 5, 0] rfl ?_
        exact wpj5_kinds_42 X w0  x0 x1 x2 x3 (0 : Int32) (10 : Int32) z6.2
  · refine WPe_iload (pc := 13) 0 (dd dtX5_kinds 7 rfl) rfl ?_
    exact WPe_ireturn (pc := 15) (dd dtX5_kinds 8 rfl) rfl rfl ⟨(Nat.le_of_ble_eq_true rfl), (Nat.le_of_ble_eq_true rfl)⟩
theorem okf5_kinds (x0 : Nat) (x1 : Int32) (x2 : Int32) (x3 : Int32) (w : Wd) : ∀ z, f5_kinds x0 x1 x2 x3 w = some z → OkM mX5_kinds 7 0 0 [vR x0, vI x1, vI x2, vI x3] w (rtI z.1) z.2 :=
  OkM.of (rt := rtI) moX5_kinds (Nat.le_of_ble_eq_true rfl) (fun X => wpf5_kinds X w x0 x1 x2 x3 w)
def tbX5_states : List (Nat × Instr × Nat) := [(0, .aload_n 0, 1), (1, .iload_n 1, 1), (2, .iload_n 2, 1), (3, .invokevirtual 200, 3), (6, .istore 4, 2), (8, .iload 4, 2), (10, .ifCond .eq 6, 3), (13, .iload 4, 2), (15, .ireturn, 1), (16, .iload_n 3, 1), (17, .iconst 0, 1), (18, .iconst 2, 1), (19, .invokestatic 111, 3), (22, .ifCond .ne 6, 3), (25, .bipush (-7), 2), (27, .ireturn, 1), (28, .aload_n 0, 1), (29, .getfield 52, 3), (32, .getfield 118, 3), (35, .iload_n 2, 1), (36, .aaload, 1), (37, .astore 5, 2), (39, .iconst 0, 1), (40, .istore 6, 2), (42, .iconst 0, 1), (43, .istore 7, 2), (45, .iconst (-1), 1), (46, .istore 8, 2), (48, .iload_n 3, 1), (49, .ifCond .ne 7, 3), (52, .iconst 4, 1), (53, .goto 6, 3), (56, .sipush 300, 3), (59, .istore 9, 2), (61, .iconst 0, 1), (62, .istore 10, 2), (64, .iload 10, 2), (66, .iload 9, 2), (68, .if_icmp .ge 81, 3), (71, .aload_n 0, 1), (72, .invokevirtual 172, 3), (75, .iload_n 3, 1), (76, .ifCond .ne 13, 3), (79, .aload 5, 2), (81, .iload 10, 2), (83, .putfield 133, 3), (86, .goto 10, 3), (89, .aload 5, 2), (91, .iload 10, 2), (93, .putfield 138, 3), (96, .aload_n 0, 1), (97, .iload_n 1, 1), (98, .iload_n 2, 1), (99, .invokevirtual 203, 3), (102, .iconst (-1), 1), (103, .if_icmp .ne 40, 3), (106, .iload 6, 2), (108, .iload 10, 2), (110, .iconst 3, 1), (111, .if_icmp .gt 10, 3), (114, .iconst 1, 1), (115, .iload 10, 2), (117, .ishl, 1), (118, .goto 4, 3), (121, .iconst 0, 1), (122, .ior, 1), (123, .istore 6, 2), (125, .iinc 7 1, 3), (128, .iload 8, 2), (130, .iconst (-1), 1), (131, .if_icmp .ne 8, 3), (134, .iload 10, 2), (136, .goto 5, 3), (139, .iload 8, 2), (141, .istore 8, 2), (143, .iinc 10 1, 3), (146, .goto (-82), 3), (149, .iload_n 3, 1), (150, .ifCond .ne 8, 3), (153, .iload 6, 2), (155, .goto 15, 3), (158, .iload_n 3, 1), (159, .iconst 1, 1), (160, .if_icmp .ne 8, 3), (163, .iload 7, 2), (165, .goto 5, 3), (168, .iload 8, 2), (170, .ireturn, 1)]
set_option maxRecDepth 20000 in
theorem dtX5_states : ∀ x ∈ tbX5_states, decode cX5_states x.1 = .ok x.2 := by decide +kernel
noncomputable def j5_states_143 (k64 : Nat × Int32 × Int32 × Int32 × Nat × Int32 × Int32 × Int32 × Int32 × Int32 → Wd → Option (Int32 × Wd)) (x0 : Nat) (x1 : Int32) (x2 : Int32) (x3 : Int32) (x5 : Nat) (x6 : Int32) (x7 : Int32) (x8 : Int32) (x9 : Int32) (x10 : Int32) (w : Wd) : Option (Int32 × Wd) :=
  k64 (x0, x1, x2, x3, x5, x6, x7, x8, x9, (x10 + (1 : Int32))) w
theorem wpj5_states_143 (X : CX) (w0 : Wd) (k64 : Nat × Int32 × Int32 × Int32 × Nat × Int32 × Int32 × Int32 × Int32 × Int32 → Wd → Option (Int32 × Wd)) (hk64 : ∀ (v : Nat × Int32 × Int32 × Int32 × Nat × Int32 × Int32 × Int32 × Int32 × Int32) (w : Wd), WPe rtI X (mX5_states, 7, 0, 0, w0) 0 0 (k64 v w) 64 [(0, vR v.1), (1, vI v.2.1), (2, vI v.2.2.1), (3, vI v.2.2.2.1), (5, vR v.2.2.2.2.1), (6, vI v.2.2.2.2.2.1), (7, vI v.2.2.2.2.2.2.1), (8, vI v.2.2.2.2.2.2.2.1), (9, vI v.2.2.2.2.2.2.2.2.1), (10, vI v.2.2.2.2.2.2.2.2.2)] [] w) (x0 : Nat) (x1 : Int32) (x2 : Int32) (x3 : Int32) (x5 : Nat) (x6 : Int32) (x7 : Int32) (x8 : Int32) (x9 : Int32) (x10 : Int32) (w : Wd) : WPe rtI X (mX5_states, 7, 0, 0, w0) 0 0 (j5_states_143 k64 x0 x1 x2 x3 x5 x6 x7 x8 x9 x10 w) 143 [(0, vR x0), (1, vI x1), (2, vI x2), (3, vI x3), (5, vR x5), (6, vI x6), (7, vI x7), (8, vI x8), (9, vI x9), (10, vI x10)] [] w := by
  unfold j5_states_143
  refine WPe_iinc (pc := 143) (ls' := [(10, vI (x10 + (1 : Int32))), (0, vR x0), (1, vI x1), (2, vI x2), (3, vI x3), (5, vR x5), (6, vI x6), (7, vI x7), (8, vI x8), (9, vI x9)]) 9 (x10 + (1 : Int32)) (dd dtX5_states 75 rfl) rfl (congrArg (HAdd.hAdd _) (by decide : Int32.ofInt (1) = (1 : Int32))) (Nat.le_of_ble_eq_true rfl) rfl ?_
  refine WPe_goto (pc := 146) 64 (dd dtX5_states 76 rfl) (by decide) ?_
  refine WPe_sub [1, 2, 3, 4, 5, 6, 7, 8, 9, 0] rfl ?_
  exact hk64 (x0, x1, x2, x3, x5, x6, x7, x8, x9, (x10 + (1 : Int32))) w
noncomputable def j5_states_141 (k64 : Nat × Int32 × Int32 × Int32 × Nat × Int32 × Int32 × Int32 × Int32 × Int32 → Wd → Option (Int32 × Wd)) (x0 : Nat) (x1 : Int32) (x2 : Int32) (x3 : Int32) (x5 : Nat) (x6 : Int32) (x7 : Int32) (x9 : Int32) (x10 : Int32) (s0 : Int32) (w : Wd) : Option (Int32 × Wd) :=
  j5_states_143 k64 x0 x1 x2 x3 x5 x6 x7 s0 x9 x10 w
theorem wpj5_states_141 (X : CX) (w0 : Wd) (k64 : Nat × Int32 × Int32 × Int32 × Nat × Int32 × Int32 × Int32 × Int32 × Int32 → Wd → Option (Int32 × Wd)) (hk64 : ∀ (v : Nat × Int32 × Int32 × Int32 × Nat × Int32 × Int32 × Int32 × Int32 × Int32) (w : Wd), WPe rtI X (mX5_states, 7, 0, 0, w0) 0 0 (k64 v w) 64 [(0, vR v.1), (1, vI v.2.1), (2, vI v.2.2.1), (3, vI v.2.2.2.1), (5, vR v.2.2.2.2.1), (6, vI v.2.2.2.2.2.1), (7, vI v.2.2.2.2.2.2.1), (8, vI v.2.2.2.2.2.2.2.1), (9, vI v.2.2.2.2.2.2.2.2.1), (10, vI v.2.2.2.2.2.2.2.2.2)] [] w) (x0 : Nat) (x1 : Int32) (x2 : Int32) (x3 : Int32) (x5 : Nat) (x6 : Int32) (x7 : Int32) (x9 : Int32) (x10 : Int32) (s0 : Int32) (w : Wd) : WPe rtI X (mX5_states, 7, 0, 0, w0) 0 0 (j5_states_141 k64 x0 x1 x2 x3 x5 x6 x7 x9 x10 s0 w) 141 [(0, vR x0), (1, vI x1), (2, vI x2), (3, vI x3), (5, vR x5), (6, vI x6), (7, vI x7), (9, vI x9), (10, vI x10)] [vI s0] w := by
  unfold j5_states_141
  refine WPe_istore (pc := 141) (ls' := [(8, vI s0), (0, vR x0), (1, vI x1), (2, vI x2), (3, vI x3), (5, vR x5), (6, vI x6), (7, vI x7), (9, vI x9), (10, vI x10)]) (dd dtX5_states 74 rfl) (Nat.le_of_ble_eq_true rfl) rfl ?_
  refine WPe_sub [1, 2, 3, 4, 5, 6, 7, 0, 8, 9] rfl ?_
  exact wpj5_states_143 X w0 k64 hk64 x0 x1 x2 x3 x5 x6 x7 s0 x9 x10 w
noncomputable def j5_states_122 (k64 : Nat × Int32 × Int32 × Int32 × Nat × Int32 × Int32 × Int32 × Int32 × Int32 → Wd → Option (Int32 × Wd)) (x0 : Nat) (x1 : Int32) (x2 : Int32) (x3 : Int32) (x5 : Nat) (x7 : Int32) (x8 : Int32) (x9 : Int32) (x10 : Int32) (s0 : Int32) (s1 : Int32) (w : Wd) : Option (Int32 × Wd) :=
  if x8 = (-1 : Int32) then (j5_states_141 k64 x0 x1 x2 x3 x5 (s1 ||| s0) (x7 + (1 : Int32)) x9 x10 x10 w) else (j5_states_141 k64 x0 x1 x2 x3 x5 (s1 ||| s0) (x7 + (1 : Int32)) x9 x10 x8 w)
theorem wpj5_states_122 (X : CX) (w0 : Wd) (k64 : Nat × Int32 × Int32 × Int32 × Nat × Int32 × Int32 × Int32 × Int32 × Int32 → Wd → Option (Int32 × Wd)) (hk64 : ∀ (v : Nat × Int32 × Int32 × Int32 × Nat × Int32 × Int32 × Int32 × Int32 × Int32) (w : Wd), WPe rtI X (mX5_states, 7, 0, 0, w0) 0 0 (k64 v w) 64 [(0, vR v.1), (1, vI v.2.1), (2, vI v.2.2.1), (3, vI v.2.2.2.1), (5, vR v.2.2.2.2.1), (6, vI v.2.2.2.2.2.1), (7, vI v.2.2.2.2.2.2.1), (8, vI v.2.2.2.2.2.2.2.1), (9, vI v.2.2.2.2.2.2.2.2.1), (10, vI v.2.2.2.2.2.2.2.2.2)] [] w) (x0 : Nat) (x1 : Int32) (x2 : Int32) (x3 : Int32) (x5 : Nat) (x7 : Int32) (x8 : Int32) (x9 : Int32) (x10 : Int32) (s0 : Int32) (s1 : Int32) (w : Wd) : WPe rtI X (mX5_states, 7, 0, 0, w0) 0 0 (j5_states_122 k64 x0 x1 x2 x3 x5 x7 x8 x9 x10 s0 s1 w) 122 [(0, vR x0), (1, vI x1), (2, vI x2), (3, vI x3), (5, vR x5), (7, vI x7), (8, vI x8), (9, vI x9), (10, vI x10)] [vI s0, vI s1] w := by
  unfold j5_states_122
  refine WPe_ior (pc := 122) (dd dtX5_states 65 rfl) ?_
  refine WPe_istore (pc := 123) (ls' := [(6, vI (s1 ||| s0)), (0, vR x0), (1, vI x1), (2, vI x2), (3, vI x3), (5, vR x5), (7, vI x7), (8, vI x8), (9, vI x9), (10, vI x10)]) (dd dtX5_states 66 rfl) (Nat.le_of_ble_eq_true rfl) rfl ?_
  refine WPe_iinc (pc := 125) (ls' := [(7, vI (x7 + (1 : Int32))), (6, vI (s1 ||| s0)), (0, vR x0), (1, vI x1), (2, vI x2), (3, vI x3), (5, vR x5), (8, vI x8), (9, vI x9), (10, vI x10)]) 6 (x7 + (1 : Int32)) (dd dtX5_states 67 rfl) rfl (congrArg (HAdd.hAdd _) (by decide : Int32.ofInt (1) = (1 : Int32))) (Nat.le_of_ble_eq_true rfl) rfl ?_
  refine WPe_iload (pc := 128) 7 (dd dtX5_states 68 rfl) rfl ?_
  refine WPe_iconst (pc := 130) (-1 : Int32) (dd dtX5_states 69 rfl) (by decide) ?_
  refine WPe_icmp_ne (pc := 131) 139 (dd dtX5_states 70 rfl) (by decide) (fun h30 => ?_) (fun h30 => ?_)
  · refine WPe_iload (pc := 134) 9 (dd dtX5_states 71 rfl) rfl ?_
    refine WPe_goto (pc := 136) 141 (dd dtX5_states 72 rfl) (by decide) ?_
    refine WPe_sub [2, 3, 4, 5, 6, 1, 0, 8, 9] rfl ?_
    exact wpj5_states_141 X w0 k64 hk64 x0 x1 x2 x3 x5 (s1 ||| s0) (x7 + (1 : Int32)) x9 x10 x10 w
  · refine WPe_iload (pc := 139) 7 (dd dtX5_states 73 rfl) rfl ?_
    refine WPe_sub [2, 3, 4, 5, 6, 1, 0, 8, 9] rfl ?_
    exact wpj5_states_141 X w0 k64 hk64 x0 x1 x2 x3 x5 (s1 ||| s0) (x7 + (1 : Int32)) x9 x10 x8 w
noncomputable def j5_states_96 (k64 : Nat × Int32 × Int32 × Int32 × Nat × Int32 × Int32 × Int32 × Int32 × Int32 → Wd → Option (Int32 × Wd)) (x0 : Nat) (x1 : Int32) (x2 : Int32) (x3 : Int32) (x5 : Nat) (x6 : Int32) (x7 : Int32) (x8 : Int32) (x9 : Int32) (x10 : Int32) (w : Wd) : Option (Int32 × Wd) :=
  ck (tg w x0 = 5) ((f5_firstOtherwise x0 x1 x2 w).bind fun z25 => (if z25.1 = (-1 : Int32) then (if (3 : Int32) < x10 then (j5_states_122 k64 x0 x1 x2 x3 x5 x7 x8 x9 x10 (0 : Int32) x6 z25.2) else (j5_states_122 k64 x0 x1 x2 x3 x5 x7 x8 x9 x10 ((1 : Int32) <<< (x10 &&& 31)) x6 z25.2)) else (j5_states_143 k64 x0 x1 x2 x3 x5 x6 x7 x8 x9 x10 z25.2)))
theorem wpj5_states_96 (X : CX) (w0 : Wd) (k64 : Nat × Int32 × Int32 × Int32 × Nat × Int32 × Int32 × Int32 × Int32 × Int32 → Wd → Option (Int32 × Wd)) (hk64 : ∀ (v : Nat × Int32 × Int32 × Int32 × Nat × Int32 × Int32 × Int32 × Int32 × Int32) (w : Wd), WPe rtI X (mX5_states, 7, 0, 0, w0) 0 0 (k64 v w) 64 [(0, vR v.1), (1, vI v.2.1), (2, vI v.2.2.1), (3, vI v.2.2.2.1), (5, vR v.2.2.2.2.1), (6, vI v.2.2.2.2.2.1), (7, vI v.2.2.2.2.2.2.1), (8, vI v.2.2.2.2.2.2.2.1), (9, vI v.2.2.2.2.2.2.2.2.1), (10, vI v.2.2.2.2.2.2.2.2.2)] [] w) (x0 : Nat) (x1 : Int32) (x2 : Int32) (x3 : Int32) (x5 : Nat) (x6 : Int32) (x7 : Int32) (x8 : Int32) (x9 : Int32) (x10 : Int32) (w : Wd) : WPe rtI X (mX5_states, 7, 0, 0, w0) 0 0 (j5_states_96 k64 x0 x1 x2 x3 x5 x6 x7 x8 x9 x10 w) 96 [(0, vR x0), (1, vI x1), (2, vI x2), (3, vI x3), (5, vR x5), (6, vI x6), (7, vI x7), (8, vI x8), (9, vI x9), (10, vI x10)] [] w := by
  unfold j5_states_96
  refine WPe_aload_n (pc := 96) 0 (dd dtX5_states 50 rfl) rfl ?_
  refine WPe_iload_n (pc := 97) 1 (dd dtX5_states 51 rfl) rfl ?_
  refine WPe_iload_n (pc := 98) 2 (dd dtX5_states 52 rfl) rfl ?_
  refine WPe_ck fun h24 => ?_
  refine WPe_callV (pc := 99) (rtc := rtI) (Mc := mX5_firstOtherwise) (d' := 6) (mc' := 0) (ms' := 0) [vI x1, vI x2] [] rfl (dd dtX5_states 53 rfl) (okf5_firstOtherwise x0 x1 x2 w) moX5_firstOtherwise miX5_firstOtherwise (bw_mem3 144 rfl rfl) (Or.inl ⟨_, _, _, _, (shE h24), rfl⟩) rfl (Nat.le_of_ble_eq_true rfl) ⟨(Nat.le_of_ble_eq_true rfl), (Nat.le_of_ble_eq_true rfl)⟩ ⟨(Nat.le_of_ble_eq_true rfl), (Nat.le_of_ble_eq_true rfl)⟩ (fun z25 h26 e27 => ?_)
  refine WPe_st (st2 := [vI z25.1]) rfl ?_
  refine WPe_iconst (pc := 102) (-1 : Int32) (dd dtX5_states 54 rfl) (by decide) ?_
  refine WPe_icmp_ne (pc := 103) 143 (dd dtX5_states 55 rfl) (by decide) (fun h28 => ?_) (fun h28 => ?_)
  · refine WPe_iload (pc := 106) 5 (dd dtX5_states 56 rfl) rfl ?_
    refine WPe_iload (pc := 108) 9 (dd dtX5_states 57 rfl) rfl ?_
    refine WPe_iconst (pc := 110) (3 : Int32) (dd dtX5_states 58 rfl) (by decide) ?_
    refine WPe_icmp_gt (pc := 111) 121 (dd dtX5_states 59 rfl) (by decide) (fun h29 => ?_) (fun h29 => ?_)
    · refine WPe_iconst (pc := 121) (0 : Int32) (dd dtX5_states 64 rfl) (by decide) ?_
      refine WPe_sub [0, 1, 2, 3, 4, 6, 7, 8, 9] rfl ?_
      exact wpj5_states_122 X w0 k64 hk64 x0 x1 x2 x3 x5 x7 x8 x9 x10 (0 : Int32) x6 z25.2
    · refine WPe_iconst (pc := 114) (1 : Int32) (dd dtX5_states 60 rfl) (by decide) ?_
      refine WPe_iload (pc := 115) 9 (dd dtX5_states 61 rfl) rfl ?_
      refine WPe_ishl (pc := 117) (dd dtX5_states 62 rfl) ?_
      refine WPe_goto (pc := 118) 122 (dd dtX5_states 63 rfl) (by decide) ?_
      refine WPe_sub [0, 1, 2, 3, 4, 6, 7, 8, 9] rfl ?_
      exact wpj5_states_122 X w0 k64 hk64 x0 x1 x2 x3 x5 x7 x8 x9 x10 ((1 : Int32) <<< (x10 &&& 31)) x6 z25.2
  · refine WPe_sub [0, 1, 2, 3, 4, 5, 6, 7, 8, 9] rfl ?_
    exact wpj5_states_143 X w0 k64 hk64 x0 x1 x2 x3 x5 x6 x7 x8 x9 x10 z25.2
noncomputable def b5_states_64 (k64 : Nat × Int32 × Int32 × Int32 × Nat × Int32 × Int32 × Int32 × Int32 × Int32 → Wd → Option (Int32 × Wd)) (v : Nat × Int32 × Int32 × Int32 × Nat × Int32 × Int32 × Int32 × Int32 × Int32) (w : Wd) : Option (Int32 × Wd) :=
  if v.2.2.2.2.2.2.2.2.1 ≤ v.2.2.2.2.2.2.2.2.2 then (if v.2.2.2.1 = (0 : Int32) then (some (v.2.2.2.2.2.1, w)) else (if v.2.2.2.1 = (1 : Int32) then (some (v.2.2.2.2.2.2.1, w)) else (some (v.2.2.2.2.2.2.2.1, w)))) else (ck (tg w v.1 = 5) ((f5_think v.1 w).bind fun z17 => (if v.2.2.2.1 = (0 : Int32) then (ck (tg z17.2 v.2.2.2.2.1 = 0) (lw (sI z17.2 v.2.2.2.2.1 2 v.2.2.2.2.2.2.2.2.2) fun w22 => (j5_states_96 k64 v.1 v.2.1 v.2.2.1 v.2.2.2.1 v.2.2.2.2.1 v.2.2.2.2.2.1 v.2.2.2.2.2.2.1 v.2.2.2.2.2.2.2.1 v.2.2.2.2.2.2.2.2.1 v.2.2.2.2.2.2.2.2.2 w22))) else (ck (tg z17.2 v.2.2.2.2.1 = 0) (lw (sI z17.2 v.2.2.2.2.1 3 v.2.2.2.2.2.2.2.2.2) fun w32 => (j5_states_96 k64 v.1 v.2.1 v.2.2.1 v.2.2.2.1 v.2.2.2.2.1 v.2.2.2.2.2.1 v.2.2.2.2.2.2.1 v.2.2.2.2.2.2.2.1 v.2.2.2.2.2.2.2.2.1 v.2.2.2.2.2.2.2.2.2 w32))))))
theorem wpb5_states_64 (X : CX) (w0 : Wd) (k64 : Nat × Int32 × Int32 × Int32 × Nat × Int32 × Int32 × Int32 × Int32 × Int32 → Wd → Option (Int32 × Wd)) (hk64 : ∀ (v : Nat × Int32 × Int32 × Int32 × Nat × Int32 × Int32 × Int32 × Int32 × Int32) (w : Wd), WPe rtI X (mX5_states, 7, 0, 0, w0) 0 0 (k64 v w) 64 [(0, vR v.1), (1, vI v.2.1), (2, vI v.2.2.1), (3, vI v.2.2.2.1), (5, vR v.2.2.2.2.1), (6, vI v.2.2.2.2.2.1), (7, vI v.2.2.2.2.2.2.1), (8, vI v.2.2.2.2.2.2.2.1), (9, vI v.2.2.2.2.2.2.2.2.1), (10, vI v.2.2.2.2.2.2.2.2.2)] [] w) (v : Nat × Int32 × Int32 × Int32 × Nat × Int32 × Int32 × Int32 × Int32 × Int32) (w : Wd) : WPe rtI X (mX5_states, 7, 0, 0, w0) 0 0 (b5_states_64 k64 v w) 64 [(0, vR v.1), (1, vI v.2.1), (2, vI v.2.2.1), (3, vI v.2.2.2.1), (5, vR v.2.2.2.2.1), (6, vI v.2.2.2.2.2.1), (7, vI v.2.2.2.2.2.2.1), (8, vI v.2.2.2.2.2.2.2.1), (9, vI v.2.2.2.2.2.2.2.2.1), (10, vI v.2.2.2.2.2.2.2.2.2)] [] w := by
  unfold b5_states_64
  refine WPe_iload (pc := 64) 9 (dd dtX5_states 36 rfl) rfl ?_
  refine WPe_iload (pc := 66) 8 (dd dtX5_states 37 rfl) rfl ?_
  refine WPe_icmp_ge (pc := 68) 149 (dd dtX5_states 38 rfl) (by decide) (fun h13 => ?_) (fun h13 => ?_)
  · refine WPe_iload_n (pc := 149) 3 (dd dtX5_states 77 rfl) rfl ?_
    refine WPe_if_ne (pc := 150) 158 (dd dtX5_states 78 rfl) (by decide) (fun h14 => ?_) (fun h14 => ?_)
    · refine WPe_iload (pc := 153) 5 (dd dtX5_states 79 rfl) rfl ?_
      refine WPe_goto (pc := 155) 170 (dd dtX5_states 80 rfl) (by decide) ?_
      exact WPe_ireturn (pc := 170) (dd dtX5_states 87 rfl) rfl rfl ⟨(Nat.le_of_ble_eq_true rfl), (Nat.le_of_ble_eq_true rfl)⟩
    · refine WPe_iload_n (pc := 158) 3 (dd dtX5_states 81 rfl) rfl ?_
      refine WPe_iconst (pc := 159) (1 : Int32) (dd dtX5_states 82 rfl) (by decide) ?_
      refine WPe_icmp_ne (pc := 160) 168 (dd dtX5_states 83 rfl) (by decide) (fun h15 => ?_) (fun h15 => ?_)
      · refine WPe_iload (pc := 163) 6 (dd dtX5_states 84 rfl) rfl ?_
        refine WPe_goto (pc := 165) 170 (dd dtX5_states 85 rfl) (by decide) ?_
        exact WPe_ireturn (pc := 170) (dd dtX5_states 87 rfl) rfl rfl ⟨(Nat.le_of_ble_eq_true rfl), (Nat.le_of_ble_eq_true rfl)⟩
      · refine WPe_iload (pc := 168) 7 (dd dtX5_states 86 rfl) rfl ?_
        exact WPe_ireturn (pc := 170) (dd dtX5_states 87 rfl) rfl rfl ⟨(Nat.le_of_ble_eq_true rfl), (Nat.le_of_ble_eq_true rfl)⟩
  · refine WPe_aload_n (pc := 71) 0 (dd dtX5_states 39 rfl) rfl ?_
    refine WPe_ck fun h16 => ?_
    refine WPe_callV (pc := 72) (rtc := rtV) (Mc := mX5_think) (d' := 3) (mc' := 0) (ms' := 0) [] [] rfl (dd dtX5_states 40 rfl) (okf5_think v.1 w) moX5_think miX5_think (bw_mem3 53 rfl rfl) (Or.inl ⟨_, _, _, _, (shE h16), rfl⟩) rfl (Nat.le_of_ble_eq_true rfl) ⟨(Nat.le_of_ble_eq_true rfl), (Nat.le_of_ble_eq_true rfl)⟩ ⟨(Nat.le_of_ble_eq_true rfl), (Nat.le_of_ble_eq_true rfl)⟩ (fun z17 h18 e19 => ?_)
    refine WPe_st (st2 := []) rfl ?_
    refine WPe_iload_n (pc := 75) 3 (dd dtX5_states 41 rfl) rfl ?_
    refine WPe_if_ne (pc := 76) 89 (dd dtX5_states 42 rfl) (by decide) (fun h20 => ?_) (fun h20 => ?_)
    · refine WPe_aload (pc := 79) 4 (dd dtX5_states 43 rfl) rfl ?_
      refine WPe_iload (pc := 81) 9 (dd dtX5_states 44 rfl) rfl ?_
      refine WPe_ck fun h21 => ?_
      refine WPe_putI (pc := 83) (t := 0) (C := RX0) (T := TX0) 2 (dd dtX5_states 45 rfl) (shE h21) rfl (Nat.le_of_ble_eq_true rfl) (bw_mem2 49 rfl rfl) (Or.inl rfl) rfl rfl rfl ?_
      refine WPe_lw fun w22 e23 => ?_
      refine WPe_goto (pc := 86) 96 (dd dtX5_states 46 rfl) (by decide) ?_
      refine WPe_sub [0, 1, 2, 3, 4, 5, 6, 7, 8, 9] rfl ?_
      exact wpj5_states_96 X w0 k64 hk64 v.1 v.2.1 v.2.2.1 v.2.2.2.1 v.2.2.2.2.1 v.2.2.2.2.2.1 v.2.2.2.2.2.2.1 v.2.2.2.2.2.2.2.1 v.2.2.2.2.2.2.2.2.1 v.2.2.2.2.2.2.2.2.2 w22
    · refine WPe_aload (pc := 89) 4 (dd dtX5_states 47 rfl) rfl ?_
      refine WPe_iload (pc := 91) 9 (dd dtX5_states 48 rfl) rfl ?_
      refine WPe_ck fun h31 => ?_
      refine WPe_putI (pc := 93) (t := 0) (C := RX0) (T := TX0) 3 (dd dtX5_states 49 rfl) (shE h31) rfl (Nat.le_of_ble_eq_true rfl) (bw_mem2 53 rfl rfl) (Or.inl rfl) rfl rfl rfl ?_
      refine WPe_lw fun w32 e33 => ?_
      refine WPe_sub [0, 1, 2, 3, 4, 5, 6, 7, 8, 9] rfl ?_
      exact wpj5_states_96 X w0 k64 hk64 v.1 v.2.1 v.2.2.1 v.2.2.2.1 v.2.2.2.2.1 v.2.2.2.2.2.1 v.2.2.2.2.2.2.1 v.2.2.2.2.2.2.2.1 v.2.2.2.2.2.2.2.2.1 v.2.2.2.2.2.2.2.2.2 w32
theorem wplb5_states_64 (X : CX) (w0 : Wd)  : ∀ (n9 : Nat) (v : Nat × Int32 × Int32 × Int32 × Nat × Int32 × Int32 × Int32 × Int32 × Int32) (w : Wd), WPe rtI X (mX5_states, 7, 0, 0, w0) 0 0 (loopF (b5_states_64 ) n9 v w) 64 [(0, vR v.1), (1, vI v.2.1), (2, vI v.2.2.1), (3, vI v.2.2.2.1), (5, vR v.2.2.2.2.1), (6, vI v.2.2.2.2.2.1), (7, vI v.2.2.2.2.2.2.1), (8, vI v.2.2.2.2.2.2.2.1), (9, vI v.2.2.2.2.2.2.2.2.1), (10, vI v.2.2.2.2.2.2.2.2.2)] [] w :=
  WPe_loop (rt := rtI) (X := X) (M := (mX5_states, 7, 0, 0, w0)) (fun v : Nat × Int32 × Int32 × Int32 × Nat × Int32 × Int32 × Int32 × Int32 × Int32 => [(0, vR v.1), (1, vI v.2.1), (2, vI v.2.2.1), (3, vI v.2.2.2.1), (5, vR v.2.2.2.2.1), (6, vI v.2.2.2.2.2.1), (7, vI v.2.2.2.2.2.2.1), (8, vI v.2.2.2.2.2.2.2.1), (9, vI v.2.2.2.2.2.2.2.2.1), (10, vI v.2.2.2.2.2.2.2.2.2)]) (fun k hk v w => wpb5_states_64 X w0  k hk v w)
noncomputable def j5_states_59  (x0 : Nat) (x1 : Int32) (x2 : Int32) (x3 : Int32) (x5 : Nat) (x6 : Int32) (x7 : Int32) (x8 : Int32) (s0 : Int32) (w : Wd) : Option (Int32 × Wd) :=
  loopF (b5_states_64) FU (x0, x1, x2, x3, x5, x6, x7, x8, s0, (0 : Int32)) w
theorem wpj5_states_59 (X : CX) (w0 : Wd)  (x0 : Nat) (x1 : Int32) (x2 : Int32) (x3 : Int32) (x5 : Nat) (x6 : Int32) (x7 : Int32) (x8 : Int32) (s0 : Int32) (w : Wd) : WPe rtI X (mX5_states, 7, 0, 0, w0) 0 0 (j5_states_59  x0 x1 x2 x3 x5 x6 x7 x8 s0 w) 59 [(0, vR x0), (1, vI x1), (2, vI x2), (3, vI x3), (5, vR x5), (6, vI x6), (7, vI x7), (8, vI x8)] [vI s0] w := by
  unfold j5_states_59
  refine WPe_istore (pc := 59) (ls' := [(9, vI s0), (0, vR x0), (1, vI x1), (2, vI x2), (3, vI x3), (5, vR x5), (6, vI x6), (7, vI x7), (8, vI x8)]) (dd dtX5_states 33 rfl) (Nat.le_of_ble_eq_true rfl) rfl ?_
  refine WPe_iconst (pc := 61) (0 : Int32) (dd dtX5_states 34 rfl) (by decide) ?_
  refine WPe_istore (pc := 62) (ls' := [(10, vI (0 : Int32)), (9, vI s0), (0, vR x0), (1, vI x1), (2, vI x2), (3, vI x3), (5, vR x5), (6, vI x6), (7, vI x7), (8, vI x8)]) (dd dtX5_states 35 rfl) (Nat.le_of_ble_eq_true rfl) rfl ?_
  refine WPe_sub [2, 3, 4, 5, 6, 7, 8, 9, 1, 0] rfl ?_
  exact wplb5_states_64 X w0  FU _ _
noncomputable def f5_states (x0 : Nat) (x1 : Int32) (x2 : Int32) (x3 : Int32) (w : Wd) : Option (Int32 × Wd) :=
  ck (tg w x0 = 5) ((f5_toldRefusal x0 x1 x2 w).bind fun z2 => (if z2.1 = (0 : Int32) then ((f5_isWithin x3 (0 : Int32) (2 : Int32) z2.2).bind fun z6 => (if z6.1 = (0 : Int32) then (some ((-7 : Int32), z6.2)) else (ck (tg z6.2 (wr z6.2 x0 4) = 1) (ck (tg z6.2 (wr z6.2 (wr z6.2 x0 4) 6) = 22 ∧ vp_in x2 (ln z6.2 (wr z6.2 (wr z6.2 x0 4) 6))) (if x3 = (0 : Int32) then (j5_states_59 x0 x1 x2 x3 (wr z6.2 (wr z6.2 (wr z6.2 x0 4) 6) (x2).toNatClampNeg) (0 : Int32) (0 : Int32) (-1 : Int32) (4 : Int32) z6.2) else (j5_states_59 x0 x1 x2 x3 (wr z6.2 (wr z6.2 (wr z6.2 x0 4) 6) (x2).toNatClampNeg) (0 : Int32) (0 : Int32) (-1 : Int32) (300 : Int32) z6.2)))))) else (some (z2.1, z2.2))))
theorem wpf5_states (X : CX) (w0 : Wd) (x0 : Nat) (x1 : Int32) (x2 : Int32) (x3 : Int32) (w : Wd) : WPe rtI X (mX5_states, 7, 0, 0, w0) 0 0 (f5_states x0 x1 x2 x3 w) 0 [(0, vR x0), (1, vI x1), (2, vI x2), (3, vI x3)] [] w := by
  unfold f5_states
  refine WPe_aload_n (pc := 0) 0 (dd dtX5_states 0 rfl) rfl ?_
  refine WPe_iload_n (pc := 1) 1 (dd dtX5_states 1 rfl) rfl ?_
  refine WPe_iload_n (pc := 2) 2 (dd dtX5_states 2 rfl) rfl ?_
  refine WPe_ck fun h1 => ?_
  refine WPe_callV (pc := 3) (rtc := rtI) (Mc := mX5_toldRefusal) (d' := 3) (mc' := 0) (ms' := 0) [vI x1, vI x2] [] rfl (dd dtX5_states 3 rfl) (okf5_toldRefusal x0 x1 x2 w) moX5_toldRefusal miX5_toldRefusal (bw_mem3 129 rfl rfl) (Or.inl ⟨_, _, _, _, (shE h1), rfl⟩) rfl (Nat.le_of_ble_eq_true rfl) ⟨(Nat.le_of_ble_eq_true rfl), (Nat.le_of_ble_eq_true rfl)⟩ ⟨(Nat.le_of_ble_eq_true rfl), (Nat.le_of_ble_eq_true rfl)⟩ (fun z2 h3 e4 => ?_)
  refine WPe_st (st2 := [vI z2.1]) rfl ?_
  refine WPe_istore (pc := 6) (ls' := [(4, vI z2.1), (0, vR x0), (1, vI x1), (2, vI x2), (3, vI x3)]) (dd dtX5_states 4 rfl) (Nat.le_of_ble_eq_true rfl) rfl ?_
  refine WPe_iload (pc := 8) 0 (dd dtX5_states 5 rfl) rfl ?_
  refine WPe_if_eq (pc := 10) 16 (dd dtX5_states 6 rfl) (by decide) (fun h5 => ?_) (fun h5 => ?_)
  · refine WPe_iload_n (pc := 16) 4 (dd dtX5_states 9 rfl) rfl ?_
    refine WPe_iconst (pc := 17) (0 : Int32) (dd dtX5_states 10 rfl) (by decide) ?_
    refine WPe_iconst (pc := 18) (2 : Int32) (dd dtX5_states 11 rfl) (by decide) ?_
    refine WPe_callS (pc := 19) (rtc := rtI) (Mc := mX5_isWithin) (d' := 1) (mc' := 0) (ms' := 0) [vI x3, vI (0 : Int32), vI (2 : Int32)] [] rfl (dd dtX5_states 12 rfl) (okf5_isWithin x3 (0 : Int32) (2 : Int32) z2.2) moX5_isWithin msX5_isWithin (bw_mem2 176 rfl rfl) rfl (Nat.le_of_ble_eq_true rfl) ⟨(Nat.le_of_ble_eq_true rfl), (Nat.le_of_ble_eq_true rfl)⟩ ⟨(Nat.le_of_ble_eq_true rfl), (Nat.le_of_ble_eq_true rfl)⟩ (fun z6 h7 e8 => ?_)
    refine WPe_st (st2 := [vI z6.1]) rfl ?_
    refine WPe_if_ne (pc := 22) 28 (dd dtX5_states 13 rfl) (by decide) (fun h9 => ?_) (fun h9 => ?_)
    · refine WPe_bipush (pc := 25) (-7 : Int32) (dd dtX5_states 14 rfl) (by decide) ?_
      exact WPe_ireturn (pc := 27) (dd dtX5_states 15 rfl) rfl rfl ⟨(Nat.le_of_ble_eq_true rfl), (Nat.le_of_ble_eq_true rfl)⟩
    · refine WPe_aload_n (pc := 28) 1 (dd dtX5_states 16 rfl) rfl ?_
      refine WPe_getR (pc := 29) (t := 5) (C := RX5) (T := TX5) 4 (dd dtX5_states 17 rfl) (e8.at (e4.at (shE h1) (by decide)) (by decide)) rfl (Nat.le_of_ble_eq_true rfl) rfl (bw_mem2 124 rfl rfl) ?_
      refine WPe_ck fun h10 => ?_
      refine WPe_getR (pc := 32) (t := 1) (C := RX1) (T := TX1) 6 (dd dtX5_states 18 rfl) (shE h10) rfl (Nat.le_of_ble_eq_true rfl) rfl (bw_mem2 84 rfl rfl) ?_
      refine WPe_iload_n (pc := 35) 3 (dd dtX5_states 19 rfl) rfl ?_
      refine WPe_ck fun h11 => ?_
      refine WPe_aald (pc := 36) (dd dtX5_states 20 rfl) (shE h11.1) ⟨(Nat.le_of_ble_eq_true rfl), (Nat.le_of_ble_eq_true rfl)⟩ h11.2 ?_
      refine WPe_astore (pc := 37) (ls' := [(5, vR (wr z6.2 (wr z6.2 (wr z6.2 x0 4) 6) (x2).toNatClampNeg)), (4, vI z2.1), (0, vR x0), (1, vI x1), (2, vI x2), (3, vI x3)]) (dd dtX5_states 21 rfl) (Nat.le_of_ble_eq_true rfl) rfl ?_
      refine WPe_iconst (pc := 39) (0 : Int32) (dd dtX5_states 22 rfl) (by decide) ?_
      refine WPe_istore (pc := 40) (ls' := [(6, vI (0 : Int32)), (5, vR (wr z6.2 (wr z6.2 (wr z6.2 x0 4) 6) (x2).toNatClampNeg)), (4, vI z2.1), (0, vR x0), (1, vI x1), (2, vI x2), (3, vI x3)]) (dd dtX5_states 23 rfl) (Nat.le_of_ble_eq_true rfl) rfl ?_
      refine WPe_iconst (pc := 42) (0 : Int32) (dd dtX5_states 24 rfl) (by decide) ?_
      refine WPe_istore (pc := 43) (ls' := [(7, vI (0 : Int32)), (6, vI (0 : Int32)), (5, vR (wr z6.2 (wr z6.2 (wr z6.2 x0 4) 6) (x2).toNatClampNeg)), (4, vI z2.1), (0, vR x0), (1, vI x1), (2, vI x2), (3, vI x3)]) (dd dtX5_states 25 rfl) (Nat.le_of_ble_eq_true rfl) rfl ?_
      refine WPe_iconst (pc := 45) (-1 : Int32) (dd dtX5_states 26 rfl) (by decide) ?_
      refine WPe_istore (pc := 46) (ls' := [(8, vI (-1 : Int32)), (7, vI (0 : Int32)), (6, vI (0 : Int32)), (5, vR (wr z6.2 (wr z6.2 (wr z6.2 x0 4) 6) (x2).toNatClampNeg)), (4, vI z2.1), (0, vR x0), (1, vI x1), (2, vI x2), (3, vI x3)]) (dd dtX5_states 27 rfl) (Nat.le_of_ble_eq_true rfl) rfl ?_
      refine WPe_iload_n (pc := 48) 8 (dd dtX5_states 28 rfl) rfl ?_
      refine WPe_if_ne (pc := 49) 56 (dd dtX5_states 29 rfl) (by decide) (fun h12 => ?_) (fun h12 => ?_)
      · refine WPe_iconst (pc := 52) (4 : Int32) (dd dtX5_states 30 rfl) (by decide) ?_
        refine WPe_goto (pc := 53) 59 (dd dtX5_states 31 rfl) (by decide) ?_
        refine WPe_sub [5, 6, 7, 8, 3, 2, 1, 0] rfl ?_
        exact wpj5_states_59 X w0  x0 x1 x2 x3 (wr z6.2 (wr z6.2 (wr z6.2 x0 4) 6) (x2).toNatClampNeg) (0 : Int32) (0 : Int32) (-1 : Int32) (4 : Int32) z6.2
      · refine WPe_sipush (pc := 56) (300 : Int32) (dd dtX5_states 32 rfl) (by decide) ?_
        refine WPe_sub [5, 6, 7, 8, 3, 2, 1, 0] rfl ?_
        exact wpj5_states_59 X w0  x0 x1 x2 x3 (wr z6.2 (wr z6.2 (wr z6.2 x0 4) 6) (x2).toNatClampNeg) (0 : Int32) (0 : Int32) (-1 : Int32) (300 : Int32) z6.2
  · refine WPe_iload (pc := 13) 0 (dd dtX5_states 7 rfl) rfl ?_
    exact WPe_ireturn (pc := 15) (dd dtX5_states 8 rfl) rfl rfl ⟨(Nat.le_of_ble_eq_true rfl), (Nat.le_of_ble_eq_true rfl)⟩
theorem okf5_states (x0 : Nat) (x1 : Int32) (x2 : Int32) (x3 : Int32) (w : Wd) : ∀ z, f5_states x0 x1 x2 x3 w = some z → OkM mX5_states 7 0 0 [vR x0, vI x1, vI x2, vI x3] w (rtI z.1) z.2 :=
  OkM.of (rt := rtI) moX5_states (Nat.le_of_ble_eq_true rfl) (fun X => wpf5_states X w x0 x1 x2 x3 w)
def tbX5_steams : List (Nat × Instr × Nat) := [(0, .aload_n 0, 1), (1, .iload_n 1, 1), (2, .iload_n 2, 1), (3, .invokevirtual 200, 3), (6, .istore 4, 2), (8, .iload 4, 2), (10, .ifCond .eq 6, 3), (13, .iload 4, 2), (15, .ireturn, 1), (16, .iload_n 3, 1), (17, .iconst 0, 1), (18, .iconst 1, 1), (19, .invokestatic 111, 3), (22, .ifCond .ne 6, 3), (25, .bipush (-7), 2), (27, .ireturn, 1), (28, .iconst 0, 1), (29, .istore 5, 2), (31, .iconst (-1), 1), (32, .istore 6, 2), (34, .iconst 0, 1), (35, .istore 7, 2), (37, .iload 7, 2), (39, .bipush 99, 2), (41, .if_icmp .gt 50, 3), (44, .aload_n 0, 1), (45, .invokevirtual 172, 3), (48, .aload_n 0, 1), (49, .getfield 52, 3), (52, .iload 7, 2), (54, .putfield 94, 3), (57, .aload_n 0, 1), (58, .iload_n 1, 1), (59, .iload_n 2, 1), (60, .invokevirtual 203, 3), (63, .iconst (-1), 1), (64, .if_icmp .ne 21, 3), (67, .iinc 5 1, 3), (70, .iload 6, 2), (72, .iconst (-1), 1), (73, .if_icmp .ne 8, 3), (76, .iload 7, 2), (78, .goto 5, 3), (81, .iload 6, 2), (83, .istore 6, 2), (85, .iinc 7 1, 3), (88, .goto (-51), 3), (91, .iload_n 3, 1), (92, .ifCond .ne 8, 3), (95, .iload 5, 2), (97, .goto 5, 3), (100, .iload 6, 2), (102, .ireturn, 1)]
set_option maxRecDepth 20000 in
theorem dtX5_steams : ∀ x ∈ tbX5_steams, decode cX5_steams x.1 = .ok x.2 := by decide +kernel
noncomputable def j5_steams_85 (k37 : Nat × Int32 × Int32 × Int32 × Int32 × Int32 × Int32 → Wd → Option (Int32 × Wd)) (x0 : Nat) (x1 : Int32) (x2 : Int32) (x3 : Int32) (x5 : Int32) (x6 : Int32) (x7 : Int32) (w : Wd) : Option (Int32 × Wd) :=
  k37 (x0, x1, x2, x3, x5, x6, (x7 + (1 : Int32))) w
theorem wpj5_steams_85 (X : CX) (w0 : Wd) (k37 : Nat × Int32 × Int32 × Int32 × Int32 × Int32 × Int32 → Wd → Option (Int32 × Wd)) (hk37 : ∀ (v : Nat × Int32 × Int32 × Int32 × Int32 × Int32 × Int32) (w : Wd), WPe rtI X (mX5_steams, 7, 0, 0, w0) 0 0 (k37 v w) 37 [(0, vR v.1), (1, vI v.2.1), (2, vI v.2.2.1), (3, vI v.2.2.2.1), (5, vI v.2.2.2.2.1), (6, vI v.2.2.2.2.2.1), (7, vI v.2.2.2.2.2.2)] [] w) (x0 : Nat) (x1 : Int32) (x2 : Int32) (x3 : Int32) (x5 : Int32) (x6 : Int32) (x7 : Int32) (w : Wd) : WPe rtI X (mX5_steams, 7, 0, 0, w0) 0 0 (j5_steams_85 k37 x0 x1 x2 x3 x5 x6 x7 w) 85 [(0, vR x0), (1, vI x1), (2, vI x2), (3, vI x3), (5, vI x5), (6, vI x6), (7, vI x7)] [] w := by
  unfold j5_steams_85
  refine WPe_iinc (pc := 85) (ls' := [(7, vI (x7 + (1 : Int32))), (0, vR x0), (1, vI x1), (2, vI x2), (3, vI x3), (5, vI x5), (6, vI x6)]) 6 (x7 + (1 : Int32)) (dd dtX5_steams 45 rfl) rfl (congrArg (HAdd.hAdd _) (by decide : Int32.ofInt (1) = (1 : Int32))) (Nat.le_of_ble_eq_true rfl) rfl ?_
  refine WPe_goto (pc := 88) 37 (dd dtX5_steams 46 rfl) (by decide) ?_
  refine WPe_sub [1, 2, 3, 4, 5, 6, 0] rfl ?_
  exact hk37 (x0, x1, x2, x3, x5, x6, (x7 + (1 : Int32))) w
noncomputable def j5_steams_83 (k37 : Nat × Int32 × Int32 × Int32 × Int32 × Int32 × Int32 → Wd → Option (Int32 × Wd)) (x0 : Nat) (x1 : Int32) (x2 : Int32) (x3 : Int32) (x5 : Int32) (x7 : Int32) (s0 : Int32) (w : Wd) : Option (Int32 × Wd) :=
  j5_steams_85 k37 x0 x1 x2 x3 x5 s0 x7 w
theorem wpj5_steams_83 (X : CX) (w0 : Wd) (k37 : Nat × Int32 × Int32 × Int32 × Int32 × Int32 × Int32 → Wd → Option (Int32 × Wd)) (hk37 : ∀ (v : Nat × Int32 × Int32 × Int32 × Int32 × Int32 × Int32) (w : Wd), WPe rtI X (mX5_steams, 7, 0, 0, w0) 0 0 (k37 v w) 37 [(0, vR v.1), (1, vI v.2.1), (2, vI v.2.2.1), (3, vI v.2.2.2.1), (5, vI v.2.2.2.2.1), (6, vI v.2.2.2.2.2.1), (7, vI v.2.2.2.2.2.2)] [] w) (x0 : Nat) (x1 : Int32) (x2 : Int32) (x3 : Int32) (x5 : Int32) (x7 : Int32) (s0 : Int32) (w : Wd) : WPe rtI X (mX5_steams, 7, 0, 0, w0) 0 0 (j5_steams_83 k37 x0 x1 x2 x3 x5 x7 s0 w) 83 [(0, vR x0), (1, vI x1), (2, vI x2), (3, vI x3), (5, vI x5), (7, vI x7)] [vI s0] w := by
  unfold j5_steams_83
  refine WPe_istore (pc := 83) (ls' := [(6, vI s0), (0, vR x0), (1, vI x1), (2, vI x2), (3, vI x3), (5, vI x5), (7, vI x7)]) (dd dtX5_steams 44 rfl) (Nat.le_of_ble_eq_true rfl) rfl ?_
  refine WPe_sub [1, 2, 3, 4, 5, 0, 6] rfl ?_
  exact wpj5_steams_85 X w0 k37 hk37 x0 x1 x2 x3 x5 s0 x7 w
noncomputable def b5_steams_37 (k37 : Nat × Int32 × Int32 × Int32 × Int32 × Int32 × Int32 → Wd → Option (Int32 × Wd)) (v : Nat × Int32 × Int32 × Int32 × Int32 × Int32 × Int32) (w : Wd) : Option (Int32 × Wd) :=
  if (99 : Int32) < v.2.2.2.2.2.2 then (if v.2.2.2.1 = (0 : Int32) then (some (v.2.2.2.2.1, w)) else (some (v.2.2.2.2.2.1, w))) else (ck (tg w v.1 = 5) ((f5_think v.1 w).bind fun z13 => (ck (tg z13.2 (wr z13.2 v.1 4) = 1) (lw (sI z13.2 (wr z13.2 v.1 4) 2 v.2.2.2.2.2.2) fun w17 => ((f5_firstOtherwise v.1 v.2.1 v.2.2.1 w17).bind fun z19 => (if z19.1 = (-1 : Int32) then (if v.2.2.2.2.2.1 = (-1 : Int32) then (j5_steams_83 k37 v.1 v.2.1 v.2.2.1 v.2.2.2.1 (v.2.2.2.2.1 + (1 : Int32)) v.2.2.2.2.2.2 v.2.2.2.2.2.2 z19.2) else (j5_steams_83 k37 v.1 v.2.1 v.2.2.1 v.2.2.2.1 (v.2.2.2.2.1 + (1 : Int32)) v.2.2.2.2.2.2 v.2.2.2.2.2.1 z19.2)) else (j5_steams_85 k37 v.1 v.2.1 v.2.2.1 v.2.2.2.1 v.2.2.2.2.1 v.2.2.2.2.2.1 v.2.2.2.2.2.2 z19.2)))))))
theorem wpb5_steams_37 (X : CX) (w0 : Wd) (k37 : Nat × Int32 × Int32 × Int32 × Int32 × Int32 × Int32 → Wd → Option (Int32 × Wd)) (hk37 : ∀ (v : Nat × Int32 × Int32 × Int32 × Int32 × Int32 × Int32) (w : Wd), WPe rtI X (mX5_steams, 7, 0, 0, w0) 0 0 (k37 v w) 37 [(0, vR v.1), (1, vI v.2.1), (2, vI v.2.2.1), (3, vI v.2.2.2.1), (5, vI v.2.2.2.2.1), (6, vI v.2.2.2.2.2.1), (7, vI v.2.2.2.2.2.2)] [] w) (v : Nat × Int32 × Int32 × Int32 × Int32 × Int32 × Int32) (w : Wd) : WPe rtI X (mX5_steams, 7, 0, 0, w0) 0 0 (b5_steams_37 k37 v w) 37 [(0, vR v.1), (1, vI v.2.1), (2, vI v.2.2.1), (3, vI v.2.2.2.1), (5, vI v.2.2.2.2.1), (6, vI v.2.2.2.2.2.1), (7, vI v.2.2.2.2.2.2)] [] w := by
  unfold b5_steams_37
  refine WPe_iload (pc := 37) 6 (dd dtX5_steams 22 rfl) rfl ?_
  refine WPe_bipush (pc := 39) (99 : Int32) (dd dtX5_steams 23 rfl) (by decide) ?_
  refine WPe_icmp_gt (pc := 41) 91 (dd dtX5_steams 24 rfl) (by decide) (fun h10 => ?_) (fun h10 => ?_)
  · refine WPe_iload_n (pc := 91) 3 (dd dtX5_steams 47 rfl) rfl ?_
    refine WPe_if_ne (pc := 92) 100 (dd dtX5_steams 48 rfl) (by decide) (fun h11 => ?_) (fun h11 => ?_)
    · refine WPe_iload (pc := 95) 4 (dd dtX5_steams 49 rfl) rfl ?_
      refine WPe_goto (pc := 97) 102 (dd dtX5_steams 50 rfl) (by decide) ?_
      exact WPe_ireturn (pc := 102) (dd dtX5_steams 52 rfl) rfl rfl ⟨(Nat.le_of_ble_eq_true rfl), (Nat.le_of_ble_eq_true rfl)⟩
    · refine WPe_iload (pc := 100) 5 (dd dtX5_steams 51 rfl) rfl ?_
      exact WPe_ireturn (pc := 102) (dd dtX5_steams 52 rfl) rfl rfl ⟨(Nat.le_of_ble_eq_true rfl), (Nat.le_of_ble_eq_true rfl)⟩
  · refine WPe_aload_n (pc := 44) 0 (dd dtX5_steams 25 rfl) rfl ?_
    refine WPe_ck fun h12 => ?_
    refine WPe_callV (pc := 45) (rtc := rtV) (Mc := mX5_think) (d' := 3) (mc' := 0) (ms' := 0) [] [] rfl (dd dtX5_steams 26 rfl) (okf5_think v.1 w) moX5_think miX5_think (bw_mem3 53 rfl rfl) (Or.inl ⟨_, _, _, _, (shE h12), rfl⟩) rfl (Nat.le_of_ble_eq_true rfl) ⟨(Nat.le_of_ble_eq_true rfl), (Nat.le_of_ble_eq_true rfl)⟩ ⟨(Nat.le_of_ble_eq_true rfl), (Nat.le_of_ble_eq_true rfl)⟩ (fun z13 h14 e15 => ?_)
    refine WPe_st (st2 := []) rfl ?_
    refine WPe_aload_n (pc := 48) 0 (dd dtX5_steams 27 rfl) rfl ?_
    refine WPe_getR (pc := 49) (t := 5) (C := RX5) (T := TX5) 4 (dd dtX5_steams 28 rfl) (e15.at (shE h12) (by decide)) rfl (Nat.le_of_ble_eq_true rfl) rfl (bw_mem2 124 rfl rfl) ?_
    refine WPe_iload (pc := 52) 6 (dd dtX5_steams 29 rfl) rfl ?_
    refine WPe_ck fun h16 => ?_
    refine WPe_putI (pc := 54) (t := 1) (C := RX1) (T := TX1) 2 (dd dtX5_steams 30 rfl) (shE h16) rfl (Nat.le_of_ble_eq_true rfl) (bw_mem2 76 rfl rfl) (Or.inl rfl) rfl rfl rfl ?_
    refine WPe_lw fun w17 e18 => ?_
    refine WPe_aload_n (pc := 57) 0 (dd dtX5_steams 31 rfl) rfl ?_
    refine WPe_iload_n (pc := 58) 1 (dd dtX5_steams 32 rfl) rfl ?_
    refine WPe_iload_n (pc := 59) 2 (dd dtX5_steams 33 rfl) rfl ?_
    refine WPe_callV (pc := 60) (rtc := rtI) (Mc := mX5_firstOtherwise) (d' := 6) (mc' := 0) (ms' := 0) [vI v.2.1, vI v.2.2.1] [] rfl (dd dtX5_steams 34 rfl) (okf5_firstOtherwise v.1 v.2.1 v.2.2.1 w17) moX5_firstOtherwise miX5_firstOtherwise (bw_mem3 144 rfl rfl) (Or.inl ⟨_, _, _, _, (shI e18 (e15.at (shE h12) (by decide))), rfl⟩) rfl (Nat.le_of_ble_eq_true rfl) ⟨(Nat.le_of_ble_eq_true rfl), (Nat.le_of_ble_eq_true rfl)⟩ ⟨(Nat.le_of_ble_eq_true rfl), (Nat.le_of_ble_eq_true rfl)⟩ (fun z19 h20 e21 => ?_)
    refine WPe_st (st2 := [vI z19.1]) rfl ?_
    refine WPe_iconst (pc := 63) (-1 : Int32) (dd dtX5_steams 35 rfl) (by decide) ?_
    refine WPe_icmp_ne (pc := 64) 85 (dd dtX5_steams 36 rfl) (by decide) (fun h22 => ?_) (fun h22 => ?_)
    · refine WPe_iinc (pc := 67) (ls' := [(5, vI (v.2.2.2.2.1 + (1 : Int32))), (0, vR v.1), (1, vI v.2.1), (2, vI v.2.2.1), (3, vI v.2.2.2.1), (6, vI v.2.2.2.2.2.1), (7, vI v.2.2.2.2.2.2)]) 4 (v.2.2.2.2.1 + (1 : Int32)) (dd dtX5_steams 37 rfl) rfl (congrArg (HAdd.hAdd _) (by decide : Int32.ofInt (1) = (1 : Int32))) (Nat.le_of_ble_eq_true rfl) rfl ?_
      refine WPe_iload (pc := 70) 5 (dd dtX5_steams 38 rfl) rfl ?_
      refine WPe_iconst (pc := 72) (-1 : Int32) (dd dtX5_steams 39 rfl) (by decide) ?_
      refine WPe_icmp_ne (pc := 73) 81 (dd dtX5_steams 40 rfl) (by decide) (fun h23 => ?_) (fun h23 => ?_)
      · refine WPe_iload (pc := 76) 6 (dd dtX5_steams 41 rfl) rfl ?_
        refine WPe_goto (pc := 78) 83 (dd dtX5_steams 42 rfl) (by decide) ?_
        refine WPe_sub [1, 2, 3, 4, 0, 6] rfl ?_
        exact wpj5_steams_83 X w0 k37 hk37 v.1 v.2.1 v.2.2.1 v.2.2.2.1 (v.2.2.2.2.1 + (1 : Int32)) v.2.2.2.2.2.2 v.2.2.2.2.2.2 z19.2
      · refine WPe_iload (pc := 81) 5 (dd dtX5_steams 43 rfl) rfl ?_
        refine WPe_sub [1, 2, 3, 4, 0, 6] rfl ?_
        exact wpj5_steams_83 X w0 k37 hk37 v.1 v.2.1 v.2.2.1 v.2.2.2.1 (v.2.2.2.2.1 + (1 : Int32)) v.2.2.2.2.2.2 v.2.2.2.2.2.1 z19.2
    · refine WPe_sub [0, 1, 2, 3, 4, 5, 6] rfl ?_
      exact wpj5_steams_85 X w0 k37 hk37 v.1 v.2.1 v.2.2.1 v.2.2.2.1 v.2.2.2.2.1 v.2.2.2.2.2.1 v.2.2.2.2.2.2 z19.2
theorem wplb5_steams_37 (X : CX) (w0 : Wd)  : ∀ (n9 : Nat) (v : Nat × Int32 × Int32 × Int32 × Int32 × Int32 × Int32) (w : Wd), WPe rtI X (mX5_steams, 7, 0, 0, w0) 0 0 (loopF (b5_steams_37 ) n9 v w) 37 [(0, vR v.1), (1, vI v.2.1), (2, vI v.2.2.1), (3, vI v.2.2.2.1), (5, vI v.2.2.2.2.1), (6, vI v.2.2.2.2.2.1), (7, vI v.2.2.2.2.2.2)] [] w :=
  WPe_loop (rt := rtI) (X := X) (M := (mX5_steams, 7, 0, 0, w0)) (fun v : Nat × Int32 × Int32 × Int32 × Int32 × Int32 × Int32 => [(0, vR v.1), (1, vI v.2.1), (2, vI v.2.2.1), (3, vI v.2.2.2.1), (5, vI v.2.2.2.2.1), (6, vI v.2.2.2.2.2.1), (7, vI v.2.2.2.2.2.2)]) (fun k hk v w => wpb5_steams_37 X w0  k hk v w)
noncomputable def f5_steams (x0 : Nat) (x1 : Int32) (x2 : Int32) (x3 : Int32) (w : Wd) : Option (Int32 × Wd) :=
  ck (tg w x0 = 5) ((f5_toldRefusal x0 x1 x2 w).bind fun z2 => (if z2.1 = (0 : Int32) then ((f5_isWithin x3 (0 : Int32) (1 : Int32) z2.2).bind fun z6 => (if z6.1 = (0 : Int32) then (some ((-7 : Int32), z6.2)) else (loopF (b5_steams_37) FU (x0, x1, x2, x3, (0 : Int32), (-1 : Int32), (0 : Int32)) z6.2))) else (some (z2.1, z2.2))))
theorem wpf5_steams (X : CX) (w0 : Wd) (x0 : Nat) (x1 : Int32) (x2 : Int32) (x3 : Int32) (w : Wd) : WPe rtI X (mX5_steams, 7, 0, 0, w0) 0 0 (f5_steams x0 x1 x2 x3 w) 0 [(0, vR x0), (1, vI x1), (2, vI x2), (3, vI x3)] [] w := by
  unfold f5_steams
  refine WPe_aload_n (pc := 0) 0 (dd dtX5_steams 0 rfl) rfl ?_
  refine WPe_iload_n (pc := 1) 1 (dd dtX5_steams 1 rfl) rfl ?_
  refine WPe_iload_n (pc := 2) 2 (dd dtX5_steams 2 rfl) rfl ?_
  refine WPe_ck fun h1 => ?_
  refine WPe_callV (pc := 3) (rtc := rtI) (Mc := mX5_toldRefusal) (d' := 3) (mc' := 0) (ms' := 0) [vI x1, vI x2] [] rfl (dd dtX5_steams 3 rfl) (okf5_toldRefusal x0 x1 x2 w) moX5_toldRefusal miX5_toldRefusal (bw_mem3 129 rfl rfl) (Or.inl ⟨_, _, _, _, (shE h1), rfl⟩) rfl (Nat.le_of_ble_eq_true rfl) ⟨(Nat.le_of_ble_eq_true rfl), (Nat.le_of_ble_eq_true rfl)⟩ ⟨(Nat.le_of_ble_eq_true rfl), (Nat.le_of_ble_eq_true rfl)⟩ (fun z2 h3 e4 => ?_)
  refine WPe_st (st2 := [vI z2.1]) rfl ?_
  refine WPe_istore (pc := 6) (ls' := [(4, vI z2.1), (0, vR x0), (1, vI x1), (2, vI x2), (3, vI x3)]) (dd dtX5_steams 4 rfl) (Nat.le_of_ble_eq_true rfl) rfl ?_
  refine WPe_iload (pc := 8) 0 (dd dtX5_steams 5 rfl) rfl ?_
  refine WPe_if_eq (pc := 10) 16 (dd dtX5_steams 6 rfl) (by decide) (fun h5 => ?_) (fun h5 => ?_)
  · refine WPe_iload_n (pc := 16) 4 (dd dtX5_steams 9 rfl) rfl ?_
    refine WPe_iconst (pc := 17) (0 : Int32) (dd dtX5_steams 10 rfl) (by decide) ?_
    refine WPe_iconst (pc := 18) (1 : Int32) (dd dtX5_steams 11 rfl) (by decide) ?_
    refine WPe_callS (pc := 19) (rtc := rtI) (Mc := mX5_isWithin) (d' := 1) (mc' := 0) (ms' := 0) [vI x3, vI (0 : Int32), vI (1 : Int32)] [] rfl (dd dtX5_steams 12 rfl) (okf5_isWithin x3 (0 : Int32) (1 : Int32) z2.2) moX5_isWithin msX5_isWithin (bw_mem2 176 rfl rfl) rfl (Nat.le_of_ble_eq_true rfl) ⟨(Nat.le_of_ble_eq_true rfl), (Nat.le_of_ble_eq_true rfl)⟩ ⟨(Nat.le_of_ble_eq_true rfl), (Nat.le_of_ble_eq_true rfl)⟩ (fun z6 h7 e8 => ?_)
    refine WPe_st (st2 := [vI z6.1]) rfl ?_
    refine WPe_if_ne (pc := 22) 28 (dd dtX5_steams 13 rfl) (by decide) (fun h9 => ?_) (fun h9 => ?_)
    · refine WPe_bipush (pc := 25) (-7 : Int32) (dd dtX5_steams 14 rfl) (by decide) ?_
      exact WPe_ireturn (pc := 27) (dd dtX5_steams 15 rfl) rfl rfl ⟨(Nat.le_of_ble_eq_true rfl), (Nat.le_of_ble_eq_true rfl)⟩
    · refine WPe_iconst (pc := 28) (0 : Int32) (dd dtX5_steams 16 rfl) (by decide) ?_
      refine WPe_istore (pc := 29) (ls' := [(5, vI (0 : Int32)), (4, vI z2.1), (0, vR x0), (1, vI x1), (2, vI x2), (3, vI x3)]) (dd dtX5_steams 17 rfl) (Nat.le_of_ble_eq_true rfl) rfl ?_
      refine WPe_iconst (pc := 31) (-1 : Int32) (dd dtX5_steams 18 rfl) (by decide) ?_
      refine WPe_istore (pc := 32) (ls' := [(6, vI (-1 : Int32)), (5, vI (0 : Int32)), (4, vI z2.1), (0, vR x0), (1, vI x1), (2, vI x2), (3, vI x3)]) (dd dtX5_steams 19 rfl) (Nat.le_of_ble_eq_true rfl) rfl ?_
      refine WPe_iconst (pc := 34) (0 : Int32) (dd dtX5_steams 20 rfl) (by decide) ?_
      refine WPe_istore (pc := 35) (ls' := [(7, vI (0 : Int32)), (6, vI (-1 : Int32)), (5, vI (0 : Int32)), (4, vI z2.1), (0, vR x0), (1, vI x1), (2, vI x2), (3, vI x3)]) (dd dtX5_steams 21 rfl) (Nat.le_of_ble_eq_true rfl) rfl ?_
      refine WPe_sub [4, 5, 6, 7, 2, 1, 0] rfl ?_
      exact wplb5_steams_37 X w0  FU _ _
  · refine WPe_iload (pc := 13) 0 (dd dtX5_steams 7 rfl) rfl ?_
    exact WPe_ireturn (pc := 15) (dd dtX5_steams 8 rfl) rfl rfl ⟨(Nat.le_of_ble_eq_true rfl), (Nat.le_of_ble_eq_true rfl)⟩
theorem okf5_steams (x0 : Nat) (x1 : Int32) (x2 : Int32) (x3 : Int32) (w : Wd) : ∀ z, f5_steams x0 x1 x2 x3 w = some z → OkM mX5_steams 7 0 0 [vR x0, vI x1, vI x2, vI x3] w (rtI z.1) z.2 :=
  OkM.of (rt := rtI) moX5_steams (Nat.le_of_ble_eq_true rfl) (fun X => wpf5_steams X w x0 x1 x2 x3 w)
def tbX5_whose : List (Nat × Instr × Nat) := [(0, .aload_n 0, 1), (1, .iload_n 1, 1), (2, .invokevirtual 206, 3), (5, .istore_n 2, 1), (6, .iload_n 2, 1), (7, .ifCond .eq 5, 3), (10, .iload_n 2, 1), (11, .ireturn, 1), (12, .iconst 0, 1), (13, .istore_n 3, 1), (14, .iconst 0, 1), (15, .istore 4, 2), (17, .iload 4, 2), (19, .aload_n 0, 1), (20, .getfield 48, 3), (23, .getfield 65, 3), (26, .if_icmp .ge 31, 3), (29, .aload_n 0, 1), (30, .invokevirtual 172, 3), (33, .aload_n 0, 1), (34, .iload_n 1, 1), (35, .iload 4, 2), (37, .invokevirtual 203, 3), (40, .iconst (-1), 1), (41, .if_icmp .ne 10, 3), (44, .iload_n 3, 1), (45, .iconst 1, 1), (46, .iload 4, 2), (48, .ishl, 1), (49, .ior, 1), (50, .istore_n 3, 1), (51, .iinc 4 1, 3), (54, .goto (-37), 3), (57, .iload_n 3, 1), (58, .ireturn, 1)]
set_option maxRecDepth 20000 in
theorem dtX5_whose : ∀ x ∈ tbX5_whose, decode cX5_whose x.1 = .ok x.2 := by decide +kernel
noncomputable def j5_whose_51 (k17 : Nat × Int32 × Int32 × Int32 → Wd → Option (Int32 × Wd)) (x0 : Nat) (x1 : Int32) (x3 : Int32) (x4 : Int32) (w : Wd) : Option (Int32 × Wd) :=
  k17 (x0, x1, x3, (x4 + (1 : Int32))) w
theorem wpj5_whose_51 (X : CX) (w0 : Wd) (k17 : Nat × Int32 × Int32 × Int32 → Wd → Option (Int32 × Wd)) (hk17 : ∀ (v : Nat × Int32 × Int32 × Int32) (w : Wd), WPe rtI X (mX5_whose, 7, 0, 0, w0) 0 0 (k17 v w) 17 [(0, vR v.1), (1, vI v.2.1), (3, vI v.2.2.1), (4, vI v.2.2.2)] [] w) (x0 : Nat) (x1 : Int32) (x3 : Int32) (x4 : Int32) (w : Wd) : WPe rtI X (mX5_whose, 7, 0, 0, w0) 0 0 (j5_whose_51 k17 x0 x1 x3 x4 w) 51 [(0, vR x0), (1, vI x1), (3, vI x3), (4, vI x4)] [] w := by
  unfold j5_whose_51
  refine WPe_iinc (pc := 51) (ls' := [(4, vI (x4 + (1 : Int32))), (0, vR x0), (1, vI x1), (3, vI x3)]) 3 (x4 + (1 : Int32)) (dd dtX5_whose 31 rfl) rfl (congrArg (HAdd.hAdd _) (by decide : Int32.ofInt (1) = (1 : Int32))) (Nat.le_of_ble_eq_true rfl) rfl ?_
  refine WPe_goto (pc := 54) 17 (dd dtX5_whose 32 rfl) (by decide) ?_
  refine WPe_sub [1, 2, 3, 0] rfl ?_
  exact hk17 (x0, x1, x3, (x4 + (1 : Int32))) w
noncomputable def b5_whose_17 (k17 : Nat × Int32 × Int32 × Int32 → Wd → Option (Int32 × Wd)) (v : Nat × Int32 × Int32 × Int32) (w : Wd) : Option (Int32 × Wd) :=
  ck (tg w v.1 = 5) (ck (tg w (wr w v.1 3) = 1) (if (wi w (wr w v.1 3) 4) ≤ v.2.2.2 then (some (v.2.2.1, w)) else ((f5_think v.1 w).bind fun z9 => ((f5_firstOtherwise v.1 v.2.1 v.2.2.2 z9.2).bind fun z12 => (if z12.1 = (-1 : Int32) then (j5_whose_51 k17 v.1 v.2.1 (v.2.2.1 ||| ((1 : Int32) <<< (v.2.2.2 &&& 31))) v.2.2.2 z12.2) else (j5_whose_51 k17 v.1 v.2.1 v.2.2.1 v.2.2.2 z12.2))))))
theorem wpb5_whose_17 (X : CX) (w0 : Wd) (k17 : Nat × Int32 × Int32 × Int32 → Wd → Option (Int32 × Wd)) (hk17 : ∀ (v : Nat × Int32 × Int32 × Int32) (w : Wd), WPe rtI X (mX5_whose, 7, 0, 0, w0) 0 0 (k17 v w) 17 [(0, vR v.1), (1, vI v.2.1), (3, vI v.2.2.1), (4, vI v.2.2.2)] [] w) (v : Nat × Int32 × Int32 × Int32) (w : Wd) : WPe rtI X (mX5_whose, 7, 0, 0, w0) 0 0 (b5_whose_17 k17 v w) 17 [(0, vR v.1), (1, vI v.2.1), (3, vI v.2.2.1), (4, vI v.2.2.2)] [] w := by
  unfold b5_whose_17
  refine WPe_iload (pc := 17) 3 (dd dtX5_whose 12 rfl) rfl ?_
  refine WPe_aload_n (pc := 19) 0 (dd dtX5_whose 13 rfl) rfl ?_
  refine WPe_ck fun h6 => ?_
  refine WPe_getR (pc := 20) (t := 5) (C := RX5) (T := TX5) 3 (dd dtX5_whose 14 rfl) (shE h6) rfl (Nat.le_of_ble_eq_true rfl) rfl (bw_mem2 123 rfl rfl) ?_
  refine WPe_ck fun h7 => ?_
  refine WPe_getI (pc := 23) (t := 1) (C := RX1) (T := TX1) 4 (dd dtX5_whose 15 rfl) (shE h7) rfl (Nat.le_of_ble_eq_true rfl) rfl (bw_mem2 80 rfl rfl) ?_
  refine WPe_icmp_ge (pc := 26) 57 (dd dtX5_whose 16 rfl) (by decide) (fun h8 => ?_) (fun h8 => ?_)
  · refine WPe_iload_n (pc := 57) 2 (dd dtX5_whose 33 rfl) rfl ?_
    exact WPe_ireturn (pc := 58) (dd dtX5_whose 34 rfl) rfl rfl ⟨(Nat.le_of_ble_eq_true rfl), (Nat.le_of_ble_eq_true rfl)⟩
  · refine WPe_aload_n (pc := 29) 0 (dd dtX5_whose 17 rfl) rfl ?_
    refine WPe_callV (pc := 30) (rtc := rtV) (Mc := mX5_think) (d' := 3) (mc' := 0) (ms' := 0) [] [] rfl (dd dtX5_whose 18 rfl) (okf5_think v.1 w) moX5_think miX5_think (bw_mem3 53 rfl rfl) (Or.inl ⟨_, _, _, _, (shE h6), rfl⟩) rfl (Nat.le_of_ble_eq_true rfl) ⟨(Nat.le_of_ble_eq_true rfl), (Nat.le_of_ble_eq_true rfl)⟩ ⟨(Nat.le_of_ble_eq_true rfl), (Nat.le_of_ble_eq_true rfl)⟩ (fun z9 h10 e11 => ?_)
    refine WPe_st (st2 := []) rfl ?_
    refine WPe_aload_n (pc := 33) 0 (dd dtX5_whose 19 rfl) rfl ?_
    refine WPe_iload_n (pc := 34) 1 (dd dtX5_whose 20 rfl) rfl ?_
    refine WPe_iload (pc := 35) 3 (dd dtX5_whose 21 rfl) rfl ?_
    refine WPe_callV (pc := 37) (rtc := rtI) (Mc := mX5_firstOtherwise) (d' := 6) (mc' := 0) (ms' := 0) [vI v.2.1, vI v.2.2.2] [] rfl (dd dtX5_whose 22 rfl) (okf5_firstOtherwise v.1 v.2.1 v.2.2.2 z9.2) moX5_firstOtherwise miX5_firstOtherwise (bw_mem3 144 rfl rfl) (Or.inl ⟨_, _, _, _, (e11.at (shE h6) (by decide)), rfl⟩) rfl (Nat.le_of_ble_eq_true rfl) ⟨(Nat.le_of_ble_eq_true rfl), (Nat.le_of_ble_eq_true rfl)⟩ ⟨(Nat.le_of_ble_eq_true rfl), (Nat.le_of_ble_eq_true rfl)⟩ (fun z12 h13 e14 => ?_)
    refine WPe_st (st2 := [vI z12.1]) rfl ?_
    refine WPe_iconst (pc := 40) (-1 : Int32) (dd dtX5_whose 23 rfl) (by decide) ?_
    refine WPe_icmp_ne (pc := 41) 51 (dd dtX5_whose 24 rfl) (by decide) (fun h15 => ?_) (fun h15 => ?_)
    · refine WPe_iload_n (pc := 44) 2 (dd dtX5_whose 25 rfl) rfl ?_
      refine WPe_iconst (pc := 45) (1 : Int32) (dd dtX5_whose 26 rfl) (by decide) ?_
      refine WPe_iload (pc := 46) 3 (dd dtX5_whose 27 rfl) rfl ?_
      refine WPe_ishl (pc := 48) (dd dtX5_whose 28 rfl) ?_
      refine WPe_ior (pc := 49) (dd dtX5_whose 29 rfl) ?_
      refine WPe_istore_n (pc := 50) (ls' := [(3, vI (v.2.2.1 ||| ((1 : Int32) <<< (v.2.2.2 &&& 31)))), (0, vR v.1), (1, vI v.2.1), (4, vI v.2.2.2)]) (dd dtX5_whose 30 rfl) (Nat.le_of_ble_eq_true rfl) rfl ?_
      refine WPe_sub [1, 2, 0, 3] rfl ?_
      exact wpj5_whose_51 X w0 k17 hk17 v.1 v.2.1 (v.2.2.1 ||| ((1 : Int32) <<< (v.2.2.2 &&& 31))) v.2.2.2 z12.2
    · refine WPe_sub [0, 1, 2, 3] rfl ?_
      exact wpj5_whose_51 X w0 k17 hk17 v.1 v.2.1 v.2.2.1 v.2.2.2 z12.2
theorem wplb5_whose_17 (X : CX) (w0 : Wd)  : ∀ (n9 : Nat) (v : Nat × Int32 × Int32 × Int32) (w : Wd), WPe rtI X (mX5_whose, 7, 0, 0, w0) 0 0 (loopF (b5_whose_17 ) n9 v w) 17 [(0, vR v.1), (1, vI v.2.1), (3, vI v.2.2.1), (4, vI v.2.2.2)] [] w :=
  WPe_loop (rt := rtI) (X := X) (M := (mX5_whose, 7, 0, 0, w0)) (fun v : Nat × Int32 × Int32 × Int32 => [(0, vR v.1), (1, vI v.2.1), (3, vI v.2.2.1), (4, vI v.2.2.2)]) (fun k hk v w => wpb5_whose_17 X w0  k hk v w)
noncomputable def f5_whose (x0 : Nat) (x1 : Int32) (w : Wd) : Option (Int32 × Wd) :=
  ck (tg w x0 = 5) ((f5_sheetRefusal x0 x1 w).bind fun z2 => (if z2.1 = (0 : Int32) then (loopF (b5_whose_17) FU (x0, x1, (0 : Int32), (0 : Int32)) z2.2) else (some (z2.1, z2.2))))
theorem wpf5_whose (X : CX) (w0 : Wd) (x0 : Nat) (x1 : Int32) (w : Wd) : WPe rtI X (mX5_whose, 7, 0, 0, w0) 0 0 (f5_whose x0 x1 w) 0 [(0, vR x0), (1, vI x1)] [] w := by
  unfold f5_whose
  refine WPe_aload_n (pc := 0) 0 (dd dtX5_whose 0 rfl) rfl ?_
  refine WPe_iload_n (pc := 1) 1 (dd dtX5_whose 1 rfl) rfl ?_
  refine WPe_ck fun h1 => ?_
  refine WPe_callV (pc := 2) (rtc := rtI) (Mc := mX5_sheetRefusal) (d' := 2) (mc' := 0) (ms' := 0) [vI x1] [] rfl (dd dtX5_whose 2 rfl) (okf5_sheetRefusal x0 x1 w) moX5_sheetRefusal miX5_sheetRefusal (bw_mem3 133 rfl rfl) (Or.inl ⟨_, _, _, _, (shE h1), rfl⟩) rfl (Nat.le_of_ble_eq_true rfl) ⟨(Nat.le_of_ble_eq_true rfl), (Nat.le_of_ble_eq_true rfl)⟩ ⟨(Nat.le_of_ble_eq_true rfl), (Nat.le_of_ble_eq_true rfl)⟩ (fun z2 h3 e4 => ?_)
  refine WPe_st (st2 := [vI z2.1]) rfl ?_
  refine WPe_istore_n (pc := 5) (ls' := [(2, vI z2.1), (0, vR x0), (1, vI x1)]) (dd dtX5_whose 3 rfl) (Nat.le_of_ble_eq_true rfl) rfl ?_
  refine WPe_iload_n (pc := 6) 0 (dd dtX5_whose 4 rfl) rfl ?_
  refine WPe_if_eq (pc := 7) 12 (dd dtX5_whose 5 rfl) (by decide) (fun h5 => ?_) (fun h5 => ?_)
  · refine WPe_iconst (pc := 12) (0 : Int32) (dd dtX5_whose 8 rfl) (by decide) ?_
    refine WPe_istore_n (pc := 13) (ls' := [(3, vI (0 : Int32)), (2, vI z2.1), (0, vR x0), (1, vI x1)]) (dd dtX5_whose 9 rfl) (Nat.le_of_ble_eq_true rfl) rfl ?_
    refine WPe_iconst (pc := 14) (0 : Int32) (dd dtX5_whose 10 rfl) (by decide) ?_
    refine WPe_istore (pc := 15) (ls' := [(4, vI (0 : Int32)), (3, vI (0 : Int32)), (2, vI z2.1), (0, vR x0), (1, vI x1)]) (dd dtX5_whose 11 rfl) (Nat.le_of_ble_eq_true rfl) rfl ?_
    refine WPe_sub [3, 4, 1, 0] rfl ?_
    exact wplb5_whose_17 X w0  FU _ _
  · refine WPe_iload_n (pc := 10) 0 (dd dtX5_whose 6 rfl) rfl ?_
    exact WPe_ireturn (pc := 11) (dd dtX5_whose 7 rfl) rfl rfl ⟨(Nat.le_of_ble_eq_true rfl), (Nat.le_of_ble_eq_true rfl)⟩
theorem okf5_whose (x0 : Nat) (x1 : Int32) (w : Wd) : ∀ z, f5_whose x0 x1 w = some z → OkM mX5_whose 7 0 0 [vR x0, vI x1] w (rtI z.1) z.2 :=
  OkM.of (rt := rtI) moX5_whose (Nat.le_of_ble_eq_true rfl) (fun X => wpf5_whose X w x0 x1 w)
def tbX5_laws : List (Nat × Instr × Nat) := [(0, .aload_n 0, 1), (1, .iload_n 1, 1), (2, .iload_n 2, 1), (3, .invokevirtual 200, 3), (6, .istore_n 3, 1), (7, .iload_n 3, 1), (8, .ifCond .eq 5, 3), (11, .iload_n 3, 1), (12, .ireturn, 1), (13, .iconst 0, 1), (14, .istore 4, 2), (16, .iconst 0, 1), (17, .istore 5, 2), (19, .iload 5, 2), (21, .aload_n 0, 1), (22, .getfield 40, 3), (25, .if_icmp .ge 46, 3), (28, .aload_n 0, 1), (29, .invokevirtual 172, 3), (32, .aload_n 0, 1), (33, .getfield 52, 3), (36, .aload_n 0, 1), (37, .getfield 36, 3), (40, .iload 5, 2), (42, .aaload, 1), (43, .putfield 74, 3), (46, .aload_n 0, 1), (47, .iload_n 1, 1), (48, .iload_n 2, 1), (49, .invokevirtual 203, 3), (52, .iconst (-1), 1), (53, .if_icmp .ne 12, 3), (56, .iload 4, 2), (58, .iconst 1, 1), (59, .iload 5, 2), (61, .ishl, 1), (62, .ior, 1), (63, .istore 4, 2), (65, .iinc 5 1, 3), (68, .goto (-49), 3), (71, .iload 4, 2), (73, .ireturn, 1)]
set_option maxRecDepth 20000 in
theorem dtX5_laws : ∀ x ∈ tbX5_laws, decode cX5_laws x.1 = .ok x.2 := by decide +kernel
noncomputable def j5_laws_65 (k19 : Nat × Int32 × Int32 × Int32 × Int32 → Wd → Option (Int32 × Wd)) (x0 : Nat) (x1 : Int32) (x2 : Int32) (x4 : Int32) (x5 : Int32) (w : Wd) : Option (Int32 × Wd) :=
  k19 (x0, x1, x2, x4, (x5 + (1 : Int32))) w
theorem wpj5_laws_65 (X : CX) (w0 : Wd) (k19 : Nat × Int32 × Int32 × Int32 × Int32 → Wd → Option (Int32 × Wd)) (hk19 : ∀ (v : Nat × Int32 × Int32 × Int32 × Int32) (w : Wd), WPe rtI X (mX5_laws, 7, 0, 0, w0) 0 0 (k19 v w) 19 [(0, vR v.1), (1, vI v.2.1), (2, vI v.2.2.1), (4, vI v.2.2.2.1), (5, vI v.2.2.2.2)] [] w) (x0 : Nat) (x1 : Int32) (x2 : Int32) (x4 : Int32) (x5 : Int32) (w : Wd) : WPe rtI X (mX5_laws, 7, 0, 0, w0) 0 0 (j5_laws_65 k19 x0 x1 x2 x4 x5 w) 65 [(0, vR x0), (1, vI x1), (2, vI x2), (4, vI x4), (5, vI x5)] [] w := by
  unfold j5_laws_65
  refine WPe_iinc (pc := 65) (ls' := [(5, vI (x5 + (1 : Int32))), (0, vR x0), (1, vI x1), (2, vI x2), (4, vI x4)]) 4 (x5 + (1 : Int32)) (dd dtX5_laws 38 rfl) rfl (congrArg (HAdd.hAdd _) (by decide : Int32.ofInt (1) = (1 : Int32))) (Nat.le_of_ble_eq_true rfl) rfl ?_
  refine WPe_goto (pc := 68) 19 (dd dtX5_laws 39 rfl) (by decide) ?_
  refine WPe_sub [1, 2, 3, 4, 0] rfl ?_
  exact hk19 (x0, x1, x2, x4, (x5 + (1 : Int32))) w
noncomputable def b5_laws_19 (k19 : Nat × Int32 × Int32 × Int32 × Int32 → Wd → Option (Int32 × Wd)) (v : Nat × Int32 × Int32 × Int32 × Int32) (w : Wd) : Option (Int32 × Wd) :=
  ck (tg w v.1 = 5) (if (wi w v.1 2) ≤ v.2.2.2.2 then (some (v.2.2.2.1, w)) else ((f5_think v.1 w).bind fun z8 => (ck (tg z8.2 (wr z8.2 v.1 1) = 21 ∧ vp_in v.2.2.2.2 (ln z8.2 (wr z8.2 v.1 1))) (ck (tg z8.2 (wr z8.2 v.1 4) = 1) (lw (sR z8.2 (wr z8.2 v.1 4) 5 (wr z8.2 (wr z8.2 v.1 1) (v.2.2.2.2).toNatClampNeg)) fun w13 => ((f5_firstOtherwise v.1 v.2.1 v.2.2.1 w13).bind fun z15 => (if z15.1 = (-1 : Int32) then (j5_laws_65 k19 v.1 v.2.1 v.2.2.1 (v.2.2.2.1 ||| ((1 : Int32) <<< (v.2.2.2.2 &&& 31))) v.2.2.2.2 z15.2) else (j5_laws_65 k19 v.1 v.2.1 v.2.2.1 v.2.2.2.1 v.2.2.2.2 z15.2))))))))
theorem wpb5_laws_19 (X : CX) (w0 : Wd) (k19 : Nat × Int32 × Int32 × Int32 × Int32 → Wd → Option (Int32 × Wd)) (hk19 : ∀ (v : Nat × Int32 × Int32 × Int32 × Int32) (w : Wd), WPe rtI X (mX5_laws, 7, 0, 0, w0) 0 0 (k19 v w) 19 [(0, vR v.1), (1, vI v.2.1), (2, vI v.2.2.1), (4, vI v.2.2.2.1), (5, vI v.2.2.2.2)] [] w) (v : Nat × Int32 × Int32 × Int32 × Int32) (w : Wd) : WPe rtI X (mX5_laws, 7, 0, 0, w0) 0 0 (b5_laws_19 k19 v w) 19 [(0, vR v.1), (1, vI v.2.1), (2, vI v.2.2.1), (4, vI v.2.2.2.1), (5, vI v.2.2.2.2)] [] w := by
  unfold b5_laws_19
  refine WPe_iload (pc := 19) 4 (dd dtX5_laws 13 rfl) rfl ?_
  refine WPe_aload_n (pc := 21) 0 (dd dtX5_laws 14 rfl) rfl ?_
  refine WPe_ck fun h6 => ?_
  refine WPe_getI (pc := 22) (t := 5) (C := RX5) (T := TX5) 2 (dd dtX5_laws 15 rfl) (shE h6) rfl (Nat.le_of_ble_eq_true rfl) rfl (bw_mem2 122 rfl rfl) ?_
  refine WPe_icmp_ge (pc := 25) 71 (dd dtX5_laws 16 rfl) (by decide) (fun h7 => ?_) (fun h7 => ?_)
  · refine WPe_iload (pc := 71) 3 (dd dtX5_laws 40 rfl) rfl ?_
    exact WPe_ireturn (pc := 73) (dd dtX5_laws 41 rfl) rfl rfl ⟨(Nat.le_of_ble_eq_true rfl), (Nat.le_of_ble_eq_true rfl)⟩
  · refine WPe_aload_n (pc := 28) 0 (dd dtX5_laws 17 rfl) rfl ?_
    refine WPe_callV (pc := 29) (rtc := rtV) (Mc := mX5_think) (d' := 3) (mc' := 0) (ms' := 0) [] [] rfl (dd dtX5_laws 18 rfl) (okf5_think v.1 w) moX5_think miX5_think (bw_mem3 53 rfl rfl) (Or.inl ⟨_, _, _, _, (shE h6), rfl⟩) rfl (Nat.le_of_ble_eq_true rfl) ⟨(Nat.le_of_ble_eq_true rfl), (Nat.le_of_ble_eq_true rfl)⟩ ⟨(Nat.le_of_ble_eq_true rfl), (Nat.le_of_ble_eq_true rfl)⟩ (fun z8 h9 e10 => ?_)
    refine WPe_st (st2 := []) rfl ?_
    refine WPe_aload_n (pc := 32) 0 (dd dtX5_laws 19 rfl) rfl ?_
    refine WPe_getR (pc := 33) (t := 5) (C := RX5) (T := TX5) 4 (dd dtX5_laws 20 rfl) (e10.at (shE h6) (by decide)) rfl (Nat.le_of_ble_eq_true rfl) rfl (bw_mem2 124 rfl rfl) ?_
    refine WPe_aload_n (pc := 36) 0 (dd dtX5_laws 21 rfl) rfl ?_
    refine WPe_getR (pc := 37) (t := 5) (C := RX5) (T := TX5) 1 (dd dtX5_laws 22 rfl) (e10.at (shE h6) (by decide)) rfl (Nat.le_of_ble_eq_true rfl) rfl (bw_mem2 121 rfl rfl) ?_
    refine WPe_iload (pc := 40) 4 (dd dtX5_laws 23 rfl) rfl ?_
    refine WPe_ck fun h11 => ?_
    refine WPe_aald (pc := 42) (dd dtX5_laws 24 rfl) (shE h11.1) ⟨(Nat.le_of_ble_eq_true rfl), (Nat.le_of_ble_eq_true rfl)⟩ h11.2 ?_
    refine WPe_ck fun h12 => ?_
    refine WPe_putR (pc := 43) (t := 1) (C := RX1) (T := TX1) 5 (dd dtX5_laws 25 rfl) (shE h12) rfl (Nat.le_of_ble_eq_true rfl) (bw_mem2 82 rfl rfl) (Or.inl rfl) rfl ?_
    refine WPe_lw fun w13 e14 => ?_
    refine WPe_aload_n (pc := 46) 0 (dd dtX5_laws 26 rfl) rfl ?_
    refine WPe_iload_n (pc := 47) 1 (dd dtX5_laws 27 rfl) rfl ?_
    refine WPe_iload_n (pc := 48) 2 (dd dtX5_laws 28 rfl) rfl ?_
    refine WPe_callV (pc := 49) (rtc := rtI) (Mc := mX5_firstOtherwise) (d' := 6) (mc' := 0) (ms' := 0) [vI v.2.1, vI v.2.2.1] [] rfl (dd dtX5_laws 29 rfl) (okf5_firstOtherwise v.1 v.2.1 v.2.2.1 w13) moX5_firstOtherwise miX5_firstOtherwise (bw_mem3 144 rfl rfl) (Or.inl ⟨_, _, _, _, (shR e14 (e10.at (shE h6) (by decide))), rfl⟩) rfl (Nat.le_of_ble_eq_true rfl) ⟨(Nat.le_of_ble_eq_true rfl), (Nat.le_of_ble_eq_true rfl)⟩ ⟨(Nat.le_of_ble_eq_true rfl), (Nat.le_of_ble_eq_true rfl)⟩ (fun z15 h16 e17 => ?_)
    refine WPe_st (st2 := [vI z15.1]) rfl ?_
    refine WPe_iconst (pc := 52) (-1 : Int32) (dd dtX5_laws 30 rfl) (by decide) ?_
    refine WPe_icmp_ne (pc := 53) 65 (dd dtX5_laws 31 rfl) (by decide) (fun h18 => ?_) (fun h18 => ?_)
    · refine WPe_iload (pc := 56) 3 (dd dtX5_laws 32 rfl) rfl ?_
      refine WPe_iconst (pc := 58) (1 : Int32) (dd dtX5_laws 33 rfl) (by decide) ?_
      refine WPe_iload (pc := 59) 4 (dd dtX5_laws 34 rfl) rfl ?_
      refine WPe_ishl (pc := 61) (dd dtX5_laws 35 rfl) ?_
      refine WPe_ior (pc := 62) (dd dtX5_laws 36 rfl) ?_
      refine WPe_istore (pc := 63) (ls' := [(4, vI (v.2.2.2.1 ||| ((1 : Int32) <<< (v.2.2.2.2 &&& 31)))), (0, vR v.1), (1, vI v.2.1), (2, vI v.2.2.1), (5, vI v.2.2.2.2)]) (dd dtX5_laws 37 rfl) (Nat.le_of_ble_eq_true rfl) rfl ?_
      refine WPe_sub [1, 2, 3, 0, 4] rfl ?_
      exact wpj5_laws_65 X w0 k19 hk19 v.1 v.2.1 v.2.2.1 (v.2.2.2.1 ||| ((1 : Int32) <<< (v.2.2.2.2 &&& 31))) v.2.2.2.2 z15.2
    · refine WPe_sub [0, 1, 2, 3, 4] rfl ?_
      exact wpj5_laws_65 X w0 k19 hk19 v.1 v.2.1 v.2.2.1 v.2.2.2.1 v.2.2.2.2 z15.2
theorem wplb5_laws_19 (X : CX) (w0 : Wd)  : ∀ (n9 : Nat) (v : Nat × Int32 × Int32 × Int32 × Int32) (w : Wd), WPe rtI X (mX5_laws, 7, 0, 0, w0) 0 0 (loopF (b5_laws_19 ) n9 v w) 19 [(0, vR v.1), (1, vI v.2.1), (2, vI v.2.2.1), (4, vI v.2.2.2.1), (5, vI v.2.2.2.2)] [] w :=
  WPe_loop (rt := rtI) (X := X) (M := (mX5_laws, 7, 0, 0, w0)) (fun v : Nat × Int32 × Int32 × Int32 × Int32 => [(0, vR v.1), (1, vI v.2.1), (2, vI v.2.2.1), (4, vI v.2.2.2.1), (5, vI v.2.2.2.2)]) (fun k hk v w => wpb5_laws_19 X w0  k hk v w)
noncomputable def f5_laws (x0 : Nat) (x1 : Int32) (x2 : Int32) (w : Wd) : Option (Int32 × Wd) :=
  ck (tg w x0 = 5) ((f5_toldRefusal x0 x1 x2 w).bind fun z2 => (if z2.1 = (0 : Int32) then (loopF (b5_laws_19) FU (x0, x1, x2, (0 : Int32), (0 : Int32)) z2.2) else (some (z2.1, z2.2))))
theorem wpf5_laws (X : CX) (w0 : Wd) (x0 : Nat) (x1 : Int32) (x2 : Int32) (w : Wd) : WPe rtI X (mX5_laws, 7, 0, 0, w0) 0 0 (f5_laws x0 x1 x2 w) 0 [(0, vR x0), (1, vI x1), (2, vI x2)] [] w := by
  unfold f5_laws
  refine WPe_aload_n (pc := 0) 0 (dd dtX5_laws 0 rfl) rfl ?_
  refine WPe_iload_n (pc := 1) 1 (dd dtX5_laws 1 rfl) rfl ?_
  refine WPe_iload_n (pc := 2) 2 (dd dtX5_laws 2 rfl) rfl ?_
  refine WPe_ck fun h1 => ?_
  refine WPe_callV (pc := 3) (rtc := rtI) (Mc := mX5_toldRefusal) (d' := 3) (mc' := 0) (ms' := 0) [vI x1, vI x2] [] rfl (dd dtX5_laws 3 rfl) (okf5_toldRefusal x0 x1 x2 w) moX5_toldRefusal miX5_toldRefusal (bw_mem3 129 rfl rfl) (Or.inl ⟨_, _, _, _, (shE h1), rfl⟩) rfl (Nat.le_of_ble_eq_true rfl) ⟨(Nat.le_of_ble_eq_true rfl), (Nat.le_of_ble_eq_true rfl)⟩ ⟨(Nat.le_of_ble_eq_true rfl), (Nat.le_of_ble_eq_true rfl)⟩ (fun z2 h3 e4 => ?_)
  refine WPe_st (st2 := [vI z2.1]) rfl ?_
  refine WPe_istore_n (pc := 6) (ls' := [(3, vI z2.1), (0, vR x0), (1, vI x1), (2, vI x2)]) (dd dtX5_laws 4 rfl) (Nat.le_of_ble_eq_true rfl) rfl ?_
  refine WPe_iload_n (pc := 7) 0 (dd dtX5_laws 5 rfl) rfl ?_
  refine WPe_if_eq (pc := 8) 13 (dd dtX5_laws 6 rfl) (by decide) (fun h5 => ?_) (fun h5 => ?_)
  · refine WPe_iconst (pc := 13) (0 : Int32) (dd dtX5_laws 9 rfl) (by decide) ?_
    refine WPe_istore (pc := 14) (ls' := [(4, vI (0 : Int32)), (3, vI z2.1), (0, vR x0), (1, vI x1), (2, vI x2)]) (dd dtX5_laws 10 rfl) (Nat.le_of_ble_eq_true rfl) rfl ?_
    refine WPe_iconst (pc := 16) (0 : Int32) (dd dtX5_laws 11 rfl) (by decide) ?_
    refine WPe_istore (pc := 17) (ls' := [(5, vI (0 : Int32)), (4, vI (0 : Int32)), (3, vI z2.1), (0, vR x0), (1, vI x1), (2, vI x2)]) (dd dtX5_laws 12 rfl) (Nat.le_of_ble_eq_true rfl) rfl ?_
    refine WPe_sub [3, 4, 5, 1, 0] rfl ?_
    exact wplb5_laws_19 X w0  FU _ _
  · refine WPe_iload_n (pc := 11) 0 (dd dtX5_laws 7 rfl) rfl ?_
    exact WPe_ireturn (pc := 12) (dd dtX5_laws 8 rfl) rfl rfl ⟨(Nat.le_of_ble_eq_true rfl), (Nat.le_of_ble_eq_true rfl)⟩
theorem okf5_laws (x0 : Nat) (x1 : Int32) (x2 : Int32) (w : Wd) : ∀ z, f5_laws x0 x1 x2 w = some z → OkM mX5_laws 7 0 0 [vR x0, vI x1, vI x2] w (rtI z.1) z.2 :=
  OkM.of (rt := rtI) moX5_laws (Nat.le_of_ble_eq_true rfl) (fun X => wpf5_laws X w x0 x1 x2 w)
def tbX5_film : List (Nat × Instr × Nat) := [(0, .iload_n 1, 1), (1, .invokestatic 209, 3), (4, .ifCond .ne 6, 3), (7, .bipush (-2), 2), (9, .ireturn, 1), (10, .aload_n 0, 1), (11, .getfield 48, 3), (14, .iload_n 2, 1), (15, .invokevirtual 115, 3), (18, .ifCond .ne 6, 3), (21, .bipush (-5), 2), (23, .ireturn, 1), (24, .iload_n 3, 1), (25, .iconst 0, 1), (26, .bipush 20, 2), (28, .invokestatic 111, 3), (31, .ifCond .ne 6, 3), (34, .bipush (-7), 2), (36, .ireturn, 1), (37, .aload_n 0, 1), (38, .getfield 60, 3), (41, .iload_n 1, 1), (42, .aaload, 1), (43, .astore 4, 2), (45, .aload 4, 2), (47, .iconst 1, 1), (48, .iload_n 3, 1), (49, .invokevirtual 212, 3), (52, .aload_n 0, 1), (53, .invokevirtual 172, 3), (56, .iconst 0, 1), (57, .istore 5, 2), (59, .iload 5, 2), (61, .iload_n 3, 1), (62, .if_icmp .ge 36, 3), (65, .aload_n 0, 1), (66, .getfield 52, 3), (69, .invokevirtual 169, 3), (72, .pop, 1), (73, .aload 4, 2), (75, .iload 5, 2), (77, .aload_n 0, 1), (78, .getfield 52, 3), (81, .getfield 118, 3), (84, .iload_n 2, 1), (85, .aaload, 1), (86, .getfield 138, 3), (89, .invokevirtual 216, 3), (92, .iinc 5 1, 3), (95, .goto (-36), 3), (98, .iload_n 3, 1), (99, .ireturn, 1)]
set_option maxRecDepth 20000 in
theorem dtX5_film : ∀ x ∈ tbX5_film, decode cX5_film x.1 = .ok x.2 := by decide +kernel
noncomputable def b5_film_59 (k59 : Nat × Int32 × Int32 × Nat × Int32 → Wd → Option (Int32 × Wd)) (v : Nat × Int32 × Int32 × Nat × Int32) (w : Wd) : Option (Int32 × Wd) :=
  if v.2.2.1 ≤ v.2.2.2.2 then (some (v.2.2.1, w)) else (ck (tg w v.1 = 5) (ck (tg w (wr w v.1 4) = 1) ((f1_passMinute (wr w v.1 4) w).bind fun z26 => (ck (tg z26.2 (wr z26.2 v.1 4) = 1) (ck (tg z26.2 (wr z26.2 (wr z26.2 v.1 4) 6) = 22 ∧ vp_in v.2.1 (ln z26.2 (wr z26.2 (wr z26.2 v.1 4) 6))) (ck (tg z26.2 (wr z26.2 (wr z26.2 (wr z26.2 v.1 4) 6) (v.2.1).toNatClampNeg) = 0) (ck (tg z26.2 v.2.2.2.1 = 2) ((f2_write v.2.2.2.1 v.2.2.2.2 (wi z26.2 (wr z26.2 (wr z26.2 (wr z26.2 v.1 4) 6) (v.2.1).toNatClampNeg) 3) z26.2).bind fun z33 => (k59 (v.1, v.2.1, v.2.2.1, v.2.2.2.1, (v.2.2.2.2 + (1 : Int32))) z33.2)))))))))
theorem wpb5_film_59 (X : CX) (w0 : Wd) (k59 : Nat × Int32 × Int32 × Nat × Int32 → Wd → Option (Int32 × Wd)) (hk59 : ∀ (v : Nat × Int32 × Int32 × Nat × Int32) (w : Wd), WPe rtI X (mX5_film, 6, 0, 0, w0) 0 0 (k59 v w) 59 [(0, vR v.1), (2, vI v.2.1), (3, vI v.2.2.1), (4, vR v.2.2.2.1), (5, vI v.2.2.2.2)] [] w) (v : Nat × Int32 × Int32 × Nat × Int32) (w : Wd) : WPe rtI X (mX5_film, 6, 0, 0, w0) 0 0 (b5_film_59 k59 v w) 59 [(0, vR v.1), (2, vI v.2.1), (3, vI v.2.2.1), (4, vR v.2.2.2.1), (5, vI v.2.2.2.2)] [] w := by
  unfold b5_film_59
  refine WPe_iload (pc := 59) 4 (dd dtX5_film 32 rfl) rfl ?_
  refine WPe_iload_n (pc := 61) 2 (dd dtX5_film 33 rfl) rfl ?_
  refine WPe_icmp_ge (pc := 62) 98 (dd dtX5_film 34 rfl) (by decide) (fun h23 => ?_) (fun h23 => ?_)
  · refine WPe_iload_n (pc := 98) 2 (dd dtX5_film 50 rfl) rfl ?_
    exact WPe_ireturn (pc := 99) (dd dtX5_film 51 rfl) rfl rfl ⟨(Nat.le_of_ble_eq_true rfl), (Nat.le_of_ble_eq_true rfl)⟩
  · refine WPe_aload_n (pc := 65) 0 (dd dtX5_film 35 rfl) rfl ?_
    refine WPe_ck fun h24 => ?_
    refine WPe_getR (pc := 66) (t := 5) (C := RX5) (T := TX5) 4 (dd dtX5_film 36 rfl) (shE h24) rfl (Nat.le_of_ble_eq_true rfl) rfl (bw_mem2 124 rfl rfl) ?_
    refine WPe_ck fun h25 => ?_
    refine WPe_callV (pc := 69) (rtc := rtI) (Mc := mX1_passMinute) (d' := 5) (mc' := 0) (ms' := 0) [] [] rfl (dd dtX5_film 37 rfl) (okf1_passMinute (wr w v.1 4) w) moX1_passMinute miX1_passMinute (bw_mem3 36 rfl rfl) (Or.inl ⟨_, _, _, _, (shE h25), rfl⟩) rfl (Nat.le_of_ble_eq_true rfl) ⟨(Nat.le_of_ble_eq_true rfl), (Nat.le_of_ble_eq_true rfl)⟩ ⟨(Nat.le_of_ble_eq_true rfl), (Nat.le_of_ble_eq_true rfl)⟩ (fun z26 h27 e28 => ?_)
    refine WPe_st (st2 := [vI z26.1]) rfl ?_
    refine WPe_pop (pc := 72) (dd dtX5_film 38 rfl) rfl ?_
    refine WPe_aload (pc := 73) 3 (dd dtX5_film 39 rfl) rfl ?_
    refine WPe_iload (pc := 75) 4 (dd dtX5_film 40 rfl) rfl ?_
    refine WPe_aload_n (pc := 77) 0 (dd dtX5_film 41 rfl) rfl ?_
    refine WPe_getR (pc := 78) (t := 5) (C := RX5) (T := TX5) 4 (dd dtX5_film 42 rfl) (e28.at (shE h24) (by decide)) rfl (Nat.le_of_ble_eq_true rfl) rfl (bw_mem2 124 rfl rfl) ?_
    refine WPe_ck fun h29 => ?_
    refine WPe_getR (pc := 81) (t := 1) (C := RX1) (T := TX1) 6 (dd dtX5_film 43 rfl) (shE h29) rfl (Nat.le_of_ble_eq_true rfl) rfl (bw_mem2 84 rfl rfl) ?_
    refine WPe_iload_n (pc := 84) 1 (dd dtX5_film 44 rfl) rfl ?_
    refine WPe_ck fun h30 => ?_
    refine WPe_aald (pc := 85) (dd dtX5_film 45 rfl) (shE h30.1) ⟨(Nat.le_of_ble_eq_true rfl), (Nat.le_of_ble_eq_true rfl)⟩ h30.2 ?_
    refine WPe_ck fun h31 => ?_
    refine WPe_getI (pc := 86) (t := 0) (C := RX0) (T := TX0) 3 (dd dtX5_film 46 rfl) (shE h31) rfl (Nat.le_of_ble_eq_true rfl) rfl (bw_mem2 53 rfl rfl) ?_
    refine WPe_ck fun h32 => ?_
    refine WPe_callV (pc := 89) (rtc := rtV) (Mc := mX2_write) (d' := 2) (mc' := 0) (ms' := 0) [vI v.2.2.2.2, vI (wi z26.2 (wr z26.2 (wr z26.2 (wr z26.2 v.1 4) 6) (v.2.1).toNatClampNeg) 3)] [] rfl (dd dtX5_film 47 rfl) (okf2_write v.2.2.2.1 v.2.2.2.2 (wi z26.2 (wr z26.2 (wr z26.2 (wr z26.2 v.1 4) 6) (v.2.1).toNatClampNeg) 3) z26.2) moX2_write miX2_write (bw_mem3 179 rfl rfl) (Or.inl ⟨_, _, _, _, (shE h32), rfl⟩) rfl (Nat.le_of_ble_eq_true rfl) ⟨(Nat.le_of_ble_eq_true rfl), (Nat.le_of_ble_eq_true rfl)⟩ ⟨(Nat.le_of_ble_eq_true rfl), (Nat.le_of_ble_eq_true rfl)⟩ (fun z33 h34 e35 => ?_)
    refine WPe_st (st2 := []) rfl ?_
    refine WPe_iinc (pc := 92) (ls' := [(5, vI (v.2.2.2.2 + (1 : Int32))), (0, vR v.1), (2, vI v.2.1), (3, vI v.2.2.1), (4, vR v.2.2.2.1)]) 4 (v.2.2.2.2 + (1 : Int32)) (dd dtX5_film 48 rfl) rfl (congrArg (HAdd.hAdd _) (by decide : Int32.ofInt (1) = (1 : Int32))) (Nat.le_of_ble_eq_true rfl) rfl ?_
    refine WPe_goto (pc := 95) 59 (dd dtX5_film 49 rfl) (by decide) ?_
    refine WPe_sub [1, 2, 3, 4, 0] rfl ?_
    exact hk59 (v.1, v.2.1, v.2.2.1, v.2.2.2.1, (v.2.2.2.2 + (1 : Int32))) z33.2
theorem wplb5_film_59 (X : CX) (w0 : Wd)  : ∀ (n9 : Nat) (v : Nat × Int32 × Int32 × Nat × Int32) (w : Wd), WPe rtI X (mX5_film, 6, 0, 0, w0) 0 0 (loopF (b5_film_59 ) n9 v w) 59 [(0, vR v.1), (2, vI v.2.1), (3, vI v.2.2.1), (4, vR v.2.2.2.1), (5, vI v.2.2.2.2)] [] w :=
  WPe_loop (rt := rtI) (X := X) (M := (mX5_film, 6, 0, 0, w0)) (fun v : Nat × Int32 × Int32 × Nat × Int32 => [(0, vR v.1), (2, vI v.2.1), (3, vI v.2.2.1), (4, vR v.2.2.2.1), (5, vI v.2.2.2.2)]) (fun k hk v w => wpb5_film_59 X w0  k hk v w)
noncomputable def f5_film (x0 : Nat) (x1 : Int32) (x2 : Int32) (x3 : Int32) (w : Wd) : Option (Int32 × Wd) :=
  (f5_isSheet x1 w).bind fun z1 => (if z1.1 = (0 : Int32) then (some ((-2 : Int32), z1.2)) else (ck (tg z1.2 x0 = 5) (ck (tg z1.2 (wr z1.2 x0 3) = 1) ((f1_has (wr z1.2 x0 3) x2 z1.2).bind fun z7 => (if z7.1 = (0 : Int32) then (some ((-5 : Int32), z7.2)) else ((f5_isWithin x3 (0 : Int32) (20 : Int32) z7.2).bind fun z11 => (if z11.1 = (0 : Int32) then (some ((-7 : Int32), z11.2)) else (ck (tg z11.2 (wr z11.2 x0 7) = 23 ∧ vp_in x1 (ln z11.2 (wr z11.2 x0 7))) (ck (tg z11.2 (wr z11.2 (wr z11.2 x0 7) (x1).toNatClampNeg) = 2) ((f2_becomeRow (wr z11.2 (wr z11.2 x0 7) (x1).toNatClampNeg) (1 : Int32) x3 z11.2).bind fun z17 => ((f5_think x0 z17.2).bind fun z20 => (loopF (b5_film_59) FU (x0, x2, x3, (wr z11.2 (wr z11.2 x0 7) (x1).toNatClampNeg), (0 : Int32)) z20.2))))))))))))
theorem wpf5_film (X : CX) (w0 : Wd) (x0 : Nat) (x1 : Int32) (x2 : Int32) (x3 : Int32) (w : Wd) : WPe rtI X (mX5_film, 6, 0, 0, w0) 0 0 (f5_film x0 x1 x2 x3 w) 0 [(0, vR x0), (1, vI x1), (2, vI x2), (3, vI x3)] [] w := by
  unfold f5_film
  refine WPe_iload_n (pc := 0) 1 (dd dtX5_film 0 rfl) rfl ?_
  refine WPe_callS (pc := 1) (rtc := rtI) (Mc := mX5_isSheet) (d' := 1) (mc' := 0) (ms' := 0) [vI x1] [] rfl (dd dtX5_film 1 rfl) (okf5_isSheet x1 w) moX5_isSheet msX5_isSheet (bw_mem3 137 rfl rfl) rfl (Nat.le_of_ble_eq_true rfl) ⟨(Nat.le_of_ble_eq_true rfl), (Nat.le_of_ble_eq_true rfl)⟩ ⟨(Nat.le_of_ble_eq_true rfl), (Nat.le_of_ble_eq_true rfl)⟩ (fun z1 h2 e3 => ?_)
  refine WPe_st (st2 := [vI z1.1]) rfl ?_
  refine WPe_if_ne (pc := 4) 10 (dd dtX5_film 2 rfl) (by decide) (fun h4 => ?_) (fun h4 => ?_)
  · refine WPe_bipush (pc := 7) (-2 : Int32) (dd dtX5_film 3 rfl) (by decide) ?_
    exact WPe_ireturn (pc := 9) (dd dtX5_film 4 rfl) rfl rfl ⟨(Nat.le_of_ble_eq_true rfl), (Nat.le_of_ble_eq_true rfl)⟩
  · refine WPe_aload_n (pc := 10) 0 (dd dtX5_film 5 rfl) rfl ?_
    refine WPe_ck fun h5 => ?_
    refine WPe_getR (pc := 11) (t := 5) (C := RX5) (T := TX5) 3 (dd dtX5_film 6 rfl) (shE h5) rfl (Nat.le_of_ble_eq_true rfl) rfl (bw_mem2 123 rfl rfl) ?_
    refine WPe_iload_n (pc := 14) 2 (dd dtX5_film 7 rfl) rfl ?_
    refine WPe_ck fun h6 => ?_
    refine WPe_callV (pc := 15) (rtc := rtI) (Mc := mX1_has) (d' := 1) (mc' := 0) (ms' := 0) [vI x2] [] rfl (dd dtX5_film 8 rfl) (okf1_has (wr z1.2 x0 3) x2 z1.2) moX1_has miX1_has (bw_mem2 193 rfl rfl) (Or.inl ⟨_, _, _, _, (shE h6), rfl⟩) rfl (Nat.le_of_ble_eq_true rfl) ⟨(Nat.le_of_ble_eq_true rfl), (Nat.le_of_ble_eq_true rfl)⟩ ⟨(Nat.le_of_ble_eq_true rfl), (Nat.le_of_ble_eq_true rfl)⟩ (fun z7 h8 e9 => ?_)
    refine WPe_st (st2 := [vI z7.1]) rfl ?_
    refine WPe_if_ne (pc := 18) 24 (dd dtX5_film 9 rfl) (by decide) (fun h10 => ?_) (fun h10 => ?_)
    · refine WPe_bipush (pc := 21) (-5 : Int32) (dd dtX5_film 10 rfl) (by decide) ?_
      exact WPe_ireturn (pc := 23) (dd dtX5_film 11 rfl) rfl rfl ⟨(Nat.le_of_ble_eq_true rfl), (Nat.le_of_ble_eq_true rfl)⟩
    · refine WPe_iload_n (pc := 24) 3 (dd dtX5_film 12 rfl) rfl ?_
      refine WPe_iconst (pc := 25) (0 : Int32) (dd dtX5_film 13 rfl) (by decide) ?_
      refine WPe_bipush (pc := 26) (20 : Int32) (dd dtX5_film 14 rfl) (by decide) ?_
      refine WPe_callS (pc := 28) (rtc := rtI) (Mc := mX5_isWithin) (d' := 1) (mc' := 0) (ms' := 0) [vI x3, vI (0 : Int32), vI (20 : Int32)] [] rfl (dd dtX5_film 15 rfl) (okf5_isWithin x3 (0 : Int32) (20 : Int32) z7.2) moX5_isWithin msX5_isWithin (bw_mem2 176 rfl rfl) rfl (Nat.le_of_ble_eq_true rfl) ⟨(Nat.le_of_ble_eq_true rfl), (Nat.le_of_ble_eq_true rfl)⟩ ⟨(Nat.le_of_ble_eq_true rfl), (Nat.le_of_ble_eq_true rfl)⟩ (fun z11 h12 e13 => ?_)
      refine WPe_st (st2 := [vI z11.1]) rfl ?_
      refine WPe_if_ne (pc := 31) 37 (dd dtX5_film 16 rfl) (by decide) (fun h14 => ?_) (fun h14 => ?_)
      · refine WPe_bipush (pc := 34) (-7 : Int32) (dd dtX5_film 17 rfl) (by decide) ?_
        exact WPe_ireturn (pc := 36) (dd dtX5_film 18 rfl) rfl rfl ⟨(Nat.le_of_ble_eq_true rfl), (Nat.le_of_ble_eq_true rfl)⟩
      · refine WPe_aload_n (pc := 37) 0 (dd dtX5_film 19 rfl) rfl ?_
        refine WPe_getR (pc := 38) (t := 5) (C := RX5) (T := TX5) 7 (dd dtX5_film 20 rfl) (e13.at (e9.at (shE h5) (by decide)) (by decide)) rfl (Nat.le_of_ble_eq_true rfl) rfl (bw_mem2 127 rfl rfl) ?_
        refine WPe_iload_n (pc := 41) 1 (dd dtX5_film 21 rfl) rfl ?_
        refine WPe_ck fun h15 => ?_
        refine WPe_aald (pc := 42) (dd dtX5_film 22 rfl) (shE h15.1) ⟨(Nat.le_of_ble_eq_true rfl), (Nat.le_of_ble_eq_true rfl)⟩ h15.2 ?_
        refine WPe_astore (pc := 43) (ls' := [(4, vR (wr z11.2 (wr z11.2 x0 7) (x1).toNatClampNeg)), (0, vR x0), (1, vI x1), (2, vI x2), (3, vI x3)]) (dd dtX5_film 23 rfl) (Nat.le_of_ble_eq_true rfl) rfl ?_
        refine WPe_aload (pc := 45) 0 (dd dtX5_film 24 rfl) rfl ?_
        refine WPe_iconst (pc := 47) (1 : Int32) (dd dtX5_film 25 rfl) (by decide) ?_
        refine WPe_iload_n (pc := 48) 4 (dd dtX5_film 26 rfl) rfl ?_
        refine WPe_ck fun h16 => ?_
        refine WPe_callV (pc := 49) (rtc := rtV) (Mc := mX2_becomeRow) (d' := 2) (mc' := 0) (ms' := 0) [vI (1 : Int32), vI x3] [] rfl (dd dtX5_film 27 rfl) (okf2_becomeRow (wr z11.2 (wr z11.2 x0 7) (x1).toNatClampNeg) (1 : Int32) x3 z11.2) moX2_becomeRow miX2_becomeRow (bw_mem3 172 rfl rfl) (Or.inl ⟨_, _, _, _, (shE h16), rfl⟩) rfl (Nat.le_of_ble_eq_true rfl) ⟨(Nat.le_of_ble_eq_true rfl), (Nat.le_of_ble_eq_true rfl)⟩ ⟨(Nat.le_of_ble_eq_true rfl), (Nat.le_of_ble_eq_true rfl)⟩ (fun z17 h18 e19 => ?_)
        refine WPe_st (st2 := []) rfl ?_
        refine WPe_aload_n (pc := 52) 1 (dd dtX5_film 28 rfl) rfl ?_
        refine WPe_callV (pc := 53) (rtc := rtV) (Mc := mX5_think) (d' := 3) (mc' := 0) (ms' := 0) [] [] rfl (dd dtX5_film 29 rfl) (okf5_think x0 z17.2) moX5_think miX5_think (bw_mem3 53 rfl rfl) (Or.inl ⟨_, _, _, _, (e19.at (e13.at (e9.at (shE h5) (by decide)) (by decide)) (by decide)), rfl⟩) rfl (Nat.le_of_ble_eq_true rfl) ⟨(Nat.le_of_ble_eq_true rfl), (Nat.le_of_ble_eq_true rfl)⟩ ⟨(Nat.le_of_ble_eq_true rfl), (Nat.le_of_ble_eq_true rfl)⟩ (fun z20 h21 e22 => ?_)
        refine WPe_st (st2 := []) rfl ?_
        refine WPe_iconst (pc := 56) (0 : Int32) (dd dtX5_film 30 rfl) (by decide) ?_
        refine WPe_istore (pc := 57) (ls' := [(5, vI (0 : Int32)), (4, vR (wr z11.2 (wr z11.2 x0 7) (x1).toNatClampNeg)), (0, vR x0), (1, vI x1), (2, vI x2), (3, vI x3)]) (dd dtX5_film 31 rfl) (Nat.le_of_ble_eq_true rfl) rfl ?_
        refine WPe_sub [2, 4, 5, 1, 0] rfl ?_
        exact wplb5_film_59 X w0  FU _ _
theorem okf5_film (x0 : Nat) (x1 : Int32) (x2 : Int32) (x3 : Int32) (w : Wd) : ∀ z, f5_film x0 x1 x2 x3 w = some z → OkM mX5_film 6 0 0 [vR x0, vI x1, vI x2, vI x3] w (rtI z.1) z.2 :=
  OkM.of (rt := rtI) moX5_film (Nat.le_of_ble_eq_true rfl) (fun X => wpf5_film X w x0 x1 x2 x3 w)
def tbX5_joyBySeed : List (Nat × Instr × Nat) := [(0, .aload_n 0, 1), (1, .invokevirtual 172, 3), (4, .iload_n 1, 1), (5, .iconst 1, 1), (6, .iadd, 1), (7, .i2l, 1), (8, .lstore_n 2, 1), (9, .iconst 0, 1), (10, .istore 4, 2), (12, .iload 4, 2), (14, .bipush 8, 2), (16, .if_icmp .ge 50, 3), (19, .lload_n 2, 1), (20, .ldc2_w 257, 3), (23, .lmul, 1), (24, .ldc2_w 259, 3), (27, .lrem, 1), (28, .lstore_n 2, 1), (29, .lload_n 2, 1), (30, .ldc2_w 261, 3), (33, .lrem, 1), (34, .l2i, 1), (35, .istore 5, 2), (37, .iload 5, 2), (39, .ifCond .le 13, 3), (42, .aload_n 0, 1), (43, .getfield 52, 3), (46, .iload 5, 2), (48, .invokevirtual 160, 3), (51, .pop, 1), (52, .aload_n 0, 1), (53, .getfield 52, 3), (56, .invokevirtual 169, 3), (59, .pop, 1), (60, .iinc 4 1, 3), (63, .goto (-51), 3), (66, .aload_n 0, 1), (67, .getfield 52, 3), (70, .invokevirtual 71, 3), (73, .ireturn, 1)]
set_option maxRecDepth 20000 in
theorem dtX5_joyBySeed : ∀ x ∈ tbX5_joyBySeed, decode cX5_joyBySeed x.1 = .ok x.2 := by decide +kernel
noncomputable def j5_joyBySeed_52 (k12 : Nat × Int64 × Int32 → Wd → Option (Int32 × Wd)) (x0 : Nat) (x2 : Int64) (x4 : Int32) (w : Wd) : Option (Int32 × Wd) :=
  ck (tg w x0 = 5) (ck (tg w (wr w x0 4) = 1) ((f1_passMinute (wr w x0 4) w).bind fun z14 => (k12 (x0, x2, (x4 + (1 : Int32))) z14.2)))
theorem wpj5_joyBySeed_52 (X : CX) (w0 : Wd) (k12 : Nat × Int64 × Int32 → Wd → Option (Int32 × Wd)) (hk12 : ∀ (v : Nat × Int64 × Int32) (w : Wd), WPe rtI X (mX5_joyBySeed, 6, 0, 0, w0) 0 0 (k12 v w) 12 [(0, vR v.1), (2, vJ v.2.1), (4, vI v.2.2)] [] w) (x0 : Nat) (x2 : Int64) (x4 : Int32) (w : Wd) : WPe rtI X (mX5_joyBySeed, 6, 0, 0, w0) 0 0 (j5_joyBySeed_52 k12 x0 x2 x4 w) 52 [(0, vR x0), (2, vJ x2), (4, vI x4)] [] w := by
  unfold j5_joyBySeed_52
  refine WPe_aload_n (pc := 52) 0 (dd dtX5_joyBySeed 30 rfl) rfl ?_
  refine WPe_ck fun h12 => ?_
  refine WPe_getR (pc := 53) (t := 5) (C := RX5) (T := TX5) 4 (dd dtX5_joyBySeed 31 rfl) (shE h12) rfl (Nat.le_of_ble_eq_true rfl) rfl (bw_mem2 124 rfl rfl) ?_
  refine WPe_ck fun h13 => ?_
  refine WPe_callV (pc := 56) (rtc := rtI) (Mc := mX1_passMinute) (d' := 5) (mc' := 0) (ms' := 0) [] [] rfl (dd dtX5_joyBySeed 32 rfl) (okf1_passMinute (wr w x0 4) w) moX1_passMinute miX1_passMinute (bw_mem3 36 rfl rfl) (Or.inl ⟨_, _, _, _, (shE h13), rfl⟩) rfl (Nat.le_of_ble_eq_true rfl) ⟨(Nat.le_of_ble_eq_true rfl), (Nat.le_of_ble_eq_true rfl)⟩ ⟨(Nat.le_of_ble_eq_true rfl), (Nat.le_of_ble_eq_true rfl)⟩ (fun z14 h15 e16 => ?_)
  refine WPe_st (st2 := [vI z14.1]) rfl ?_
  refine WPe_pop (pc := 59) (dd dtX5_joyBySeed 33 rfl) rfl ?_
  refine WPe_iinc (pc := 60) (ls' := [(4, vI (x4 + (1 : Int32))), (0, vR x0), (2, vJ x2)]) 2 (x4 + (1 : Int32)) (dd dtX5_joyBySeed 34 rfl) rfl (congrArg (HAdd.hAdd _) (by decide : Int32.ofInt (1) = (1 : Int32))) (Nat.le_of_ble_eq_true rfl) rfl ?_
  refine WPe_goto (pc := 63) 12 (dd dtX5_joyBySeed 35 rfl) (by decide) ?_
  refine WPe_sub [1, 2, 0] rfl ?_
  exact hk12 (x0, x2, (x4 + (1 : Int32))) z14.2
noncomputable def b5_joyBySeed_12 (k12 : Nat × Int64 × Int32 → Wd → Option (Int32 × Wd)) (v : Nat × Int64 × Int32) (w : Wd) : Option (Int32 × Wd) :=
  if (8 : Int32) ≤ v.2.2 then (ck (tg w v.1 = 5) (ck (tg w (wr w v.1 4) = 1) ((f1_joyOfAll (wr w v.1 4) w).bind fun z8 => (some (z8.1, z8.2))))) else (if (((((v.2.1 * (48271 : Int64)) - (v.2.1 * (48271 : Int64)) / (2147483647 : Int64) * (2147483647 : Int64)) - ((v.2.1 * (48271 : Int64)) - (v.2.1 * (48271 : Int64)) / (2147483647 : Int64) * (2147483647 : Int64)) / (4 : Int64) * (4 : Int64))).toInt32) ≤ (0 : Int32) then (j5_joyBySeed_52 k12 v.1 ((v.2.1 * (48271 : Int64)) - (v.2.1 * (48271 : Int64)) / (2147483647 : Int64) * (2147483647 : Int64)) v.2.2 w) else (ck (tg w v.1 = 5) (ck (tg w (wr w v.1 4) = 1) ((f1_pourLadles (wr w v.1 4) (((((v.2.1 * (48271 : Int64)) - (v.2.1 * (48271 : Int64)) / (2147483647 : Int64) * (2147483647 : Int64)) - ((v.2.1 * (48271 : Int64)) - (v.2.1 * (48271 : Int64)) / (2147483647 : Int64) * (2147483647 : Int64)) / (4 : Int64) * (4 : Int64))).toInt32) w).bind fun z19 => (j5_joyBySeed_52 k12 v.1 ((v.2.1 * (48271 : Int64)) - (v.2.1 * (48271 : Int64)) / (2147483647 : Int64) * (2147483647 : Int64)) v.2.2 z19.2)))))
theorem wpb5_joyBySeed_12 (X : CX) (w0 : Wd) (k12 : Nat × Int64 × Int32 → Wd → Option (Int32 × Wd)) (hk12 : ∀ (v : Nat × Int64 × Int32) (w : Wd), WPe rtI X (mX5_joyBySeed, 6, 0, 0, w0) 0 0 (k12 v w) 12 [(0, vR v.1), (2, vJ v.2.1), (4, vI v.2.2)] [] w) (v : Nat × Int64 × Int32) (w : Wd) : WPe rtI X (mX5_joyBySeed, 6, 0, 0, w0) 0 0 (b5_joyBySeed_12 k12 v w) 12 [(0, vR v.1), (2, vJ v.2.1), (4, vI v.2.2)] [] w := by
  unfold b5_joyBySeed_12
  refine WPe_iload (pc := 12) 2 (dd dtX5_joyBySeed 9 rfl) rfl ?_
  refine WPe_bipush (pc := 14) (8 : Int32) (dd dtX5_joyBySeed 10 rfl) (by decide) ?_
  refine WPe_icmp_ge (pc := 16) 66 (dd dtX5_joyBySeed 11 rfl) (by decide) (fun h5 => ?_) (fun h5 => ?_)
  · refine WPe_aload_n (pc := 66) 0 (dd dtX5_joyBySeed 36 rfl) rfl ?_
    refine WPe_ck fun h6 => ?_
    refine WPe_getR (pc := 67) (t := 5) (C := RX5) (T := TX5) 4 (dd dtX5_joyBySeed 37 rfl) (shE h6) rfl (Nat.le_of_ble_eq_true rfl) rfl (bw_mem2 124 rfl rfl) ?_
    refine WPe_ck fun h7 => ?_
    refine WPe_callV (pc := 70) (rtc := rtI) (Mc := mX1_joyOfAll) (d' := 1) (mc' := 0) (ms' := 0) [] [] rfl (dd dtX5_joyBySeed 38 rfl) (okf1_joyOfAll (wr w v.1 4) w) moX1_joyOfAll miX1_joyOfAll (bw_mem2 153 rfl rfl) (Or.inl ⟨_, _, _, _, (shE h7), rfl⟩) rfl (Nat.le_of_ble_eq_true rfl) ⟨(Nat.le_of_ble_eq_true rfl), (Nat.le_of_ble_eq_true rfl)⟩ ⟨(Nat.le_of_ble_eq_true rfl), (Nat.le_of_ble_eq_true rfl)⟩ (fun z8 h9 e10 => ?_)
    refine WPe_st (st2 := [vI z8.1]) rfl ?_
    exact WPe_ireturn (pc := 73) (dd dtX5_joyBySeed 39 rfl) rfl rfl ⟨(Nat.le_of_ble_eq_true rfl), (Nat.le_of_ble_eq_true rfl)⟩
  · refine WPe_lload_n (pc := 19) 1 (dd dtX5_joyBySeed 12 rfl) rfl ?_
    refine WPe_ldc2 (pc := 20) (v := (48271 : Int64)) (dd dtX5_joyBySeed 13 rfl) (bw_mem3 196 rfl rfl) ?_
    refine WPe_lmul (pc := 23) (dd dtX5_joyBySeed 14 rfl) ?_
    refine WPe_ldc2 (pc := 24) (v := (2147483647 : Int64)) (dd dtX5_joyBySeed 15 rfl) (bw_mem3 197 rfl rfl) ?_
    refine WPe_lrem (pc := 27) (dd dtX5_joyBySeed 16 rfl) (by decide) ?_
    refine WPe_lstore_n (pc := 28) (ls' := [(2, vJ ((v.2.1 * (48271 : Int64)) - (v.2.1 * (48271 : Int64)) / (2147483647 : Int64) * (2147483647 : Int64))), (0, vR v.1), (4, vI v.2.2)]) (dd dtX5_joyBySeed 17 rfl) (Nat.le_of_ble_eq_true rfl) rfl ?_
    refine WPe_lload_n (pc := 29) 0 (dd dtX5_joyBySeed 18 rfl) rfl ?_
    refine WPe_ldc2 (pc := 30) (v := (4 : Int64)) (dd dtX5_joyBySeed 19 rfl) (bw_mem3 198 rfl rfl) ?_
    refine WPe_lrem (pc := 33) (dd dtX5_joyBySeed 20 rfl) (by decide) ?_
    refine WPe_l2i (pc := 34) (dd dtX5_joyBySeed 21 rfl) ?_
    refine WPe_istore (pc := 35) (ls' := [(5, vI (((((v.2.1 * (48271 : Int64)) - (v.2.1 * (48271 : Int64)) / (2147483647 : Int64) * (2147483647 : Int64)) - ((v.2.1 * (48271 : Int64)) - (v.2.1 * (48271 : Int64)) / (2147483647 : Int64) * (2147483647 : Int64)) / (4 : Int64) * (4 : Int64))).toInt32)), (2, vJ ((v.2.1 * (48271 : Int64)) - (v.2.1 * (48271 : Int64)) / (2147483647 : Int64) * (2147483647 : Int64))), (0, vR v.1), (4, vI v.2.2)]) (dd dtX5_joyBySeed 22 rfl) (Nat.le_of_ble_eq_true rfl) rfl ?_
    refine WPe_iload (pc := 37) 0 (dd dtX5_joyBySeed 23 rfl) rfl ?_
    refine WPe_if_le (pc := 39) 52 (dd dtX5_joyBySeed 24 rfl) (by decide) (fun h11 => ?_) (fun h11 => ?_)
    · refine WPe_sub [2, 1, 3] rfl ?_
      exact wpj5_joyBySeed_52 X w0 k12 hk12 v.1 ((v.2.1 * (48271 : Int64)) - (v.2.1 * (48271 : Int64)) / (2147483647 : Int64) * (2147483647 : Int64)) v.2.2 w
    · refine WPe_aload_n (pc := 42) 2 (dd dtX5_joyBySeed 25 rfl) rfl ?_
      refine WPe_ck fun h17 => ?_
      refine WPe_getR (pc := 43) (t := 5) (C := RX5) (T := TX5) 4 (dd dtX5_joyBySeed 26 rfl) (shE h17) rfl (Nat.le_of_ble_eq_true rfl) rfl (bw_mem2 124 rfl rfl) ?_
      refine WPe_iload (pc := 46) 0 (dd dtX5_joyBySeed 27 rfl) rfl ?_
      refine WPe_ck fun h18 => ?_
      refine WPe_callV (pc := 48) (rtc := rtI) (Mc := mX1_pourLadles) (d' := 1) (mc' := 0) (ms' := 0) [vI (((((v.2.1 * (48271 : Int64)) - (v.2.1 * (48271 : Int64)) / (2147483647 : Int64) * (2147483647 : Int64)) - ((v.2.1 * (48271 : Int64)) - (v.2.1 * (48271 : Int64)) / (2147483647 : Int64) * (2147483647 : Int64)) / (4 : Int64) * (4 : Int64))).toInt32)] [] rfl (dd dtX5_joyBySeed 28 rfl) (okf1_pourLadles (wr w v.1 4) (((((v.2.1 * (48271 : Int64)) - (v.2.1 * (48271 : Int64)) / (2147483647 : Int64) * (2147483647 : Int64)) - ((v.2.1 * (48271 : Int64)) - (v.2.1 * (48271 : Int64)) / (2147483647 : Int64) * (2147483647 : Int64)) / (4 : Int64) * (4 : Int64))).toInt32) w) moX1_pourLadles miX1_pourLadles (bw_mem3 10 rfl rfl) (Or.inl ⟨_, _, _, _, (shE h18), rfl⟩) rfl (Nat.le_of_ble_eq_true rfl) ⟨(Nat.le_of_ble_eq_true rfl), (Nat.le_of_ble_eq_true rfl)⟩ ⟨(Nat.le_of_ble_eq_true rfl), (Nat.le_of_ble_eq_true rfl)⟩ (fun z19 h20 e21 => ?_)
      refine WPe_st (st2 := [vI z19.1]) rfl ?_
      refine WPe_pop (pc := 51) (dd dtX5_joyBySeed 29 rfl) rfl ?_
      refine WPe_sub [2, 1, 3] rfl ?_
      exact wpj5_joyBySeed_52 X w0 k12 hk12 v.1 ((v.2.1 * (48271 : Int64)) - (v.2.1 * (48271 : Int64)) / (2147483647 : Int64) * (2147483647 : Int64)) v.2.2 z19.2
theorem wplb5_joyBySeed_12 (X : CX) (w0 : Wd)  : ∀ (n9 : Nat) (v : Nat × Int64 × Int32) (w : Wd), WPe rtI X (mX5_joyBySeed, 6, 0, 0, w0) 0 0 (loopF (b5_joyBySeed_12 ) n9 v w) 12 [(0, vR v.1), (2, vJ v.2.1), (4, vI v.2.2)] [] w :=
  WPe_loop (rt := rtI) (X := X) (M := (mX5_joyBySeed, 6, 0, 0, w0)) (fun v : Nat × Int64 × Int32 => [(0, vR v.1), (2, vJ v.2.1), (4, vI v.2.2)]) (fun k hk v w => wpb5_joyBySeed_12 X w0  k hk v w)
noncomputable def f5_joyBySeed (x0 : Nat) (x1 : Int32) (w : Wd) : Option (Int32 × Wd) :=
  ck (tg w x0 = 5) ((f5_think x0 w).bind fun z2 => (loopF (b5_joyBySeed_12) FU (x0, (((x1 + (1 : Int32))).toInt64), (0 : Int32)) z2.2))
theorem wpf5_joyBySeed (X : CX) (w0 : Wd) (x0 : Nat) (x1 : Int32) (w : Wd) : WPe rtI X (mX5_joyBySeed, 6, 0, 0, w0) 0 0 (f5_joyBySeed x0 x1 w) 0 [(0, vR x0), (1, vI x1)] [] w := by
  unfold f5_joyBySeed
  refine WPe_aload_n (pc := 0) 0 (dd dtX5_joyBySeed 0 rfl) rfl ?_
  refine WPe_ck fun h1 => ?_
  refine WPe_callV (pc := 1) (rtc := rtV) (Mc := mX5_think) (d' := 3) (mc' := 0) (ms' := 0) [] [] rfl (dd dtX5_joyBySeed 1 rfl) (okf5_think x0 w) moX5_think miX5_think (bw_mem3 53 rfl rfl) (Or.inl ⟨_, _, _, _, (shE h1), rfl⟩) rfl (Nat.le_of_ble_eq_true rfl) ⟨(Nat.le_of_ble_eq_true rfl), (Nat.le_of_ble_eq_true rfl)⟩ ⟨(Nat.le_of_ble_eq_true rfl), (Nat.le_of_ble_eq_true rfl)⟩ (fun z2 h3 e4 => ?_)
  refine WPe_st (st2 := []) rfl ?_
  refine WPe_iload_n (pc := 4) 1 (dd dtX5_joyBySeed 2 rfl) rfl ?_
  refine WPe_iconst (pc := 5) (1 : Int32) (dd dtX5_joyBySeed 3 rfl) (by decide) ?_
  refine WPe_iadd (pc := 6) (dd dtX5_joyBySeed 4 rfl) ?_
  refine WPe_i2l (pc := 7) (dd dtX5_joyBySeed 5 rfl) ?_
  refine WPe_lstore_n (pc := 8) (ls' := [(2, vJ (((x1 + (1 : Int32))).toInt64)), (0, vR x0), (1, vI x1)]) (dd dtX5_joyBySeed 6 rfl) (Nat.le_of_ble_eq_true rfl) rfl ?_
  refine WPe_iconst (pc := 9) (0 : Int32) (dd dtX5_joyBySeed 7 rfl) (by decide) ?_
  refine WPe_istore (pc := 10) (ls' := [(4, vI (0 : Int32)), (2, vJ (((x1 + (1 : Int32))).toInt64)), (0, vR x0), (1, vI x1)]) (dd dtX5_joyBySeed 8 rfl) (Nat.le_of_ble_eq_true rfl) rfl ?_
  refine WPe_sub [2, 1, 0] rfl ?_
  exact wplb5_joyBySeed_12 X w0  FU _ _
theorem okf5_joyBySeed (x0 : Nat) (x1 : Int32) (w : Wd) : ∀ z, f5_joyBySeed x0 x1 w = some z → OkM mX5_joyBySeed 6 0 0 [vR x0, vI x1] w (rtI z.1) z.2 :=
  OkM.of (rt := rtI) moX5_joyBySeed (Nat.le_of_ble_eq_true rfl) (fun X => wpf5_joyBySeed X w x0 x1 w)
def tbX5_drawn : List (Nat × Instr × Nat) := [(0, .iload_n 1, 1), (1, .iconst 0, 1), (2, .ldc 219, 2), (4, .invokestatic 111, 3), (7, .ifCond .eq 12, 3), (10, .iload_n 2, 1), (11, .iconst 0, 1), (12, .iconst 1, 1), (13, .invokestatic 111, 3), (16, .ifCond .ne 6, 3), (19, .bipush (-2), 2), (21, .ireturn, 1), (22, .aload_n 0, 1), (23, .iload_n 1, 1), (24, .invokevirtual 220, 3), (27, .istore_n 3, 1), (28, .iload_n 2, 1), (29, .ifCond .ne 7, 3), (32, .iload_n 3, 1), (33, .goto 10, 3), (36, .aload_n 0, 1), (37, .getfield 52, 3), (40, .invokevirtual 178, 3), (43, .ireturn, 1)]
set_option maxRecDepth 20000 in
theorem dtX5_drawn : ∀ x ∈ tbX5_drawn, decode cX5_drawn x.1 = .ok x.2 := by decide +kernel
noncomputable def f5_drawn (x0 : Nat) (x1 : Int32) (x2 : Int32) (w : Wd) : Option (Int32 × Wd) :=
  (f5_isWithin x1 (0 : Int32) (99999 : Int32) w).bind fun z1 => (if z1.1 = (0 : Int32) then (some ((-2 : Int32), z1.2)) else ((f5_isWithin x2 (0 : Int32) (1 : Int32) z1.2).bind fun z5 => (if z5.1 = (0 : Int32) then (some ((-2 : Int32), z5.2)) else (ck (tg z5.2 x0 = 5) ((f5_joyBySeed x0 x1 z5.2).bind fun z10 => (if x2 = (0 : Int32) then (some (z10.1, z10.2)) else (ck (tg z10.2 (wr z10.2 x0 4) = 1) ((f1_bitsIn (wr z10.2 x0 4) z10.2).bind fun z15 => (some (z15.1, z15.2))))))))))
theorem wpf5_drawn (X : CX) (w0 : Wd) (x0 : Nat) (x1 : Int32) (x2 : Int32) (w : Wd) : WPe rtI X (mX5_drawn, 7, 0, 0, w0) 0 0 (f5_drawn x0 x1 x2 w) 0 [(0, vR x0), (1, vI x1), (2, vI x2)] [] w := by
  unfold f5_drawn
  refine WPe_iload_n (pc := 0) 1 (dd dtX5_drawn 0 rfl) rfl ?_
  refine WPe_iconst (pc := 1) (0 : Int32) (dd dtX5_drawn 1 rfl) (by decide) ?_
  refine WPe_ldc (pc := 2) (v := (99999 : Int32)) (dd dtX5_drawn 2 rfl) (bw_mem3 191 rfl rfl) ?_
  refine WPe_callS (pc := 4) (rtc := rtI) (Mc := mX5_isWithin) (d' := 1) (mc' := 0) (ms' := 0) [vI x1, vI (0 : Int32), vI (99999 : Int32)] [] rfl (dd dtX5_drawn 3 rfl) (okf5_isWithin x1 (0 : Int32) (99999 : Int32) w) moX5_isWithin msX5_isWithin (bw_mem2 176 rfl rfl) rfl (Nat.le_of_ble_eq_true rfl) ⟨(Nat.le_of_ble_eq_true rfl), (Nat.le_of_ble_eq_true rfl)⟩ ⟨(Nat.le_of_ble_eq_true rfl), (Nat.le_of_ble_eq_true rfl)⟩ (fun z1 h2 e3 => ?_)
  refine WPe_st (st2 := [vI z1.1]) rfl ?_
  refine WPe_if_eq (pc := 7) 19 (dd dtX5_drawn 4 rfl) (by decide) (fun h4 => ?_) (fun h4 => ?_)
  · refine WPe_bipush (pc := 19) (-2 : Int32) (dd dtX5_drawn 10 rfl) (by decide) ?_
    exact WPe_ireturn (pc := 21) (dd dtX5_drawn 11 rfl) rfl rfl ⟨(Nat.le_of_ble_eq_true rfl), (Nat.le_of_ble_eq_true rfl)⟩
  · refine WPe_iload_n (pc := 10) 2 (dd dtX5_drawn 5 rfl) rfl ?_
    refine WPe_iconst (pc := 11) (0 : Int32) (dd dtX5_drawn 6 rfl) (by decide) ?_
    refine WPe_iconst (pc := 12) (1 : Int32) (dd dtX5_drawn 7 rfl) (by decide) ?_
    refine WPe_callS (pc := 13) (rtc := rtI) (Mc := mX5_isWithin) (d' := 1) (mc' := 0) (ms' := 0) [vI x2, vI (0 : Int32), vI (1 : Int32)] [] rfl (dd dtX5_drawn 8 rfl) (okf5_isWithin x2 (0 : Int32) (1 : Int32) z1.2) moX5_isWithin msX5_isWithin (bw_mem2 176 rfl rfl) rfl (Nat.le_of_ble_eq_true rfl) ⟨(Nat.le_of_ble_eq_true rfl), (Nat.le_of_ble_eq_true rfl)⟩ ⟨(Nat.le_of_ble_eq_true rfl), (Nat.le_of_ble_eq_true rfl)⟩ (fun z5 h6 e7 => ?_)
    refine WPe_st (st2 := [vI z5.1]) rfl ?_
    refine WPe_if_ne (pc := 16) 22 (dd dtX5_drawn 9 rfl) (by decide) (fun h8 => ?_) (fun h8 => ?_)
    · refine WPe_bipush (pc := 19) (-2 : Int32) (dd dtX5_drawn 10 rfl) (by decide) ?_
      exact WPe_ireturn (pc := 21) (dd dtX5_drawn 11 rfl) rfl rfl ⟨(Nat.le_of_ble_eq_true rfl), (Nat.le_of_ble_eq_true rfl)⟩
    · refine WPe_aload_n (pc := 22) 0 (dd dtX5_drawn 12 rfl) rfl ?_
      refine WPe_iload_n (pc := 23) 1 (dd dtX5_drawn 13 rfl) rfl ?_
      refine WPe_ck fun h9 => ?_
      refine WPe_callV (pc := 24) (rtc := rtI) (Mc := mX5_joyBySeed) (d' := 6) (mc' := 0) (ms' := 0) [vI x1] [] rfl (dd dtX5_drawn 14 rfl) (okf5_joyBySeed x0 x1 z5.2) moX5_joyBySeed miX5_joyBySeed (bw_mem3 192 rfl rfl) (Or.inl ⟨_, _, _, _, (shE h9), rfl⟩) rfl (Nat.le_of_ble_eq_true rfl) ⟨(Nat.le_of_ble_eq_true rfl), (Nat.le_of_ble_eq_true rfl)⟩ ⟨(Nat.le_of_ble_eq_true rfl), (Nat.le_of_ble_eq_true rfl)⟩ (fun z10 h11 e12 => ?_)
      refine WPe_st (st2 := [vI z10.1]) rfl ?_
      refine WPe_istore_n (pc := 27) (ls' := [(3, vI z10.1), (0, vR x0), (1, vI x1), (2, vI x2)]) (dd dtX5_drawn 15 rfl) (Nat.le_of_ble_eq_true rfl) rfl ?_
      refine WPe_iload_n (pc := 28) 3 (dd dtX5_drawn 16 rfl) rfl ?_
      refine WPe_if_ne (pc := 29) 36 (dd dtX5_drawn 17 rfl) (by decide) (fun h13 => ?_) (fun h13 => ?_)
      · refine WPe_iload_n (pc := 32) 0 (dd dtX5_drawn 18 rfl) rfl ?_
        refine WPe_goto (pc := 33) 43 (dd dtX5_drawn 19 rfl) (by decide) ?_
        exact WPe_ireturn (pc := 43) (dd dtX5_drawn 23 rfl) rfl rfl ⟨(Nat.le_of_ble_eq_true rfl), (Nat.le_of_ble_eq_true rfl)⟩
      · refine WPe_aload_n (pc := 36) 1 (dd dtX5_drawn 20 rfl) rfl ?_
        refine WPe_getR (pc := 37) (t := 5) (C := RX5) (T := TX5) 4 (dd dtX5_drawn 21 rfl) (e12.at (shE h9) (by decide)) rfl (Nat.le_of_ble_eq_true rfl) rfl (bw_mem2 124 rfl rfl) ?_
        refine WPe_ck fun h14 => ?_
        refine WPe_callV (pc := 40) (rtc := rtI) (Mc := mX1_bitsIn) (d' := 1) (mc' := 0) (ms' := 0) [] [] rfl (dd dtX5_drawn 22 rfl) (okf1_bitsIn (wr z10.2 x0 4) z10.2) moX1_bitsIn miX1_bitsIn (bw_mem3 69 rfl rfl) (Or.inl ⟨_, _, _, _, (shE h14), rfl⟩) rfl (Nat.le_of_ble_eq_true rfl) ⟨(Nat.le_of_ble_eq_true rfl), (Nat.le_of_ble_eq_true rfl)⟩ ⟨(Nat.le_of_ble_eq_true rfl), (Nat.le_of_ble_eq_true rfl)⟩ (fun z15 h16 e17 => ?_)
        refine WPe_st (st2 := [vI z15.1]) rfl ?_
        exact WPe_ireturn (pc := 43) (dd dtX5_drawn 23 rfl) rfl rfl ⟨(Nat.le_of_ble_eq_true rfl), (Nat.le_of_ble_eq_true rfl)⟩
theorem okf5_drawn (x0 : Nat) (x1 : Int32) (x2 : Int32) (w : Wd) : ∀ z, f5_drawn x0 x1 x2 w = some z → OkM mX5_drawn 7 0 0 [vR x0, vI x1, vI x2] w (rtI z.1) z.2 :=
  OkM.of (rt := rtI) moX5_drawn (Nat.le_of_ble_eq_true rfl) (fun X => wpf5_drawn X w x0 x1 x2 w)
def tbX5_odds : List (Nat × Instr × Nat) := [(0, .iload_n 1, 1), (1, .iconst 0, 1), (2, .ldc 219, 2), (4, .invokestatic 111, 3), (7, .ifCond .eq 34, 3), (10, .iload_n 2, 1), (11, .iconst 1, 1), (12, .bipush 40, 2), (14, .invokestatic 111, 3), (17, .ifCond .eq 24, 3), (20, .iload_n 3, 1), (21, .iconst 0, 1), (22, .sipush 9999, 3), (25, .invokestatic 111, 3), (28, .ifCond .eq 13, 3), (31, .iload 4, 2), (33, .iconst 0, 1), (34, .iconst 1, 1), (35, .invokestatic 111, 3), (38, .ifCond .ne 7, 3), (41, .ldc2_w 194, 3), (44, .lreturn, 1), (45, .iconst 0, 1), (46, .istore 5, 2), (48, .iconst 0, 1), (49, .istore 6, 2), (51, .iload 6, 2), (53, .iload_n 2, 1), (54, .if_icmp .ge 24, 3), (57, .aload_n 0, 1), (58, .iload_n 1, 1), (59, .iload 6, 2), (61, .iadd, 1), (62, .invokevirtual 220, 3), (65, .iload_n 3, 1), (66, .if_icmp .lt 6, 3), (69, .iinc 5 1, 3), (72, .iinc 6 1, 3), (75, .goto (-24), 3), (78, .iload 5, 2), (80, .iload_n 2, 1), (81, .iload 4, 2), (83, .invokestatic 196, 3), (86, .lreturn, 1)]
set_option maxRecDepth 20000 in
theorem dtX5_odds : ∀ x ∈ tbX5_odds, decode cX5_odds x.1 = .ok x.2 := by decide +kernel
noncomputable def j5_odds_72 (k51 : Nat × Int32 × Int32 × Int32 × Int32 × Int32 × Int32 → Wd → Option (Int64 × Wd)) (x0 : Nat) (x1 : Int32) (x2 : Int32) (x3 : Int32) (x4 : Int32) (x5 : Int32) (x6 : Int32) (w : Wd) : Option (Int64 × Wd) :=
  k51 (x0, x1, x2, x3, x4, x5, (x6 + (1 : Int32))) w
theorem wpj5_odds_72 (X : CX) (w0 : Wd) (k51 : Nat × Int32 × Int32 × Int32 × Int32 × Int32 × Int32 → Wd → Option (Int64 × Wd)) (hk51 : ∀ (v : Nat × Int32 × Int32 × Int32 × Int32 × Int32 × Int32) (w : Wd), WPe rtJ X (mX5_odds, 7, 0, 0, w0) 0 0 (k51 v w) 51 [(0, vR v.1), (1, vI v.2.1), (2, vI v.2.2.1), (3, vI v.2.2.2.1), (4, vI v.2.2.2.2.1), (5, vI v.2.2.2.2.2.1), (6, vI v.2.2.2.2.2.2)] [] w) (x0 : Nat) (x1 : Int32) (x2 : Int32) (x3 : Int32) (x4 : Int32) (x5 : Int32) (x6 : Int32) (w : Wd) : WPe rtJ X (mX5_odds, 7, 0, 0, w0) 0 0 (j5_odds_72 k51 x0 x1 x2 x3 x4 x5 x6 w) 72 [(0, vR x0), (1, vI x1), (2, vI x2), (3, vI x3), (4, vI x4), (5, vI x5), (6, vI x6)] [] w := by
  unfold j5_odds_72
  refine WPe_iinc (pc := 72) (ls' := [(6, vI (x6 + (1 : Int32))), (0, vR x0), (1, vI x1), (2, vI x2), (3, vI x3), (4, vI x4), (5, vI x5)]) 6 (x6 + (1 : Int32)) (dd dtX5_odds 37 rfl) rfl (congrArg (HAdd.hAdd _) (by decide : Int32.ofInt (1) = (1 : Int32))) (Nat.le_of_ble_eq_true rfl) rfl ?_
  refine WPe_goto (pc := 75) 51 (dd dtX5_odds 38 rfl) (by decide) ?_
  refine WPe_sub [1, 2, 3, 4, 5, 6, 0] rfl ?_
  exact hk51 (x0, x1, x2, x3, x4, x5, (x6 + (1 : Int32))) w
noncomputable def b5_odds_51 (k51 : Nat × Int32 × Int32 × Int32 × Int32 × Int32 × Int32 → Wd → Option (Int64 × Wd)) (v : Nat × Int32 × Int32 × Int32 × Int32 × Int32 × Int32) (w : Wd) : Option (Int64 × Wd) :=
  if v.2.2.1 ≤ v.2.2.2.2.2.2 then ((f5_lowest v.2.2.2.2.2.1 v.2.2.1 v.2.2.2.2.1 w).bind fun z18 => (some (z18.1, z18.2))) else (ck (tg w v.1 = 5) ((f5_joyBySeed v.1 (v.2.1 + v.2.2.2.2.2.2) w).bind fun z22 => (if z22.1 < v.2.2.2.1 then (j5_odds_72 k51 v.1 v.2.1 v.2.2.1 v.2.2.2.1 v.2.2.2.2.1 v.2.2.2.2.2.1 v.2.2.2.2.2.2 z22.2) else (j5_odds_72 k51 v.1 v.2.1 v.2.2.1 v.2.2.2.1 v.2.2.2.2.1 (v.2.2.2.2.2.1 + (1 : Int32)) v.2.2.2.2.2.2 z22.2))))
theorem wpb5_odds_51 (X : CX) (w0 : Wd) (k51 : Nat × Int32 × Int32 × Int32 × Int32 × Int32 × Int32 → Wd → Option (Int64 × Wd)) (hk51 : ∀ (v : Nat × Int32 × Int32 × Int32 × Int32 × Int32 × Int32) (w : Wd), WPe rtJ X (mX5_odds, 7, 0, 0, w0) 0 0 (k51 v w) 51 [(0, vR v.1), (1, vI v.2.1), (2, vI v.2.2.1), (3, vI v.2.2.2.1), (4, vI v.2.2.2.2.1), (5, vI v.2.2.2.2.2.1), (6, vI v.2.2.2.2.2.2)] [] w) (v : Nat × Int32 × Int32 × Int32 × Int32 × Int32 × Int32) (w : Wd) : WPe rtJ X (mX5_odds, 7, 0, 0, w0) 0 0 (b5_odds_51 k51 v w) 51 [(0, vR v.1), (1, vI v.2.1), (2, vI v.2.2.1), (3, vI v.2.2.2.1), (4, vI v.2.2.2.2.1), (5, vI v.2.2.2.2.2.1), (6, vI v.2.2.2.2.2.2)] [] w := by
  unfold b5_odds_51
  refine WPe_iload (pc := 51) 6 (dd dtX5_odds 26 rfl) rfl ?_
  refine WPe_iload_n (pc := 53) 2 (dd dtX5_odds 27 rfl) rfl ?_
  refine WPe_icmp_ge (pc := 54) 78 (dd dtX5_odds 28 rfl) (by decide) (fun h17 => ?_) (fun h17 => ?_)
  · refine WPe_iload (pc := 78) 5 (dd dtX5_odds 39 rfl) rfl ?_
    refine WPe_iload_n (pc := 80) 2 (dd dtX5_odds 40 rfl) rfl ?_
    refine WPe_iload (pc := 81) 4 (dd dtX5_odds 41 rfl) rfl ?_
    refine WPe_callS (pc := 83) (rtc := rtJ) (Mc := mX5_lowest) (d' := 1) (mc' := 0) (ms' := 0) [vI v.2.2.2.2.2.1, vI v.2.2.1, vI v.2.2.2.2.1] [] rfl (dd dtX5_odds 42 rfl) (okf5_lowest v.2.2.2.2.2.1 v.2.2.1 v.2.2.2.2.1 w) moX5_lowest msX5_lowest (bw_mem3 122 rfl rfl) rfl (Nat.le_of_ble_eq_true rfl) ⟨(Nat.le_of_ble_eq_true rfl), (Nat.le_of_ble_eq_true rfl)⟩ ⟨(Nat.le_of_ble_eq_true rfl), (Nat.le_of_ble_eq_true rfl)⟩ (fun z18 h19 e20 => ?_)
    refine WPe_st (st2 := [vJ z18.1]) rfl ?_
    exact WPe_lreturn (pc := 86) (dd dtX5_odds 43 rfl) rfl rfl ⟨(Nat.le_of_ble_eq_true rfl), (Nat.le_of_ble_eq_true rfl)⟩
  · refine WPe_aload_n (pc := 57) 0 (dd dtX5_odds 29 rfl) rfl ?_
    refine WPe_iload_n (pc := 58) 1 (dd dtX5_odds 30 rfl) rfl ?_
    refine WPe_iload (pc := 59) 6 (dd dtX5_odds 31 rfl) rfl ?_
    refine WPe_iadd (pc := 61) (dd dtX5_odds 32 rfl) ?_
    refine WPe_ck fun h21 => ?_
    refine WPe_callV (pc := 62) (rtc := rtI) (Mc := mX5_joyBySeed) (d' := 6) (mc' := 0) (ms' := 0) [vI (v.2.1 + v.2.2.2.2.2.2)] [] rfl (dd dtX5_odds 33 rfl) (okf5_joyBySeed v.1 (v.2.1 + v.2.2.2.2.2.2) w) moX5_joyBySeed miX5_joyBySeed (bw_mem3 192 rfl rfl) (Or.inl ⟨_, _, _, _, (shE h21), rfl⟩) rfl (Nat.le_of_ble_eq_true rfl) ⟨(Nat.le_of_ble_eq_true rfl), (Nat.le_of_ble_eq_true rfl)⟩ ⟨(Nat.le_of_ble_eq_true rfl), (Nat.le_of_ble_eq_true rfl)⟩ (fun z22 h23 e24 => ?_)
    refine WPe_st (st2 := [vI z22.1]) rfl ?_
    refine WPe_iload_n (pc := 65) 3 (dd dtX5_odds 34 rfl) rfl ?_
    refine WPe_icmp_lt (pc := 66) 72 (dd dtX5_odds 35 rfl) (by decide) (fun h25 => ?_) (fun h25 => ?_)
    · refine WPe_sub [0, 1, 2, 3, 4, 5, 6] rfl ?_
      exact wpj5_odds_72 X w0 k51 hk51 v.1 v.2.1 v.2.2.1 v.2.2.2.1 v.2.2.2.2.1 v.2.2.2.2.2.1 v.2.2.2.2.2.2 z22.2
    · refine WPe_iinc (pc := 69) (ls' := [(5, vI (v.2.2.2.2.2.1 + (1 : Int32))), (0, vR v.1), (1, vI v.2.1), (2, vI v.2.2.1), (3, vI v.2.2.2.1), (4, vI v.2.2.2.2.1), (6, vI v.2.2.2.2.2.2)]) 5 (v.2.2.2.2.2.1 + (1 : Int32)) (dd dtX5_odds 36 rfl) rfl (congrArg (HAdd.hAdd _) (by decide : Int32.ofInt (1) = (1 : Int32))) (Nat.le_of_ble_eq_true rfl) rfl ?_
      refine WPe_sub [1, 2, 3, 4, 5, 0, 6] rfl ?_
      exact wpj5_odds_72 X w0 k51 hk51 v.1 v.2.1 v.2.2.1 v.2.2.2.1 v.2.2.2.2.1 (v.2.2.2.2.2.1 + (1 : Int32)) v.2.2.2.2.2.2 z22.2
theorem wplb5_odds_51 (X : CX) (w0 : Wd)  : ∀ (n9 : Nat) (v : Nat × Int32 × Int32 × Int32 × Int32 × Int32 × Int32) (w : Wd), WPe rtJ X (mX5_odds, 7, 0, 0, w0) 0 0 (loopF (b5_odds_51 ) n9 v w) 51 [(0, vR v.1), (1, vI v.2.1), (2, vI v.2.2.1), (3, vI v.2.2.2.1), (4, vI v.2.2.2.2.1), (5, vI v.2.2.2.2.2.1), (6, vI v.2.2.2.2.2.2)] [] w :=
  WPe_loop (rt := rtJ) (X := X) (M := (mX5_odds, 7, 0, 0, w0)) (fun v : Nat × Int32 × Int32 × Int32 × Int32 × Int32 × Int32 => [(0, vR v.1), (1, vI v.2.1), (2, vI v.2.2.1), (3, vI v.2.2.2.1), (4, vI v.2.2.2.2.1), (5, vI v.2.2.2.2.2.1), (6, vI v.2.2.2.2.2.2)]) (fun k hk v w => wpb5_odds_51 X w0  k hk v w)
noncomputable def f5_odds (x0 : Nat) (x1 : Int32) (x2 : Int32) (x3 : Int32) (x4 : Int32) (w : Wd) : Option (Int64 × Wd) :=
  (f5_isWithin x1 (0 : Int32) (99999 : Int32) w).bind fun z1 => (if z1.1 = (0 : Int32) then (some ((-4611686018427387904 : Int64), z1.2)) else ((f5_isWithin x2 (1 : Int32) (40 : Int32) z1.2).bind fun z5 => (if z5.1 = (0 : Int32) then (some ((-4611686018427387904 : Int64), z5.2)) else ((f5_isWithin x3 (0 : Int32) (9999 : Int32) z5.2).bind fun z9 => (if z9.1 = (0 : Int32) then (some ((-4611686018427387904 : Int64), z9.2)) else ((f5_isWithin x4 (0 : Int32) (1 : Int32) z9.2).bind fun z13 => (if z13.1 = (0 : Int32) then (some ((-4611686018427387904 : Int64), z13.2)) else (loopF (b5_odds_51) FU (x0, x1, x2, x3, x4, (0 : Int32), (0 : Int32)) z13.2))))))))
theorem wpf5_odds (X : CX) (w0 : Wd) (x0 : Nat) (x1 : Int32) (x2 : Int32) (x3 : Int32) (x4 : Int32) (w : Wd) : WPe rtJ X (mX5_odds, 7, 0, 0, w0) 0 0 (f5_odds x0 x1 x2 x3 x4 w) 0 [(0, vR x0), (1, vI x1), (2, vI x2), (3, vI x3), (4, vI x4)] [] w := by
  unfold f5_odds
  refine WPe_iload_n (pc := 0) 1 (dd dtX5_odds 0 rfl) rfl ?_
  refine WPe_iconst (pc := 1) (0 : Int32) (dd dtX5_odds 1 rfl) (by decide) ?_
  refine WPe_ldc (pc := 2) (v := (99999 : Int32)) (dd dtX5_odds 2 rfl) (bw_mem3 191 rfl rfl) ?_
  refine WPe_callS (pc := 4) (rtc := rtI) (Mc := mX5_isWithin) (d' := 1) (mc' := 0) (ms' := 0) [vI x1, vI (0 : Int32), vI (99999 : Int32)] [] rfl (dd dtX5_odds 3 rfl) (okf5_isWithin x1 (0 : Int32) (99999 : Int32) w) moX5_isWithin msX5_isWithin (bw_mem2 176 rfl rfl) rfl (Nat.le_of_ble_eq_true rfl) ⟨(Nat.le_of_ble_eq_true rfl), (Nat.le_of_ble_eq_true rfl)⟩ ⟨(Nat.le_of_ble_eq_true rfl), (Nat.le_of_ble_eq_true rfl)⟩ (fun z1 h2 e3 => ?_)
  refine WPe_st (st2 := [vI z1.1]) rfl ?_
  refine WPe_if_eq (pc := 7) 41 (dd dtX5_odds 4 rfl) (by decide) (fun h4 => ?_) (fun h4 => ?_)
  · refine WPe_ldc2 (pc := 41) (v := (-4611686018427387904 : Int64)) (dd dtX5_odds 20 rfl) (bw_mem3 121 rfl rfl) ?_
    exact WPe_lreturn (pc := 44) (dd dtX5_odds 21 rfl) rfl rfl ⟨(Nat.le_of_ble_eq_true rfl), (Nat.le_of_ble_eq_true rfl)⟩
  · refine WPe_iload_n (pc := 10) 2 (dd dtX5_odds 5 rfl) rfl ?_
    refine WPe_iconst (pc := 11) (1 : Int32) (dd dtX5_odds 6 rfl) (by decide) ?_
    refine WPe_bipush (pc := 12) (40 : Int32) (dd dtX5_odds 7 rfl) (by decide) ?_
    refine WPe_callS (pc := 14) (rtc := rtI) (Mc := mX5_isWithin) (d' := 1) (mc' := 0) (ms' := 0) [vI x2, vI (1 : Int32), vI (40 : Int32)] [] rfl (dd dtX5_odds 8 rfl) (okf5_isWithin x2 (1 : Int32) (40 : Int32) z1.2) moX5_isWithin msX5_isWithin (bw_mem2 176 rfl rfl) rfl (Nat.le_of_ble_eq_true rfl) ⟨(Nat.le_of_ble_eq_true rfl), (Nat.le_of_ble_eq_true rfl)⟩ ⟨(Nat.le_of_ble_eq_true rfl), (Nat.le_of_ble_eq_true rfl)⟩ (fun z5 h6 e7 => ?_)
    refine WPe_st (st2 := [vI z5.1]) rfl ?_
    refine WPe_if_eq (pc := 17) 41 (dd dtX5_odds 9 rfl) (by decide) (fun h8 => ?_) (fun h8 => ?_)
    · refine WPe_ldc2 (pc := 41) (v := (-4611686018427387904 : Int64)) (dd dtX5_odds 20 rfl) (bw_mem3 121 rfl rfl) ?_
      exact WPe_lreturn (pc := 44) (dd dtX5_odds 21 rfl) rfl rfl ⟨(Nat.le_of_ble_eq_true rfl), (Nat.le_of_ble_eq_true rfl)⟩
    · refine WPe_iload_n (pc := 20) 3 (dd dtX5_odds 10 rfl) rfl ?_
      refine WPe_iconst (pc := 21) (0 : Int32) (dd dtX5_odds 11 rfl) (by decide) ?_
      refine WPe_sipush (pc := 22) (9999 : Int32) (dd dtX5_odds 12 rfl) (by decide) ?_
      refine WPe_callS (pc := 25) (rtc := rtI) (Mc := mX5_isWithin) (d' := 1) (mc' := 0) (ms' := 0) [vI x3, vI (0 : Int32), vI (9999 : Int32)] [] rfl (dd dtX5_odds 13 rfl) (okf5_isWithin x3 (0 : Int32) (9999 : Int32) z5.2) moX5_isWithin msX5_isWithin (bw_mem2 176 rfl rfl) rfl (Nat.le_of_ble_eq_true rfl) ⟨(Nat.le_of_ble_eq_true rfl), (Nat.le_of_ble_eq_true rfl)⟩ ⟨(Nat.le_of_ble_eq_true rfl), (Nat.le_of_ble_eq_true rfl)⟩ (fun z9 h10 e11 => ?_)
      refine WPe_st (st2 := [vI z9.1]) rfl ?_
      refine WPe_if_eq (pc := 28) 41 (dd dtX5_odds 14 rfl) (by decide) (fun h12 => ?_) (fun h12 => ?_)
      · refine WPe_ldc2 (pc := 41) (v := (-4611686018427387904 : Int64)) (dd dtX5_odds 20 rfl) (bw_mem3 121 rfl rfl) ?_
        exact WPe_lreturn (pc := 44) (dd dtX5_odds 21 rfl) rfl rfl ⟨(Nat.le_of_ble_eq_true rfl), (Nat.le_of_ble_eq_true rfl)⟩
      · refine WPe_iload (pc := 31) 4 (dd dtX5_odds 15 rfl) rfl ?_
        refine WPe_iconst (pc := 33) (0 : Int32) (dd dtX5_odds 16 rfl) (by decide) ?_
        refine WPe_iconst (pc := 34) (1 : Int32) (dd dtX5_odds 17 rfl) (by decide) ?_
        refine WPe_callS (pc := 35) (rtc := rtI) (Mc := mX5_isWithin) (d' := 1) (mc' := 0) (ms' := 0) [vI x4, vI (0 : Int32), vI (1 : Int32)] [] rfl (dd dtX5_odds 18 rfl) (okf5_isWithin x4 (0 : Int32) (1 : Int32) z9.2) moX5_isWithin msX5_isWithin (bw_mem2 176 rfl rfl) rfl (Nat.le_of_ble_eq_true rfl) ⟨(Nat.le_of_ble_eq_true rfl), (Nat.le_of_ble_eq_true rfl)⟩ ⟨(Nat.le_of_ble_eq_true rfl), (Nat.le_of_ble_eq_true rfl)⟩ (fun z13 h14 e15 => ?_)
        refine WPe_st (st2 := [vI z13.1]) rfl ?_
        refine WPe_if_ne (pc := 38) 45 (dd dtX5_odds 19 rfl) (by decide) (fun h16 => ?_) (fun h16 => ?_)
        · refine WPe_ldc2 (pc := 41) (v := (-4611686018427387904 : Int64)) (dd dtX5_odds 20 rfl) (bw_mem3 121 rfl rfl) ?_
          exact WPe_lreturn (pc := 44) (dd dtX5_odds 21 rfl) rfl rfl ⟨(Nat.le_of_ble_eq_true rfl), (Nat.le_of_ble_eq_true rfl)⟩
        · refine WPe_iconst (pc := 45) (0 : Int32) (dd dtX5_odds 22 rfl) (by decide) ?_
          refine WPe_istore (pc := 46) (ls' := [(5, vI (0 : Int32)), (0, vR x0), (1, vI x1), (2, vI x2), (3, vI x3), (4, vI x4)]) (dd dtX5_odds 23 rfl) (Nat.le_of_ble_eq_true rfl) rfl ?_
          refine WPe_iconst (pc := 48) (0 : Int32) (dd dtX5_odds 24 rfl) (by decide) ?_
          refine WPe_istore (pc := 49) (ls' := [(6, vI (0 : Int32)), (5, vI (0 : Int32)), (0, vR x0), (1, vI x1), (2, vI x2), (3, vI x3), (4, vI x4)]) (dd dtX5_odds 25 rfl) (Nat.le_of_ble_eq_true rfl) rfl ?_
          refine WPe_sub [2, 3, 4, 5, 6, 1, 0] rfl ?_
          exact wplb5_odds_51 X w0  FU _ _
theorem okf5_odds (x0 : Nat) (x1 : Int32) (x2 : Int32) (x3 : Int32) (x4 : Int32) (w : Wd) : ∀ z, f5_odds x0 x1 x2 x3 x4 w = some z → OkM mX5_odds 7 0 0 [vR x0, vI x1, vI x2, vI x3, vI x4] w (rtJ z.1) z.2 :=
  OkM.of (rt := rtJ) moX5_odds (Nat.le_of_ble_eq_true rfl) (fun X => wpf5_odds X w x0 x1 x2 x3 x4 w)
def tbX5_image : List (Nat × Instr × Nat) := [(0, .aload_n 0, 1), (1, .getfield 55, 3), (4, .aload_n 0, 1), (5, .getfield 48, 3), (8, .invokevirtual 223, 3), (11, .aload_n 0, 1), (12, .iconst 1, 1), (13, .putfield 227, 3), (16, .aload_n 0, 1), (17, .getfield 48, 3), (20, .getfield 65, 3), (23, .ireturn, 1)]
set_option maxRecDepth 20000 in
theorem dtX5_image : ∀ x ∈ tbX5_image, decode cX5_image x.1 = .ok x.2 := by decide +kernel
noncomputable def f5_image (x0 : Nat) (w : Wd) : Option (Int32 × Wd) :=
  ck (tg w x0 = 5) (ck (tg w (wr w x0 5) = 1) ((f1_becomeAs (wr w x0 5) (wr w x0 3) w).bind fun z3 => (lw (sI z3.2 x0 6 (1 : Int32)) fun w6 => (ck (tg w6 (wr w6 x0 3) = 1) (some ((wi w6 (wr w6 x0 3) 4), w6))))))
theorem wpf5_image (X : CX) (w0 : Wd) (x0 : Nat) (w : Wd) : WPe rtI X (mX5_image, 3, 0, 0, w0) 0 0 (f5_image x0 w) 0 [(0, vR x0)] [] w := by
  unfold f5_image
  refine WPe_aload_n (pc := 0) 0 (dd dtX5_image 0 rfl) rfl ?_
  refine WPe_ck fun h1 => ?_
  refine WPe_getR (pc := 1) (t := 5) (C := RX5) (T := TX5) 5 (dd dtX5_image 1 rfl) (shE h1) rfl (Nat.le_of_ble_eq_true rfl) rfl (bw_mem2 125 rfl rfl) ?_
  refine WPe_aload_n (pc := 4) 0 (dd dtX5_image 2 rfl) rfl ?_
  refine WPe_getR (pc := 5) (t := 5) (C := RX5) (T := TX5) 3 (dd dtX5_image 3 rfl) (shE h1) rfl (Nat.le_of_ble_eq_true rfl) rfl (bw_mem2 123 rfl rfl) ?_
  refine WPe_ck fun h2 => ?_
  refine WPe_callV (pc := 8) (rtc := rtV) (Mc := mX1_becomeAs) (d' := 2) (mc' := 0) (ms' := 0) [vR (wr w x0 3)] [] rfl (dd dtX5_image 4 rfl) (okf1_becomeAs (wr w x0 5) (wr w x0 3) w) moX1_becomeAs miX1_becomeAs (bw_mem3 57 rfl rfl) (Or.inl ⟨_, _, _, _, (shE h2), rfl⟩) rfl (Nat.le_of_ble_eq_true rfl) ⟨(Nat.le_of_ble_eq_true rfl), (Nat.le_of_ble_eq_true rfl)⟩ ⟨(Nat.le_of_ble_eq_true rfl), (Nat.le_of_ble_eq_true rfl)⟩ (fun z3 h4 e5 => ?_)
  refine WPe_st (st2 := []) rfl ?_
  refine WPe_aload_n (pc := 11) 0 (dd dtX5_image 5 rfl) rfl ?_
  refine WPe_iconst (pc := 12) (1 : Int32) (dd dtX5_image 6 rfl) (by decide) ?_
  refine WPe_putI (pc := 13) (t := 5) (C := RX5) (T := TX5) 6 (dd dtX5_image 7 rfl) (e5.at (shE h1) (by decide)) rfl (Nat.le_of_ble_eq_true rfl) (bw_mem2 126 rfl rfl) (Or.inl rfl) rfl rfl rfl ?_
  refine WPe_lw fun w6 e7 => ?_
  refine WPe_aload_n (pc := 16) 0 (dd dtX5_image 8 rfl) rfl ?_
  refine WPe_getR (pc := 17) (t := 5) (C := RX5) (T := TX5) 3 (dd dtX5_image 9 rfl) (shI e7 (e5.at (shE h1) (by decide))) rfl (Nat.le_of_ble_eq_true rfl) rfl (bw_mem2 123 rfl rfl) ?_
  refine WPe_ck fun h8 => ?_
  refine WPe_getI (pc := 20) (t := 1) (C := RX1) (T := TX1) 4 (dd dtX5_image 10 rfl) (shE h8) rfl (Nat.le_of_ble_eq_true rfl) rfl (bw_mem2 80 rfl rfl) ?_
  exact WPe_ireturn (pc := 23) (dd dtX5_image 11 rfl) rfl rfl ⟨(Nat.le_of_ble_eq_true rfl), (Nat.le_of_ble_eq_true rfl)⟩
theorem okf5_image (x0 : Nat) (w : Wd) : ∀ z, f5_image x0 w = some z → OkM mX5_image 3 0 0 [vR x0] w (rtI z.1) z.2 :=
  OkM.of (rt := rtI) moX5_image (Nat.le_of_ble_eq_true rfl) (fun X => wpf5_image X w x0 w)
def tbX5_back : List (Nat × Instr × Nat) := [(0, .aload_n 0, 1), (1, .getfield 227, 3), (4, .ifCond .ne 6, 3), (7, .bipush (-3), 2), (9, .ireturn, 1), (10, .aload_n 0, 1), (11, .getfield 48, 3), (14, .aload_n 0, 1), (15, .getfield 55, 3), (18, .invokevirtual 223, 3), (21, .aload_n 0, 1), (22, .getfield 48, 3), (25, .getfield 65, 3), (28, .ireturn, 1)]
set_option maxRecDepth 20000 in
theorem dtX5_back : ∀ x ∈ tbX5_back, decode cX5_back x.1 = .ok x.2 := by decide +kernel
noncomputable def f5_back (x0 : Nat) (w : Wd) : Option (Int32 × Wd) :=
  ck (tg w x0 = 5) (if (wi w x0 6) = (0 : Int32) then (some ((-3 : Int32), w)) else (ck (tg w (wr w x0 3) = 1) ((f1_becomeAs (wr w x0 3) (wr w x0 5) w).bind fun z4 => (ck (tg z4.2 (wr z4.2 x0 3) = 1) (some ((wi z4.2 (wr z4.2 x0 3) 4), z4.2))))))
theorem wpf5_back (X : CX) (w0 : Wd) (x0 : Nat) (w : Wd) : WPe rtI X (mX5_back, 3, 0, 0, w0) 0 0 (f5_back x0 w) 0 [(0, vR x0)] [] w := by
  unfold f5_back
  refine WPe_aload_n (pc := 0) 0 (dd dtX5_back 0 rfl) rfl ?_
  refine WPe_ck fun h1 => ?_
  refine WPe_getI (pc := 1) (t := 5) (C := RX5) (T := TX5) 6 (dd dtX5_back 1 rfl) (shE h1) rfl (Nat.le_of_ble_eq_true rfl) rfl (bw_mem2 126 rfl rfl) ?_
  refine WPe_if_ne (pc := 4) 10 (dd dtX5_back 2 rfl) (by decide) (fun h2 => ?_) (fun h2 => ?_)
  · refine WPe_bipush (pc := 7) (-3 : Int32) (dd dtX5_back 3 rfl) (by decide) ?_
    exact WPe_ireturn (pc := 9) (dd dtX5_back 4 rfl) rfl rfl ⟨(Nat.le_of_ble_eq_true rfl), (Nat.le_of_ble_eq_true rfl)⟩
  · refine WPe_aload_n (pc := 10) 0 (dd dtX5_back 5 rfl) rfl ?_
    refine WPe_getR (pc := 11) (t := 5) (C := RX5) (T := TX5) 3 (dd dtX5_back 6 rfl) (shE h1) rfl (Nat.le_of_ble_eq_true rfl) rfl (bw_mem2 123 rfl rfl) ?_
    refine WPe_aload_n (pc := 14) 0 (dd dtX5_back 7 rfl) rfl ?_
    refine WPe_getR (pc := 15) (t := 5) (C := RX5) (T := TX5) 5 (dd dtX5_back 8 rfl) (shE h1) rfl (Nat.le_of_ble_eq_true rfl) rfl (bw_mem2 125 rfl rfl) ?_
    refine WPe_ck fun h3 => ?_
    refine WPe_callV (pc := 18) (rtc := rtV) (Mc := mX1_becomeAs) (d' := 2) (mc' := 0) (ms' := 0) [vR (wr w x0 5)] [] rfl (dd dtX5_back 9 rfl) (okf1_becomeAs (wr w x0 3) (wr w x0 5) w) moX1_becomeAs miX1_becomeAs (bw_mem3 57 rfl rfl) (Or.inl ⟨_, _, _, _, (shE h3), rfl⟩) rfl (Nat.le_of_ble_eq_true rfl) ⟨(Nat.le_of_ble_eq_true rfl), (Nat.le_of_ble_eq_true rfl)⟩ ⟨(Nat.le_of_ble_eq_true rfl), (Nat.le_of_ble_eq_true rfl)⟩ (fun z4 h5 e6 => ?_)
    refine WPe_st (st2 := []) rfl ?_
    refine WPe_aload_n (pc := 21) 0 (dd dtX5_back 10 rfl) rfl ?_
    refine WPe_getR (pc := 22) (t := 5) (C := RX5) (T := TX5) 3 (dd dtX5_back 11 rfl) (e6.at (shE h1) (by decide)) rfl (Nat.le_of_ble_eq_true rfl) rfl (bw_mem2 123 rfl rfl) ?_
    refine WPe_ck fun h7 => ?_
    refine WPe_getI (pc := 25) (t := 1) (C := RX1) (T := TX1) 4 (dd dtX5_back 12 rfl) (shE h7) rfl (Nat.le_of_ble_eq_true rfl) rfl (bw_mem2 80 rfl rfl) ?_
    exact WPe_ireturn (pc := 28) (dd dtX5_back 13 rfl) rfl rfl ⟨(Nat.le_of_ble_eq_true rfl), (Nat.le_of_ble_eq_true rfl)⟩
theorem okf5_back (x0 : Nat) (w : Wd) : ∀ z, f5_back x0 w = some z → OkM mX5_back 3 0 0 [vR x0] w (rtI z.1) z.2 :=
  OkM.of (rt := rtI) moX5_back (Nat.le_of_ble_eq_true rfl) (fun X => wpf5_back X w x0 w)
def tbX5_sheet : List (Nat × Instr × Nat) := [(0, .iload_n 1, 1), (1, .invokestatic 209, 3), (4, .ifCond .eq 12, 3), (7, .iload_n 2, 1), (8, .iconst (-1), 1), (9, .iconst 2, 1), (10, .invokestatic 111, 3), (13, .ifCond .ne 6, 3), (16, .bipush (-2), 2), (18, .ireturn, 1), (19, .iload_n 2, 1), (20, .iconst (-1), 1), (21, .if_icmp .ne 16, 3), (24, .aload_n 0, 1), (25, .getfield 60, 3), (28, .iload_n 1, 1), (29, .aaload, 1), (30, .iconst (-1), 1), (31, .iconst 0, 1), (32, .invokevirtual 212, 3), (35, .iconst 1, 1), (36, .ireturn, 1), (37, .iload_n 3, 1), (38, .bipush 40, 2), (40, .if_icmp .le 6, 3), (43, .bipush (-2), 2), (45, .ireturn, 1), (46, .iload_n 3, 1), (47, .ifCond .ge 6, 3), (50, .bipush (-14), 2), (52, .ireturn, 1), (53, .aload_n 0, 1), (54, .getfield 60, 3), (57, .iload_n 1, 1), (58, .aaload, 1), (59, .iload_n 2, 1), (60, .iload_n 3, 1), (61, .invokevirtual 212, 3), (64, .iconst 1, 1), (65, .ireturn, 1)]
set_option maxRecDepth 20000 in
theorem dtX5_sheet : ∀ x ∈ tbX5_sheet, decode cX5_sheet x.1 = .ok x.2 := by decide +kernel
noncomputable def f5_sheet (x0 : Nat) (x1 : Int32) (x2 : Int32) (x3 : Int32) (w : Wd) : Option (Int32 × Wd) :=
  (f5_isSheet x1 w).bind fun z1 => (if z1.1 = (0 : Int32) then (some ((-2 : Int32), z1.2)) else ((f5_isWithin x2 (-1 : Int32) (2 : Int32) z1.2).bind fun z5 => (if z5.1 = (0 : Int32) then (some ((-2 : Int32), z5.2)) else (if x2 = (-1 : Int32) then (ck (tg z5.2 x0 = 5) (ck (tg z5.2 (wr z5.2 x0 7) = 23 ∧ vp_in x1 (ln z5.2 (wr z5.2 x0 7))) (ck (tg z5.2 (wr z5.2 (wr z5.2 x0 7) (x1).toNatClampNeg) = 2) ((f2_becomeRow (wr z5.2 (wr z5.2 x0 7) (x1).toNatClampNeg) (-1 : Int32) (0 : Int32) z5.2).bind fun z13 => (some ((1 : Int32), z13.2)))))) else (if x3 ≤ (40 : Int32) then (if (0 : Int32) ≤ x3 then (ck (tg z5.2 x0 = 5) (ck (tg z5.2 (wr z5.2 x0 7) = 23 ∧ vp_in x1 (ln z5.2 (wr z5.2 x0 7))) (ck (tg z5.2 (wr z5.2 (wr z5.2 x0 7) (x1).toNatClampNeg) = 2) ((f2_becomeRow (wr z5.2 (wr z5.2 x0 7) (x1).toNatClampNeg) x2 x3 z5.2).bind fun z21 => (some ((1 : Int32), z21.2)))))) else (some ((-14 : Int32), z5.2))) else (some ((-2 : Int32), z5.2)))))))
theorem wpf5_sheet (X : CX) (w0 : Wd) (x0 : Nat) (x1 : Int32) (x2 : Int32) (x3 : Int32) (w : Wd) : WPe rtI X (mX5_sheet, 3, 0, 0, w0) 0 0 (f5_sheet x0 x1 x2 x3 w) 0 [(0, vR x0), (1, vI x1), (2, vI x2), (3, vI x3)] [] w := by
  unfold f5_sheet
  refine WPe_iload_n (pc := 0) 1 (dd dtX5_sheet 0 rfl) rfl ?_
  refine WPe_callS (pc := 1) (rtc := rtI) (Mc := mX5_isSheet) (d' := 1) (mc' := 0) (ms' := 0) [vI x1] [] rfl (dd dtX5_sheet 1 rfl) (okf5_isSheet x1 w) moX5_isSheet msX5_isSheet (bw_mem3 137 rfl rfl) rfl (Nat.le_of_ble_eq_true rfl) ⟨(Nat.le_of_ble_eq_true rfl), (Nat.le_of_ble_eq_true rfl)⟩ ⟨(Nat.le_of_ble_eq_true rfl), (Nat.le_of_ble_eq_true rfl)⟩ (fun z1 h2 e3 => ?_)
  refine WPe_st (st2 := [vI z1.1]) rfl ?_
  refine WPe_if_eq (pc := 4) 16 (dd dtX5_sheet 2 rfl) (by decide) (fun h4 => ?_) (fun h4 => ?_)
  · refine WPe_bipush (pc := 16) (-2 : Int32) (dd dtX5_sheet 8 rfl) (by decide) ?_
    exact WPe_ireturn (pc := 18) (dd dtX5_sheet 9 rfl) rfl rfl ⟨(Nat.le_of_ble_eq_true rfl), (Nat.le_of_ble_eq_true rfl)⟩
  · refine WPe_iload_n (pc := 7) 2 (dd dtX5_sheet 3 rfl) rfl ?_
    refine WPe_iconst (pc := 8) (-1 : Int32) (dd dtX5_sheet 4 rfl) (by decide) ?_
    refine WPe_iconst (pc := 9) (2 : Int32) (dd dtX5_sheet 5 rfl) (by decide) ?_
    refine WPe_callS (pc := 10) (rtc := rtI) (Mc := mX5_isWithin) (d' := 1) (mc' := 0) (ms' := 0) [vI x2, vI (-1 : Int32), vI (2 : Int32)] [] rfl (dd dtX5_sheet 6 rfl) (okf5_isWithin x2 (-1 : Int32) (2 : Int32) z1.2) moX5_isWithin msX5_isWithin (bw_mem2 176 rfl rfl) rfl (Nat.le_of_ble_eq_true rfl) ⟨(Nat.le_of_ble_eq_true rfl), (Nat.le_of_ble_eq_true rfl)⟩ ⟨(Nat.le_of_ble_eq_true rfl), (Nat.le_of_ble_eq_true rfl)⟩ (fun z5 h6 e7 => ?_)
    refine WPe_st (st2 := [vI z5.1]) rfl ?_
    refine WPe_if_ne (pc := 13) 19 (dd dtX5_sheet 7 rfl) (by decide) (fun h8 => ?_) (fun h8 => ?_)
    · refine WPe_bipush (pc := 16) (-2 : Int32) (dd dtX5_sheet 8 rfl) (by decide) ?_
      exact WPe_ireturn (pc := 18) (dd dtX5_sheet 9 rfl) rfl rfl ⟨(Nat.le_of_ble_eq_true rfl), (Nat.le_of_ble_eq_true rfl)⟩
    · refine WPe_iload_n (pc := 19) 2 (dd dtX5_sheet 10 rfl) rfl ?_
      refine WPe_iconst (pc := 20) (-1 : Int32) (dd dtX5_sheet 11 rfl) (by decide) ?_
      refine WPe_icmp_ne (pc := 21) 37 (dd dtX5_sheet 12 rfl) (by decide) (fun h9 => ?_) (fun h9 => ?_)
      · refine WPe_aload_n (pc := 24) 0 (dd dtX5_sheet 13 rfl) rfl ?_
        refine WPe_ck fun h10 => ?_
        refine WPe_getR (pc := 25) (t := 5) (C := RX5) (T := TX5) 7 (dd dtX5_sheet 14 rfl) (shE h10) rfl (Nat.le_of_ble_eq_true rfl) rfl (bw_mem2 127 rfl rfl) ?_
        refine WPe_iload_n (pc := 28) 1 (dd dtX5_sheet 15 rfl) rfl ?_
        refine WPe_ck fun h11 => ?_
        refine WPe_aald (pc := 29) (dd dtX5_sheet 16 rfl) (shE h11.1) ⟨(Nat.le_of_ble_eq_true rfl), (Nat.le_of_ble_eq_true rfl)⟩ h11.2 ?_
        refine WPe_iconst (pc := 30) (-1 : Int32) (dd dtX5_sheet 17 rfl) (by decide) ?_
        refine WPe_iconst (pc := 31) (0 : Int32) (dd dtX5_sheet 18 rfl) (by decide) ?_
        refine WPe_ck fun h12 => ?_
        refine WPe_callV (pc := 32) (rtc := rtV) (Mc := mX2_becomeRow) (d' := 2) (mc' := 0) (ms' := 0) [vI (-1 : Int32), vI (0 : Int32)] [] rfl (dd dtX5_sheet 19 rfl) (okf2_becomeRow (wr z5.2 (wr z5.2 x0 7) (x1).toNatClampNeg) (-1 : Int32) (0 : Int32) z5.2) moX2_becomeRow miX2_becomeRow (bw_mem3 172 rfl rfl) (Or.inl ⟨_, _, _, _, (shE h12), rfl⟩) rfl (Nat.le_of_ble_eq_true rfl) ⟨(Nat.le_of_ble_eq_true rfl), (Nat.le_of_ble_eq_true rfl)⟩ ⟨(Nat.le_of_ble_eq_true rfl), (Nat.le_of_ble_eq_true rfl)⟩ (fun z13 h14 e15 => ?_)
        refine WPe_st (st2 := []) rfl ?_
        refine WPe_iconst (pc := 35) (1 : Int32) (dd dtX5_sheet 20 rfl) (by decide) ?_
        exact WPe_ireturn (pc := 36) (dd dtX5_sheet 21 rfl) rfl rfl ⟨(Nat.le_of_ble_eq_true rfl), (Nat.le_of_ble_eq_true rfl)⟩
      · refine WPe_iload_n (pc := 37) 3 (dd dtX5_sheet 22 rfl) rfl ?_
        refine WPe_bipush (pc := 38) (40 : Int32) (dd dtX5_sheet 23 rfl) (by decide) ?_
        refine WPe_icmp_le (pc := 40) 46 (dd dtX5_sheet 24 rfl) (by decide) (fun h16 => ?_) (fun h16 => ?_)
        · refine WPe_iload_n (pc := 46) 3 (dd dtX5_sheet 27 rfl) rfl ?_
          refine WPe_if_ge (pc := 47) 53 (dd dtX5_sheet 28 rfl) (by decide) (fun h17 => ?_) (fun h17 => ?_)
          · refine WPe_aload_n (pc := 53) 0 (dd dtX5_sheet 31 rfl) rfl ?_
            refine WPe_ck fun h18 => ?_
            refine WPe_getR (pc := 54) (t := 5) (C := RX5) (T := TX5) 7 (dd dtX5_sheet 32 rfl) (shE h18) rfl (Nat.le_of_ble_eq_true rfl) rfl (bw_mem2 127 rfl rfl) ?_
            refine WPe_iload_n (pc := 57) 1 (dd dtX5_sheet 33 rfl) rfl ?_
            refine WPe_ck fun h19 => ?_
            refine WPe_aald (pc := 58) (dd dtX5_sheet 34 rfl) (shE h19.1) ⟨(Nat.le_of_ble_eq_true rfl), (Nat.le_of_ble_eq_true rfl)⟩ h19.2 ?_
            refine WPe_iload_n (pc := 59) 2 (dd dtX5_sheet 35 rfl) rfl ?_
            refine WPe_iload_n (pc := 60) 3 (dd dtX5_sheet 36 rfl) rfl ?_
            refine WPe_ck fun h20 => ?_
            refine WPe_callV (pc := 61) (rtc := rtV) (Mc := mX2_becomeRow) (d' := 2) (mc' := 0) (ms' := 0) [vI x2, vI x3] [] rfl (dd dtX5_sheet 37 rfl) (okf2_becomeRow (wr z5.2 (wr z5.2 x0 7) (x1).toNatClampNeg) x2 x3 z5.2) moX2_becomeRow miX2_becomeRow (bw_mem3 172 rfl rfl) (Or.inl ⟨_, _, _, _, (shE h20), rfl⟩) rfl (Nat.le_of_ble_eq_true rfl) ⟨(Nat.le_of_ble_eq_true rfl), (Nat.le_of_ble_eq_true rfl)⟩ ⟨(Nat.le_of_ble_eq_true rfl), (Nat.le_of_ble_eq_true rfl)⟩ (fun z21 h22 e23 => ?_)
            refine WPe_st (st2 := []) rfl ?_
            refine WPe_iconst (pc := 64) (1 : Int32) (dd dtX5_sheet 38 rfl) (by decide) ?_
            exact WPe_ireturn (pc := 65) (dd dtX5_sheet 39 rfl) rfl rfl ⟨(Nat.le_of_ble_eq_true rfl), (Nat.le_of_ble_eq_true rfl)⟩
          · refine WPe_bipush (pc := 50) (-14 : Int32) (dd dtX5_sheet 29 rfl) (by decide) ?_
            exact WPe_ireturn (pc := 52) (dd dtX5_sheet 30 rfl) rfl rfl ⟨(Nat.le_of_ble_eq_true rfl), (Nat.le_of_ble_eq_true rfl)⟩
        · refine WPe_bipush (pc := 43) (-2 : Int32) (dd dtX5_sheet 25 rfl) (by decide) ?_
          exact WPe_ireturn (pc := 45) (dd dtX5_sheet 26 rfl) rfl rfl ⟨(Nat.le_of_ble_eq_true rfl), (Nat.le_of_ble_eq_true rfl)⟩
theorem okf5_sheet (x0 : Nat) (x1 : Int32) (x2 : Int32) (x3 : Int32) (w : Wd) : ∀ z, f5_sheet x0 x1 x2 x3 w = some z → OkM mX5_sheet 3 0 0 [vR x0, vI x1, vI x2, vI x3] w (rtI z.1) z.2 :=
  OkM.of (rt := rtI) moX5_sheet (Nat.le_of_ble_eq_true rfl) (fun X => wpf5_sheet X w x0 x1 x2 x3 w)
def tbX5_cell : List (Nat × Instr × Nat) := [(0, .iload_n 1, 1), (1, .invokestatic 209, 3), (4, .ifCond .ne 6, 3), (7, .bipush (-2), 2), (9, .ireturn, 1), (10, .aload_n 0, 1), (11, .getfield 60, 3), (14, .iload_n 1, 1), (15, .aaload, 1), (16, .astore 4, 2), (18, .aload 4, 2), (20, .invokevirtual 231, 3), (23, .ifCond .eq 6, 3), (26, .bipush (-11), 2), (28, .ireturn, 1), (29, .aload 4, 2), (31, .iload_n 2, 1), (32, .invokevirtual 235, 3), (35, .ifCond .ne 6, 3), (38, .bipush (-12), 2), (40, .ireturn, 1), (41, .aload 4, 2), (43, .iload_n 2, 1), (44, .iload_n 3, 1), (45, .invokevirtual 216, 3), (48, .iconst 1, 1), (49, .ireturn, 1)]
set_option maxRecDepth 20000 in
theorem dtX5_cell : ∀ x ∈ tbX5_cell, decode cX5_cell x.1 = .ok x.2 := by decide +kernel
noncomputable def f5_cell (x0 : Nat) (x1 : Int32) (x2 : Int32) (x3 : Int32) (w : Wd) : Option (Int32 × Wd) :=
  (f5_isSheet x1 w).bind fun z1 => (if z1.1 = (0 : Int32) then (some ((-2 : Int32), z1.2)) else (ck (tg z1.2 x0 = 5) (ck (tg z1.2 (wr z1.2 x0 7) = 23 ∧ vp_in x1 (ln z1.2 (wr z1.2 x0 7))) (ck (tg z1.2 (wr z1.2 (wr z1.2 x0 7) (x1).toNatClampNeg) = 2) ((f2_isMissing (wr z1.2 (wr z1.2 x0 7) (x1).toNatClampNeg) z1.2).bind fun z8 => (if z8.1 = (0 : Int32) then ((f2_hasPlace (wr z1.2 (wr z1.2 x0 7) (x1).toNatClampNeg) x2 z8.2).bind fun z12 => (if z12.1 = (0 : Int32) then (some ((-12 : Int32), z12.2)) else ((f2_write (wr z1.2 (wr z1.2 x0 7) (x1).toNatClampNeg) x2 x3 z12.2).bind fun z16 => (some ((1 : Int32), z16.2))))) else (some ((-11 : Int32), z8.2))))))))
theorem wpf5_cell (X : CX) (w0 : Wd) (x0 : Nat) (x1 : Int32) (x2 : Int32) (x3 : Int32) (w : Wd) : WPe rtI X (mX5_cell, 3, 0, 0, w0) 0 0 (f5_cell x0 x1 x2 x3 w) 0 [(0, vR x0), (1, vI x1), (2, vI x2), (3, vI x3)] [] w := by
  unfold f5_cell
  refine WPe_iload_n (pc := 0) 1 (dd dtX5_cell 0 rfl) rfl ?_
  refine WPe_callS (pc := 1) (rtc := rtI) (Mc := mX5_isSheet) (d' := 1) (mc' := 0) (ms' := 0) [vI x1] [] rfl (dd dtX5_cell 1 rfl) (okf5_isSheet x1 w) moX5_isSheet msX5_isSheet (bw_mem3 137 rfl rfl) rfl (Nat.le_of_ble_eq_true rfl) ⟨(Nat.le_of_ble_eq_true rfl), (Nat.le_of_ble_eq_true rfl)⟩ ⟨(Nat.le_of_ble_eq_true rfl), (Nat.le_of_ble_eq_true rfl)⟩ (fun z1 h2 e3 => ?_)
  refine WPe_st (st2 := [vI z1.1]) rfl ?_
  refine WPe_if_ne (pc := 4) 10 (dd dtX5_cell 2 rfl) (by decide) (fun h4 => ?_) (fun h4 => ?_)
  · refine WPe_bipush (pc := 7) (-2 : Int32) (dd dtX5_cell 3 rfl) (by decide) ?_
    exact WPe_ireturn (pc := 9) (dd dtX5_cell 4 rfl) rfl rfl ⟨(Nat.le_of_ble_eq_true rfl), (Nat.le_of_ble_eq_true rfl)⟩
  · refine WPe_aload_n (pc := 10) 0 (dd dtX5_cell 5 rfl) rfl ?_
    refine WPe_ck fun h5 => ?_
    refine WPe_getR (pc := 11) (t := 5) (C := RX5) (T := TX5) 7 (dd dtX5_cell 6 rfl) (shE h5) rfl (Nat.le_of_ble_eq_true rfl) rfl (bw_mem2 127 rfl rfl) ?_
    refine WPe_iload_n (pc := 14) 1 (dd dtX5_cell 7 rfl) rfl ?_
    refine WPe_ck fun h6 => ?_
    refine WPe_aald (pc := 15) (dd dtX5_cell 8 rfl) (shE h6.1) ⟨(Nat.le_of_ble_eq_true rfl), (Nat.le_of_ble_eq_true rfl)⟩ h6.2 ?_
    refine WPe_astore (pc := 16) (ls' := [(4, vR (wr z1.2 (wr z1.2 x0 7) (x1).toNatClampNeg)), (0, vR x0), (1, vI x1), (2, vI x2), (3, vI x3)]) (dd dtX5_cell 9 rfl) (Nat.le_of_ble_eq_true rfl) rfl ?_
    refine WPe_aload (pc := 18) 0 (dd dtX5_cell 10 rfl) rfl ?_
    refine WPe_ck fun h7 => ?_
    refine WPe_callV (pc := 20) (rtc := rtI) (Mc := mX2_isMissing) (d' := 1) (mc' := 0) (ms' := 0) [] [] rfl (dd dtX5_cell 11 rfl) (okf2_isMissing (wr z1.2 (wr z1.2 x0 7) (x1).toNatClampNeg) z1.2) moX2_isMissing miX2_isMissing (bw_mem3 140 rfl rfl) (Or.inl ⟨_, _, _, _, (shE h7), rfl⟩) rfl (Nat.le_of_ble_eq_true rfl) ⟨(Nat.le_of_ble_eq_true rfl), (Nat.le_of_ble_eq_true rfl)⟩ ⟨(Nat.le_of_ble_eq_true rfl), (Nat.le_of_ble_eq_true rfl)⟩ (fun z8 h9 e10 => ?_)
    refine WPe_st (st2 := [vI z8.1]) rfl ?_
    refine WPe_if_eq (pc := 23) 29 (dd dtX5_cell 12 rfl) (by decide) (fun h11 => ?_) (fun h11 => ?_)
    · refine WPe_aload (pc := 29) 0 (dd dtX5_cell 15 rfl) rfl ?_
      refine WPe_iload_n (pc := 31) 3 (dd dtX5_cell 16 rfl) rfl ?_
      refine WPe_callV (pc := 32) (rtc := rtI) (Mc := mX2_hasPlace) (d' := 1) (mc' := 0) (ms' := 0) [vI x2] [] rfl (dd dtX5_cell 17 rfl) (okf2_hasPlace (wr z1.2 (wr z1.2 x0 7) (x1).toNatClampNeg) x2 z8.2) moX2_hasPlace miX2_hasPlace (bw_mem3 219 rfl rfl) (Or.inl ⟨_, _, _, _, (e10.at (shE h7) (by decide)), rfl⟩) rfl (Nat.le_of_ble_eq_true rfl) ⟨(Nat.le_of_ble_eq_true rfl), (Nat.le_of_ble_eq_true rfl)⟩ ⟨(Nat.le_of_ble_eq_true rfl), (Nat.le_of_ble_eq_true rfl)⟩ (fun z12 h13 e14 => ?_)
      refine WPe_st (st2 := [vI z12.1]) rfl ?_
      refine WPe_if_ne (pc := 35) 41 (dd dtX5_cell 18 rfl) (by decide) (fun h15 => ?_) (fun h15 => ?_)
      · refine WPe_bipush (pc := 38) (-12 : Int32) (dd dtX5_cell 19 rfl) (by decide) ?_
        exact WPe_ireturn (pc := 40) (dd dtX5_cell 20 rfl) rfl rfl ⟨(Nat.le_of_ble_eq_true rfl), (Nat.le_of_ble_eq_true rfl)⟩
      · refine WPe_aload (pc := 41) 0 (dd dtX5_cell 21 rfl) rfl ?_
        refine WPe_iload_n (pc := 43) 3 (dd dtX5_cell 22 rfl) rfl ?_
        refine WPe_iload_n (pc := 44) 4 (dd dtX5_cell 23 rfl) rfl ?_
        refine WPe_callV (pc := 45) (rtc := rtV) (Mc := mX2_write) (d' := 2) (mc' := 0) (ms' := 0) [vI x2, vI x3] [] rfl (dd dtX5_cell 24 rfl) (okf2_write (wr z1.2 (wr z1.2 x0 7) (x1).toNatClampNeg) x2 x3 z12.2) moX2_write miX2_write (bw_mem3 179 rfl rfl) (Or.inl ⟨_, _, _, _, (e14.at (e10.at (shE h7) (by decide)) (by decide)), rfl⟩) rfl (Nat.le_of_ble_eq_true rfl) ⟨(Nat.le_of_ble_eq_true rfl), (Nat.le_of_ble_eq_true rfl)⟩ ⟨(Nat.le_of_ble_eq_true rfl), (Nat.le_of_ble_eq_true rfl)⟩ (fun z16 h17 e18 => ?_)
        refine WPe_st (st2 := []) rfl ?_
        refine WPe_iconst (pc := 48) (1 : Int32) (dd dtX5_cell 25 rfl) (by decide) ?_
        exact WPe_ireturn (pc := 49) (dd dtX5_cell 26 rfl) rfl rfl ⟨(Nat.le_of_ble_eq_true rfl), (Nat.le_of_ble_eq_true rfl)⟩
    · refine WPe_bipush (pc := 26) (-11 : Int32) (dd dtX5_cell 13 rfl) (by decide) ?_
      exact WPe_ireturn (pc := 28) (dd dtX5_cell 14 rfl) rfl rfl ⟨(Nat.le_of_ble_eq_true rfl), (Nat.le_of_ble_eq_true rfl)⟩
theorem okf5_cell (x0 : Nat) (x1 : Int32) (x2 : Int32) (x3 : Int32) (w : Wd) : ∀ z, f5_cell x0 x1 x2 x3 w = some z → OkM mX5_cell 3 0 0 [vR x0, vI x1, vI x2, vI x3] w (rtI z.1) z.2 :=
  OkM.of (rt := rtI) moX5_cell (Nat.le_of_ble_eq_true rfl) (fun X => wpf5_cell X w x0 x1 x2 x3 w)
def tbX5_copy : List (Nat × Instr × Nat) := [(0, .iload_n 1, 1), (1, .invokestatic 209, 3), (4, .ifCond .eq 10, 3), (7, .iload_n 3, 1), (8, .invokestatic 209, 3), (11, .ifCond .ne 6, 3), (14, .bipush (-2), 2), (16, .ireturn, 1), (17, .aload_n 0, 1), (18, .getfield 60, 3), (21, .iload_n 1, 1), (22, .aaload, 1), (23, .astore 6, 2), (25, .aload_n 0, 1), (26, .getfield 60, 3), (29, .iload_n 3, 1), (30, .aaload, 1), (31, .astore 7, 2), (33, .aload 6, 2), (35, .invokevirtual 231, 3), (38, .ifCond .ne 11, 3), (41, .aload 7, 2), (43, .invokevirtual 231, 3), (46, .ifCond .eq 6, 3), (49, .bipush (-11), 2), (51, .ireturn, 1), (52, .aload 6, 2), (54, .getfield 238, 3), (57, .aload 7, 2), (59, .getfield 238, 3), (62, .if_icmp .eq 6, 3), (65, .bipush (-13), 2), (67, .ireturn, 1), (68, .aload 6, 2), (70, .iload_n 2, 1), (71, .iload 5, 2), (73, .invokevirtual 241, 3), (76, .ifCond .eq 15, 3), (79, .aload 7, 2), (81, .iload 4, 2), (83, .iload 5, 2), (85, .invokevirtual 241, 3), (88, .ifCond .ne 6, 3), (91, .bipush (-12), 2), (93, .ireturn, 1), (94, .aload 6, 2), (96, .getfield 244, 3), (99, .iload_n 2, 1), (100, .aload 7, 2), (102, .getfield 244, 3), (105, .iload 4, 2), (107, .iload 5, 2), (109, .invokestatic 248, 3), (112, .iload 5, 2), (114, .ireturn, 1)]
set_option maxRecDepth 20000 in
theorem dtX5_copy : ∀ x ∈ tbX5_copy, decode cX5_copy x.1 = .ok x.2 := by decide +kernel
noncomputable def f5_copy (x0 : Nat) (x1 : Int32) (x2 : Int32) (x3 : Int32) (x4 : Int32) (x5 : Int32) (w : Wd) : Option (Int32 × Wd) :=
  (f5_isSheet x1 w).bind fun z1 => (if z1.1 = (0 : Int32) then (some ((-2 : Int32), z1.2)) else ((f5_isSheet x3 z1.2).bind fun z5 => (if z5.1 = (0 : Int32) then (some ((-2 : Int32), z5.2)) else (ck (tg z5.2 x0 = 5) (ck (tg z5.2 (wr z5.2 x0 7) = 23 ∧ vp_in x1 (ln z5.2 (wr z5.2 x0 7))) (ck (vp_in x3 (ln z5.2 (wr z5.2 x0 7))) (ck (tg z5.2 (wr z5.2 (wr z5.2 x0 7) (x1).toNatClampNeg) = 2) ((f2_isMissing (wr z5.2 (wr z5.2 x0 7) (x1).toNatClampNeg) z5.2).bind fun z13 => (if z13.1 = (0 : Int32) then (ck (tg z13.2 (wr z5.2 (wr z5.2 x0 7) (x3).toNatClampNeg) = 2) ((f2_isMissing (wr z5.2 (wr z5.2 x0 7) (x3).toNatClampNeg) z13.2).bind fun z18 => (if z18.1 = (0 : Int32) then (if (wi z18.2 (wr z5.2 (wr z5.2 x0 7) (x1).toNatClampNeg) 0) = (wi z18.2 (wr z5.2 (wr z5.2 x0 7) (x3).toNatClampNeg) 0) then ((f2_hasPlaces (wr z5.2 (wr z5.2 x0 7) (x1).toNatClampNeg) x2 x5 z18.2).bind fun z23 => (if z23.1 = (0 : Int32) then (some ((-12 : Int32), z23.2)) else ((f2_hasPlaces (wr z5.2 (wr z5.2 x0 7) (x3).toNatClampNeg) x4 x5 z23.2).bind fun z27 => (if z27.1 = (0 : Int32) then (some ((-12 : Int32), z27.2)) else (ck (tg z27.2 (wr z27.2 (wr z5.2 (wr z5.2 x0 7) (x1).toNatClampNeg) 2) = 20) (ck (tg z27.2 (wr z27.2 (wr z5.2 (wr z5.2 x0 7) (x3).toNatClampNeg) 2) = 20) (ck (¬ x2 < 0 ∧ ¬ x4 < 0 ∧ ¬ x5 < 0 ∧ (x2).toNatClampNeg + (x5).toNatClampNeg ≤ (ln z27.2 (wr z27.2 (wr z5.2 (wr z5.2 x0 7) (x1).toNatClampNeg) 2)) ∧ (x4).toNatClampNeg + (x5).toNatClampNeg ≤ (ln z27.2 (wr z27.2 (wr z5.2 (wr z5.2 x0 7) (x3).toNatClampNeg) 2))) (lw (wC z27.2 (wr z27.2 (wr z5.2 (wr z5.2 x0 7) (x1).toNatClampNeg) 2) (x2).toNatClampNeg (wr z27.2 (wr z5.2 (wr z5.2 x0 7) (x3).toNatClampNeg) 2) (x4).toNatClampNeg (x5).toNatClampNeg) fun w34 => (some (x5, w34)))))))))) else (some ((-13 : Int32), z18.2))) else (some ((-11 : Int32), z18.2))))) else (some ((-11 : Int32), z13.2)))))))))))
theorem wpf5_copy (X : CX) (w0 : Wd) (x0 : Nat) (x1 : Int32) (x2 : Int32) (x3 : Int32) (x4 : Int32) (x5 : Int32) (w : Wd) : WPe rtI X (mX5_copy, 2, 0, 0, w0) 0 0 (f5_copy x0 x1 x2 x3 x4 x5 w) 0 [(0, vR x0), (1, vI x1), (2, vI x2), (3, vI x3), (4, vI x4), (5, vI x5)] [] w := by
  unfold f5_copy
  refine WPe_iload_n (pc := 0) 1 (dd dtX5_copy 0 rfl) rfl ?_
  refine WPe_callS (pc := 1) (rtc := rtI) (Mc := mX5_isSheet) (d' := 1) (mc' := 0) (ms' := 0) [vI x1] [] rfl (dd dtX5_copy 1 rfl) (okf5_isSheet x1 w) moX5_isSheet msX5_isSheet (bw_mem3 137 rfl rfl) rfl (Nat.le_of_ble_eq_true rfl) ⟨(Nat.le_of_ble_eq_true rfl), (Nat.le_of_ble_eq_true rfl)⟩ ⟨(Nat.le_of_ble_eq_true rfl), (Nat.le_of_ble_eq_true rfl)⟩ (fun z1 h2 e3 => ?_)
  refine WPe_st (st2 := [vI z1.1]) rfl ?_
  refine WPe_if_eq (pc := 4) 14 (dd dtX5_copy 2 rfl) (by decide) (fun h4 => ?_) (fun h4 => ?_)
  · refine WPe_bipush (pc := 14) (-2 : Int32) (dd dtX5_copy 6 rfl) (by decide) ?_
    exact WPe_ireturn (pc := 16) (dd dtX5_copy 7 rfl) rfl rfl ⟨(Nat.le_of_ble_eq_true rfl), (Nat.le_of_ble_eq_true rfl)⟩
  · refine WPe_iload_n (pc := 7) 3 (dd dtX5_copy 3 rfl) rfl ?_
    refine WPe_callS (pc := 8) (rtc := rtI) (Mc := mX5_isSheet) (d' := 1) (mc' := 0) (ms' := 0) [vI x3] [] rfl (dd dtX5_copy 4 rfl) (okf5_isSheet x3 z1.2) moX5_isSheet msX5_isSheet (bw_mem3 137 rfl rfl) rfl (Nat.le_of_ble_eq_true rfl) ⟨(Nat.le_of_ble_eq_true rfl), (Nat.le_of_ble_eq_true rfl)⟩ ⟨(Nat.le_of_ble_eq_true rfl), (Nat.le_of_ble_eq_true rfl)⟩ (fun z5 h6 e7 => ?_)
    refine WPe_st (st2 := [vI z5.1]) rfl ?_
    refine WPe_if_ne (pc := 11) 17 (dd dtX5_copy 5 rfl) (by decide) (fun h8 => ?_) (fun h8 => ?_)
    · refine WPe_bipush (pc := 14) (-2 : Int32) (dd dtX5_copy 6 rfl) (by decide) ?_
      exact WPe_ireturn (pc := 16) (dd dtX5_copy 7 rfl) rfl rfl ⟨(Nat.le_of_ble_eq_true rfl), (Nat.le_of_ble_eq_true rfl)⟩
    · refine WPe_aload_n (pc := 17) 0 (dd dtX5_copy 8 rfl) rfl ?_
      refine WPe_ck fun h9 => ?_
      refine WPe_getR (pc := 18) (t := 5) (C := RX5) (T := TX5) 7 (dd dtX5_copy 9 rfl) (shE h9) rfl (Nat.le_of_ble_eq_true rfl) rfl (bw_mem2 127 rfl rfl) ?_
      refine WPe_iload_n (pc := 21) 1 (dd dtX5_copy 10 rfl) rfl ?_
      refine WPe_ck fun h10 => ?_
      refine WPe_aald (pc := 22) (dd dtX5_copy 11 rfl) (shE h10.1) ⟨(Nat.le_of_ble_eq_true rfl), (Nat.le_of_ble_eq_true rfl)⟩ h10.2 ?_
      refine WPe_astore (pc := 23) (ls' := [(6, vR (wr z5.2 (wr z5.2 x0 7) (x1).toNatClampNeg)), (0, vR x0), (1, vI x1), (2, vI x2), (3, vI x3), (4, vI x4), (5, vI x5)]) (dd dtX5_copy 12 rfl) (Nat.le_of_ble_eq_true rfl) rfl ?_
      refine WPe_aload_n (pc := 25) 1 (dd dtX5_copy 13 rfl) rfl ?_
      refine WPe_getR (pc := 26) (t := 5) (C := RX5) (T := TX5) 7 (dd dtX5_copy 14 rfl) (shE h9) rfl (Nat.le_of_ble_eq_true rfl) rfl (bw_mem2 127 rfl rfl) ?_
      refine WPe_iload_n (pc := 29) 4 (dd dtX5_copy 15 rfl) rfl ?_
      refine WPe_ck fun h11 => ?_
      refine WPe_aald (pc := 30) (dd dtX5_copy 16 rfl) (shL (shE h10.1)) ⟨(Nat.le_of_ble_eq_true rfl), (Nat.le_of_ble_eq_true rfl)⟩ h11 ?_
      refine WPe_astore (pc := 31) (ls' := [(7, vR (wr z5.2 (wr z5.2 x0 7) (x3).toNatClampNeg)), (6, vR (wr z5.2 (wr z5.2 x0 7) (x1).toNatClampNeg)), (0, vR x0), (1, vI x1), (2, vI x2), (3, vI x3), (4, vI x4), (5, vI x5)]) (dd dtX5_copy 17 rfl) (Nat.le_of_ble_eq_true rfl) rfl ?_
      refine WPe_aload (pc := 33) 1 (dd dtX5_copy 18 rfl) rfl ?_
      refine WPe_ck fun h12 => ?_
      refine WPe_callV (pc := 35) (rtc := rtI) (Mc := mX2_isMissing) (d' := 1) (mc' := 0) (ms' := 0) [] [] rfl (dd dtX5_copy 19 rfl) (okf2_isMissing (wr z5.2 (wr z5.2 x0 7) (x1).toNatClampNeg) z5.2) moX2_isMissing miX2_isMissing (bw_mem3 140 rfl rfl) (Or.inl ⟨_, _, _, _, (shE h12), rfl⟩) rfl (Nat.le_of_ble_eq_true rfl) ⟨(Nat.le_of_ble_eq_true rfl), (Nat.le_of_ble_eq_true rfl)⟩ ⟨(Nat.le_of_ble_eq_true rfl), (Nat.le_of_ble_eq_true rfl)⟩ (fun z13 h14 e15 => ?_)
      refine WPe_st (st2 := [vI z13.1]) rfl ?_
      refine WPe_if_ne (pc := 38) 49 (dd dtX5_copy 20 rfl) (by decide) (fun h16 => ?_) (fun h16 => ?_)
      · refine WPe_aload (pc := 41) 0 (dd dtX5_copy 21 rfl) rfl ?_
        refine WPe_ck fun h17 => ?_
        refine WPe_callV (pc := 43) (rtc := rtI) (Mc := mX2_isMissing) (d' := 1) (mc' := 0) (ms' := 0) [] [] rfl (dd dtX5_copy 22 rfl) (okf2_isMissing (wr z5.2 (wr z5.2 x0 7) (x3).toNatClampNeg) z13.2) moX2_isMissing miX2_isMissing (bw_mem3 140 rfl rfl) (Or.inl ⟨_, _, _, _, (shE h17), rfl⟩) rfl (Nat.le_of_ble_eq_true rfl) ⟨(Nat.le_of_ble_eq_true rfl), (Nat.le_of_ble_eq_true rfl)⟩ ⟨(Nat.le_of_ble_eq_true rfl), (Nat.le_of_ble_eq_true rfl)⟩ (fun z18 h19 e20 => ?_)
        refine WPe_st (st2 := [vI z18.1]) rfl ?_
        refine WPe_if_eq (pc := 46) 52 (dd dtX5_copy 23 rfl) (by decide) (fun h21 => ?_) (fun h21 => ?_)
        · refine WPe_aload (pc := 52) 1 (dd dtX5_copy 26 rfl) rfl ?_
          refine WPe_getI (pc := 54) (t := 2) (C := RX2) (T := TX2) 0 (dd dtX5_copy 27 rfl) (e20.at (e15.at (shE h12) (by decide)) (by decide)) rfl (Nat.le_of_ble_eq_true rfl) rfl (bw_mem2 108 rfl rfl) ?_
          refine WPe_aload (pc := 57) 0 (dd dtX5_copy 28 rfl) rfl ?_
          refine WPe_getI (pc := 59) (t := 2) (C := RX2) (T := TX2) 0 (dd dtX5_copy 29 rfl) (e20.at (shE h17) (by decide)) rfl (Nat.le_of_ble_eq_true rfl) rfl (bw_mem2 108 rfl rfl) ?_
          refine WPe_icmp_eq (pc := 62) 68 (dd dtX5_copy 30 rfl) (by decide) (fun h22 => ?_) (fun h22 => ?_)
          · refine WPe_aload (pc := 68) 1 (dd dtX5_copy 33 rfl) rfl ?_
            refine WPe_iload_n (pc := 70) 4 (dd dtX5_copy 34 rfl) rfl ?_
            refine WPe_iload (pc := 71) 7 (dd dtX5_copy 35 rfl) rfl ?_
            refine WPe_callV (pc := 73) (rtc := rtI) (Mc := mX2_hasPlaces) (d' := 1) (mc' := 0) (ms' := 0) [vI x2, vI x5] [] rfl (dd dtX5_copy 36 rfl) (okf2_hasPlaces (wr z5.2 (wr z5.2 x0 7) (x1).toNatClampNeg) x2 x5 z18.2) moX2_hasPlaces miX2_hasPlaces (bw_mem3 224 rfl rfl) (Or.inl ⟨_, _, _, _, (e20.at (e15.at (shE h12) (by decide)) (by decide)), rfl⟩) rfl (Nat.le_of_ble_eq_true rfl) ⟨(Nat.le_of_ble_eq_true rfl), (Nat.le_of_ble_eq_true rfl)⟩ ⟨(Nat.le_of_ble_eq_true rfl), (Nat.le_of_ble_eq_true rfl)⟩ (fun z23 h24 e25 => ?_)
            refine WPe_st (st2 := [vI z23.1]) rfl ?_
            refine WPe_if_eq (pc := 76) 91 (dd dtX5_copy 37 rfl) (by decide) (fun h26 => ?_) (fun h26 => ?_)
            · refine WPe_bipush (pc := 91) (-12 : Int32) (dd dtX5_copy 43 rfl) (by decide) ?_
              exact WPe_ireturn (pc := 93) (dd dtX5_copy 44 rfl) rfl rfl ⟨(Nat.le_of_ble_eq_true rfl), (Nat.le_of_ble_eq_true rfl)⟩
            · refine WPe_aload (pc := 79) 0 (dd dtX5_copy 38 rfl) rfl ?_
              refine WPe_iload (pc := 81) 6 (dd dtX5_copy 39 rfl) rfl ?_
              refine WPe_iload (pc := 83) 7 (dd dtX5_copy 40 rfl) rfl ?_
              refine WPe_callV (pc := 85) (rtc := rtI) (Mc := mX2_hasPlaces) (d' := 1) (mc' := 0) (ms' := 0) [vI x4, vI x5] [] rfl (dd dtX5_copy 41 rfl) (okf2_hasPlaces (wr z5.2 (wr z5.2 x0 7) (x3).toNatClampNeg) x4 x5 z23.2) moX2_hasPlaces miX2_hasPlaces (bw_mem3 224 rfl rfl) (Or.inl ⟨_, _, _, _, (e25.at (e20.at (shE h17) (by decide)) (by decide)), rfl⟩) rfl (Nat.le_of_ble_eq_true rfl) ⟨(Nat.le_of_ble_eq_true rfl), (Nat.le_of_ble_eq_true rfl)⟩ ⟨(Nat.le_of_ble_eq_true rfl), (Nat.le_of_ble_eq_true rfl)⟩ (fun z27 h28 e29 => ?_)
              refine WPe_st (st2 := [vI z27.1]) rfl ?_
              refine WPe_if_ne (pc := 88) 94 (dd dtX5_copy 42 rfl) (by decide) (fun h30 => ?_) (fun h30 => ?_)
              · refine WPe_bipush (pc := 91) (-12 : Int32) (dd dtX5_copy 43 rfl) (by decide) ?_
                exact WPe_ireturn (pc := 93) (dd dtX5_copy 44 rfl) rfl rfl ⟨(Nat.le_of_ble_eq_true rfl), (Nat.le_of_ble_eq_true rfl)⟩
              · refine WPe_aload (pc := 94) 1 (dd dtX5_copy 45 rfl) rfl ?_
                refine WPe_getR (pc := 96) (t := 2) (C := RX2) (T := TX2) 2 (dd dtX5_copy 46 rfl) (e29.at (e25.at (e20.at (e15.at (shE h12) (by decide)) (by decide)) (by decide)) (by decide)) rfl (Nat.le_of_ble_eq_true rfl) rfl (bw_mem2 112 rfl rfl) ?_
                refine WPe_iload_n (pc := 99) 4 (dd dtX5_copy 47 rfl) rfl ?_
                refine WPe_aload (pc := 100) 0 (dd dtX5_copy 48 rfl) rfl ?_
                refine WPe_getR (pc := 102) (t := 2) (C := RX2) (T := TX2) 2 (dd dtX5_copy 49 rfl) (e29.at (e25.at (e20.at (shE h17) (by decide)) (by decide)) (by decide)) rfl (Nat.le_of_ble_eq_true rfl) rfl (bw_mem2 112 rfl rfl) ?_
                refine WPe_iload (pc := 105) 6 (dd dtX5_copy 50 rfl) rfl ?_
                refine WPe_iload (pc := 107) 7 (dd dtX5_copy 51 rfl) rfl ?_
                refine WPe_ck fun h31 => ?_
                refine WPe_ck fun h32 => ?_
                refine WPe_ck fun h33 => ?_
                refine WPe_acopy (pc := 109) (dd dtX5_copy 52 rfl) (bw_mem3 228 rfl rfl) ac2 ac3 ac4 (shL (shE h31)) (shL (shE h32)) h33.1 h33.2.1 h33.2.2.1 h33.2.2.2.1 h33.2.2.2.2 (Nat.le_of_ble_eq_true rfl) (Nat.le_of_ble_eq_true rfl) ?_
                refine WPe_lw fun w34 e35 => ?_
                refine WPe_iload (pc := 112) 7 (dd dtX5_copy 53 rfl) rfl ?_
                exact WPe_ireturn (pc := 114) (dd dtX5_copy 54 rfl) rfl rfl ⟨(Nat.le_of_ble_eq_true rfl), (Nat.le_of_ble_eq_true rfl)⟩
          · refine WPe_bipush (pc := 65) (-13 : Int32) (dd dtX5_copy 31 rfl) (by decide) ?_
            exact WPe_ireturn (pc := 67) (dd dtX5_copy 32 rfl) rfl rfl ⟨(Nat.le_of_ble_eq_true rfl), (Nat.le_of_ble_eq_true rfl)⟩
        · refine WPe_bipush (pc := 49) (-11 : Int32) (dd dtX5_copy 24 rfl) (by decide) ?_
          exact WPe_ireturn (pc := 51) (dd dtX5_copy 25 rfl) rfl rfl ⟨(Nat.le_of_ble_eq_true rfl), (Nat.le_of_ble_eq_true rfl)⟩
      · refine WPe_bipush (pc := 49) (-11 : Int32) (dd dtX5_copy 24 rfl) (by decide) ?_
        exact WPe_ireturn (pc := 51) (dd dtX5_copy 25 rfl) rfl rfl ⟨(Nat.le_of_ble_eq_true rfl), (Nat.le_of_ble_eq_true rfl)⟩
theorem okf5_copy (x0 : Nat) (x1 : Int32) (x2 : Int32) (x3 : Int32) (x4 : Int32) (x5 : Int32) (w : Wd) : ∀ z, f5_copy x0 x1 x2 x3 x4 x5 w = some z → OkM mX5_copy 2 0 0 [vR x0, vI x1, vI x2, vI x3, vI x4, vI x5] w (rtI z.1) z.2 :=
  OkM.of (rt := rtI) moX5_copy (Nat.le_of_ble_eq_true rfl) (fun X => wpf5_copy X w x0 x1 x2 x3 x4 x5 w)
def tbX5_bathersBy : List (Nat × Instr × Nat) := [(0, .iload_n 1, 1), (1, .invokestatic 209, 3), (4, .ifCond .eq 23, 3), (7, .iload_n 2, 1), (8, .iconst 0, 1), (9, .iconst 2, 1), (10, .invokestatic 111, 3), (13, .ifCond .eq 14, 3), (16, .iload 4, 2), (18, .iconst 0, 1), (19, .bipush 6, 2), (21, .invokestatic 111, 3), (24, .ifCond .ne 6, 3), (27, .bipush (-2), 2), (29, .ireturn, 1), (30, .aload_n 0, 1), (31, .getfield 60, 3), (34, .iload_n 1, 1), (35, .aaload, 1), (36, .astore 5, 2), (38, .aload 5, 2), (40, .invokevirtual 231, 3), (43, .ifCond .eq 6, 3), (46, .bipush (-11), 2), (48, .ireturn, 1), (49, .aload 5, 2), (51, .getfield 238, 3), (54, .iload_n 2, 1), (55, .if_icmp .eq 6, 3), (58, .bipush (-13), 2), (60, .ireturn, 1), (61, .iconst 0, 1), (62, .istore 6, 2), (64, .iload_n 3, 1), (65, .istore 7, 2), (67, .iconst 0, 1), (68, .istore 8, 2), (70, .iload 8, 2), (72, .iload 4, 2), (74, .if_icmp .ge 68, 3), (77, .aload 5, 2), (79, .iload 7, 2), (81, .invokevirtual 235, 3), (84, .ifCond .eq 15, 3), (87, .aload 5, 2), (89, .iload 7, 2), (91, .iconst 1, 1), (92, .iadd, 1), (93, .invokevirtual 235, 3), (96, .ifCond .ne 6, 3), (99, .bipush (-12), 2), (101, .ireturn, 1), (102, .aload_n 0, 1), (103, .getfield 48, 3), (106, .aload 5, 2), (108, .getfield 244, 3), (111, .iload 7, 2), (113, .iaload, 1), (114, .aload 5, 2), (116, .getfield 244, 3), (119, .iload 7, 2), (121, .iconst 1, 1), (122, .iadd, 1), (123, .iaload, 1), (124, .invokevirtual 126, 3), (127, .ifCond .lt 6, 3), (130, .iinc 6 1, 3), (133, .iinc 7 2, 3), (136, .iinc 8 1, 3), (139, .goto (-69), 3), (142, .iload 6, 2), (144, .ireturn, 1)]
set_option maxRecDepth 20000 in
theorem dtX5_bathersBy : ∀ x ∈ tbX5_bathersBy, decode cX5_bathersBy x.1 = .ok x.2 := by decide +kernel
noncomputable def j5_bathersBy_133 (k70 : Nat × Int32 × Nat × Int32 × Int32 × Int32 → Wd → Option (Int32 × Wd)) (x0 : Nat) (x4 : Int32) (x5 : Nat) (x6 : Int32) (x7 : Int32) (x8 : Int32) (w : Wd) : Option (Int32 × Wd) :=
  k70 (x0, x4, x5, x6, (x7 + (2 : Int32)), (x8 + (1 : Int32))) w
theorem wpj5_bathersBy_133 (X : CX) (w0 : Wd) (k70 : Nat × Int32 × Nat × Int32 × Int32 × Int32 → Wd → Option (Int32 × Wd)) (hk70 : ∀ (v : Nat × Int32 × Nat × Int32 × Int32 × Int32) (w : Wd), WPe rtI X (mX5_bathersBy, 2, 0, 0, w0) 0 0 (k70 v w) 70 [(0, vR v.1), (4, vI v.2.1), (5, vR v.2.2.1), (6, vI v.2.2.2.1), (7, vI v.2.2.2.2.1), (8, vI v.2.2.2.2.2)] [] w) (x0 : Nat) (x4 : Int32) (x5 : Nat) (x6 : Int32) (x7 : Int32) (x8 : Int32) (w : Wd) : WPe rtI X (mX5_bathersBy, 2, 0, 0, w0) 0 0 (j5_bathersBy_133 k70 x0 x4 x5 x6 x7 x8 w) 133 [(0, vR x0), (4, vI x4), (5, vR x5), (6, vI x6), (7, vI x7), (8, vI x8)] [] w := by
  unfold j5_bathersBy_133
  refine WPe_iinc (pc := 133) (ls' := [(7, vI (x7 + (2 : Int32))), (0, vR x0), (4, vI x4), (5, vR x5), (6, vI x6), (8, vI x8)]) 4 (x7 + (2 : Int32)) (dd dtX5_bathersBy 67 rfl) rfl (congrArg (HAdd.hAdd _) (by decide : Int32.ofInt (2) = (2 : Int32))) (Nat.le_of_ble_eq_true rfl) rfl ?_
  refine WPe_iinc (pc := 136) (ls' := [(8, vI (x8 + (1 : Int32))), (7, vI (x7 + (2 : Int32))), (0, vR x0), (4, vI x4), (5, vR x5), (6, vI x6)]) 5 (x8 + (1 : Int32)) (dd dtX5_bathersBy 68 rfl) rfl (congrArg (HAdd.hAdd _) (by decide : Int32.ofInt (1) = (1 : Int32))) (Nat.le_of_ble_eq_true rfl) rfl ?_
  refine WPe_goto (pc := 139) 70 (dd dtX5_bathersBy 69 rfl) (by decide) ?_
  refine WPe_sub [2, 3, 4, 5, 1, 0] rfl ?_
  exact hk70 (x0, x4, x5, x6, (x7 + (2 : Int32)), (x8 + (1 : Int32))) w
noncomputable def b5_bathersBy_70 (k70 : Nat × Int32 × Nat × Int32 × Int32 × Int32 → Wd → Option (Int32 × Wd)) (v : Nat × Int32 × Nat × Int32 × Int32 × Int32) (w : Wd) : Option (Int32 × Wd) :=
  if v.2.1 ≤ v.2.2.2.2.2 then (some (v.2.2.2.1, w)) else (ck (tg w v.2.2.1 = 2) ((f2_hasPlace v.2.2.1 v.2.2.2.2.1 w).bind fun z23 => (if z23.1 = (0 : Int32) then (some ((-12 : Int32), z23.2)) else ((f2_hasPlace v.2.2.1 (v.2.2.2.2.1 + (1 : Int32)) z23.2).bind fun z27 => (if z27.1 = (0 : Int32) then (some ((-12 : Int32), z27.2)) else (ck (tg z27.2 v.1 = 5) (ck (tg z27.2 (wr z27.2 v.2.2.1 2) = 20 ∧ vp_in v.2.2.2.2.1 (ln z27.2 (wr z27.2 v.2.2.1 2))) (ck (vp_in (v.2.2.2.2.1 + (1 : Int32)) (ln z27.2 (wr z27.2 v.2.2.1 2))) (ck (tg z27.2 (wr z27.2 v.1 3) = 1) ((f1_letIn (wr z27.2 v.1 3) (wi z27.2 (wr z27.2 v.2.2.1 2) (v.2.2.2.2.1).toNatClampNeg) (wi z27.2 (wr z27.2 v.2.2.1 2) ((v.2.2.2.2.1 + (1 : Int32))).toNatClampNeg) z27.2).bind fun z35 => (if z35.1 < (0 : Int32) then (j5_bathersBy_133 k70 v.1 v.2.1 v.2.2.1 v.2.2.2.1 v.2.2.2.2.1 v.2.2.2.2.2 z35.2) else (j5_bathersBy_133 k70 v.1 v.2.1 v.2.2.1 (v.2.2.2.1 + (1 : Int32)) v.2.2.2.2.1 v.2.2.2.2.2 z35.2))))))))))))
theorem wpb5_bathersBy_70 (X : CX) (w0 : Wd) (k70 : Nat × Int32 × Nat × Int32 × Int32 × Int32 → Wd → Option (Int32 × Wd)) (hk70 : ∀ (v : Nat × Int32 × Nat × Int32 × Int32 × Int32) (w : Wd), WPe rtI X (mX5_bathersBy, 2, 0, 0, w0) 0 0 (k70 v w) 70 [(0, vR v.1), (4, vI v.2.1), (5, vR v.2.2.1), (6, vI v.2.2.2.1), (7, vI v.2.2.2.2.1), (8, vI v.2.2.2.2.2)] [] w) (v : Nat × Int32 × Nat × Int32 × Int32 × Int32) (w : Wd) : WPe rtI X (mX5_bathersBy, 2, 0, 0, w0) 0 0 (b5_bathersBy_70 k70 v w) 70 [(0, vR v.1), (4, vI v.2.1), (5, vR v.2.2.1), (6, vI v.2.2.2.1), (7, vI v.2.2.2.2.1), (8, vI v.2.2.2.2.2)] [] w := by
  unfold b5_bathersBy_70
  refine WPe_iload (pc := 70) 5 (dd dtX5_bathersBy 37 rfl) rfl ?_
  refine WPe_iload (pc := 72) 1 (dd dtX5_bathersBy 38 rfl) rfl ?_
  refine WPe_icmp_ge (pc := 74) 142 (dd dtX5_bathersBy 39 rfl) (by decide) (fun h21 => ?_) (fun h21 => ?_)
  · refine WPe_iload (pc := 142) 3 (dd dtX5_bathersBy 70 rfl) rfl ?_
    exact WPe_ireturn (pc := 144) (dd dtX5_bathersBy 71 rfl) rfl rfl ⟨(Nat.le_of_ble_eq_true rfl), (Nat.le_of_ble_eq_true rfl)⟩
  · refine WPe_aload (pc := 77) 2 (dd dtX5_bathersBy 40 rfl) rfl ?_
    refine WPe_iload (pc := 79) 4 (dd dtX5_bathersBy 41 rfl) rfl ?_
    refine WPe_ck fun h22 => ?_
    refine WPe_callV (pc := 81) (rtc := rtI) (Mc := mX2_hasPlace) (d' := 1) (mc' := 0) (ms' := 0) [vI v.2.2.2.2.1] [] rfl (dd dtX5_bathersBy 42 rfl) (okf2_hasPlace v.2.2.1 v.2.2.2.2.1 w) moX2_hasPlace miX2_hasPlace (bw_mem3 219 rfl rfl) (Or.inl ⟨_, _, _, _, (shE h22), rfl⟩) rfl (Nat.le_of_ble_eq_true rfl) ⟨(Nat.le_of_ble_eq_true rfl), (Nat.le_of_ble_eq_true rfl)⟩ ⟨(Nat.le_of_ble_eq_true rfl), (Nat.le_of_ble_eq_true rfl)⟩ (fun z23 h24 e25 => ?_)
    refine WPe_st (st2 := [vI z23.1]) rfl ?_
    refine WPe_if_eq (pc := 84) 99 (dd dtX5_bathersBy 43 rfl) (by decide) (fun h26 => ?_) (fun h26 => ?_)
    · refine WPe_bipush (pc := 99) (-12 : Int32) (dd dtX5_bathersBy 50 rfl) (by decide) ?_
      exact WPe_ireturn (pc := 101) (dd dtX5_bathersBy 51 rfl) rfl rfl ⟨(Nat.le_of_ble_eq_true rfl), (Nat.le_of_ble_eq_true rfl)⟩
    · refine WPe_aload (pc := 87) 2 (dd dtX5_bathersBy 44 rfl) rfl ?_
      refine WPe_iload (pc := 89) 4 (dd dtX5_bathersBy 45 rfl) rfl ?_
      refine WPe_iconst (pc := 91) (1 : Int32) (dd dtX5_bathersBy 46 rfl) (by decide) ?_
      refine WPe_iadd (pc := 92) (dd dtX5_bathersBy 47 rfl) ?_
      refine WPe_callV (pc := 93) (rtc := rtI) (Mc := mX2_hasPlace) (d' := 1) (mc' := 0) (ms' := 0) [vI (v.2.2.2.2.1 + (1 : Int32))] [] rfl (dd dtX5_bathersBy 48 rfl) (okf2_hasPlace v.2.2.1 (v.2.2.2.2.1 + (1 : Int32)) z23.2) moX2_hasPlace miX2_hasPlace (bw_mem3 219 rfl rfl) (Or.inl ⟨_, _, _, _, (e25.at (shE h22) (by decide)), rfl⟩) rfl (Nat.le_of_ble_eq_true rfl) ⟨(Nat.le_of_ble_eq_true rfl), (Nat.le_of_ble_eq_true rfl)⟩ ⟨(Nat.le_of_ble_eq_true rfl), (Nat.le_of_ble_eq_true rfl)⟩ (fun z27 h28 e29 => ?_)
      refine WPe_st (st2 := [vI z27.1]) rfl ?_
      refine WPe_if_ne (pc := 96) 102 (dd dtX5_bathersBy 49 rfl) (by decide) (fun h30 => ?_) (fun h30 => ?_)
      · refine WPe_bipush (pc := 99) (-12 : Int32) (dd dtX5_bathersBy 50 rfl) (by decide) ?_
        exact WPe_ireturn (pc := 101) (dd dtX5_bathersBy 51 rfl) rfl rfl ⟨(Nat.le_of_ble_eq_true rfl), (Nat.le_of_ble_eq_true rfl)⟩
      · refine WPe_aload_n (pc := 102) 0 (dd dtX5_bathersBy 52 rfl) rfl ?_
        refine WPe_ck fun h31 => ?_
        refine WPe_getR (pc := 103) (t := 5) (C := RX5) (T := TX5) 3 (dd dtX5_bathersBy 53 rfl) (shE h31) rfl (Nat.le_of_ble_eq_true rfl) rfl (bw_mem2 123 rfl rfl) ?_
        refine WPe_aload (pc := 106) 2 (dd dtX5_bathersBy 54 rfl) rfl ?_
        refine WPe_getR (pc := 108) (t := 2) (C := RX2) (T := TX2) 2 (dd dtX5_bathersBy 55 rfl) (e29.at (e25.at (shE h22) (by decide)) (by decide)) rfl (Nat.le_of_ble_eq_true rfl) rfl (bw_mem2 112 rfl rfl) ?_
        refine WPe_iload (pc := 111) 4 (dd dtX5_bathersBy 56 rfl) rfl ?_
        refine WPe_ck fun h32 => ?_
        refine WPe_iald (pc := 113) (dd dtX5_bathersBy 57 rfl) (shE h32.1) h32.2 ?_
        refine WPe_aload (pc := 114) 2 (dd dtX5_bathersBy 58 rfl) rfl ?_
        refine WPe_getR (pc := 116) (t := 2) (C := RX2) (T := TX2) 2 (dd dtX5_bathersBy 59 rfl) (e29.at (e25.at (shE h22) (by decide)) (by decide)) rfl (Nat.le_of_ble_eq_true rfl) rfl (bw_mem2 112 rfl rfl) ?_
        refine WPe_iload (pc := 119) 4 (dd dtX5_bathersBy 60 rfl) rfl ?_
        refine WPe_iconst (pc := 121) (1 : Int32) (dd dtX5_bathersBy 61 rfl) (by decide) ?_
        refine WPe_iadd (pc := 122) (dd dtX5_bathersBy 62 rfl) ?_
        refine WPe_ck fun h33 => ?_
        refine WPe_iald (pc := 123) (dd dtX5_bathersBy 63 rfl) (shL (shE h32.1)) h33 ?_
        refine WPe_ck fun h34 => ?_
        refine WPe_callV (pc := 124) (rtc := rtI) (Mc := mX1_letIn) (d' := 1) (mc' := 0) (ms' := 0) [vI (wi z27.2 (wr z27.2 v.2.2.1 2) (v.2.2.2.2.1).toNatClampNeg), vI (wi z27.2 (wr z27.2 v.2.2.1 2) ((v.2.2.2.2.1 + (1 : Int32))).toNatClampNeg)] [] rfl (dd dtX5_bathersBy 64 rfl) (okf1_letIn (wr z27.2 v.1 3) (wi z27.2 (wr z27.2 v.2.2.1 2) (v.2.2.2.2.1).toNatClampNeg) (wi z27.2 (wr z27.2 v.2.2.1 2) ((v.2.2.2.2.1 + (1 : Int32))).toNatClampNeg) z27.2) moX1_letIn miX1_letIn (bw_mem2 219 rfl rfl) (Or.inl ⟨_, _, _, _, (shE h34), rfl⟩) rfl (Nat.le_of_ble_eq_true rfl) ⟨(Nat.le_of_ble_eq_true rfl), (Nat.le_of_ble_eq_true rfl)⟩ ⟨(Nat.le_of_ble_eq_true rfl), (Nat.le_of_ble_eq_true rfl)⟩ (fun z35 h36 e37 => ?_)
        refine WPe_st (st2 := [vI z35.1]) rfl ?_
        refine WPe_if_lt (pc := 127) 133 (dd dtX5_bathersBy 65 rfl) (by decide) (fun h38 => ?_) (fun h38 => ?_)
        · refine WPe_sub [0, 1, 2, 3, 4, 5] rfl ?_
          exact wpj5_bathersBy_133 X w0 k70 hk70 v.1 v.2.1 v.2.2.1 v.2.2.2.1 v.2.2.2.2.1 v.2.2.2.2.2 z35.2
        · refine WPe_iinc (pc := 130) (ls' := [(6, vI (v.2.2.2.1 + (1 : Int32))), (0, vR v.1), (4, vI v.2.1), (5, vR v.2.2.1), (7, vI v.2.2.2.2.1), (8, vI v.2.2.2.2.2)]) 3 (v.2.2.2.1 + (1 : Int32)) (dd dtX5_bathersBy 66 rfl) rfl (congrArg (HAdd.hAdd _) (by decide : Int32.ofInt (1) = (1 : Int32))) (Nat.le_of_ble_eq_true rfl) rfl ?_
          refine WPe_sub [1, 2, 3, 0, 4, 5] rfl ?_
          exact wpj5_bathersBy_133 X w0 k70 hk70 v.1 v.2.1 v.2.2.1 (v.2.2.2.1 + (1 : Int32)) v.2.2.2.2.1 v.2.2.2.2.2 z35.2
theorem wplb5_bathersBy_70 (X : CX) (w0 : Wd)  : ∀ (n9 : Nat) (v : Nat × Int32 × Nat × Int32 × Int32 × Int32) (w : Wd), WPe rtI X (mX5_bathersBy, 2, 0, 0, w0) 0 0 (loopF (b5_bathersBy_70 ) n9 v w) 70 [(0, vR v.1), (4, vI v.2.1), (5, vR v.2.2.1), (6, vI v.2.2.2.1), (7, vI v.2.2.2.2.1), (8, vI v.2.2.2.2.2)] [] w :=
  WPe_loop (rt := rtI) (X := X) (M := (mX5_bathersBy, 2, 0, 0, w0)) (fun v : Nat × Int32 × Nat × Int32 × Int32 × Int32 => [(0, vR v.1), (4, vI v.2.1), (5, vR v.2.2.1), (6, vI v.2.2.2.1), (7, vI v.2.2.2.2.1), (8, vI v.2.2.2.2.2)]) (fun k hk v w => wpb5_bathersBy_70 X w0  k hk v w)
noncomputable def f5_bathersBy (x0 : Nat) (x1 : Int32) (x2 : Int32) (x3 : Int32) (x4 : Int32) (w : Wd) : Option (Int32 × Wd) :=
  (f5_isSheet x1 w).bind fun z1 => (if z1.1 = (0 : Int32) then (some ((-2 : Int32), z1.2)) else ((f5_isWithin x2 (0 : Int32) (2 : Int32) z1.2).bind fun z5 => (if z5.1 = (0 : Int32) then (some ((-2 : Int32), z5.2)) else ((f5_isWithin x4 (0 : Int32) (6 : Int32) z5.2).bind fun z9 => (if z9.1 = (0 : Int32) then (some ((-2 : Int32), z9.2)) else (ck (tg z9.2 x0 = 5) (ck (tg z9.2 (wr z9.2 x0 7) = 23 ∧ vp_in x1 (ln z9.2 (wr z9.2 x0 7))) (ck (tg z9.2 (wr z9.2 (wr z9.2 x0 7) (x1).toNatClampNeg) = 2) ((f2_isMissing (wr z9.2 (wr z9.2 x0 7) (x1).toNatClampNeg) z9.2).bind fun z16 => (if z16.1 = (0 : Int32) then (if (wi z16.2 (wr z9.2 (wr z9.2 x0 7) (x1).toNatClampNeg) 0) = x2 then (loopF (b5_bathersBy_70) FU (x0, x4, (wr z9.2 (wr z9.2 x0 7) (x1).toNatClampNeg), (0 : Int32), x3, (0 : Int32)) z16.2) else (some ((-13 : Int32), z16.2))) else (some ((-11 : Int32), z16.2))))))))))))
theorem wpf5_bathersBy (X : CX) (w0 : Wd) (x0 : Nat) (x1 : Int32) (x2 : Int32) (x3 : Int32) (x4 : Int32) (w : Wd) : WPe rtI X (mX5_bathersBy, 2, 0, 0, w0) 0 0 (f5_bathersBy x0 x1 x2 x3 x4 w) 0 [(0, vR x0), (1, vI x1), (2, vI x2), (3, vI x3), (4, vI x4)] [] w := by
  unfold f5_bathersBy
  refine WPe_iload_n (pc := 0) 1 (dd dtX5_bathersBy 0 rfl) rfl ?_
  refine WPe_callS (pc := 1) (rtc := rtI) (Mc := mX5_isSheet) (d' := 1) (mc' := 0) (ms' := 0) [vI x1] [] rfl (dd dtX5_bathersBy 1 rfl) (okf5_isSheet x1 w) moX5_isSheet msX5_isSheet (bw_mem3 137 rfl rfl) rfl (Nat.le_of_ble_eq_true rfl) ⟨(Nat.le_of_ble_eq_true rfl), (Nat.le_of_ble_eq_true rfl)⟩ ⟨(Nat.le_of_ble_eq_true rfl), (Nat.le_of_ble_eq_true rfl)⟩ (fun z1 h2 e3 => ?_)
  refine WPe_st (st2 := [vI z1.1]) rfl ?_
  refine WPe_if_eq (pc := 4) 27 (dd dtX5_bathersBy 2 rfl) (by decide) (fun h4 => ?_) (fun h4 => ?_)
  · refine WPe_bipush (pc := 27) (-2 : Int32) (dd dtX5_bathersBy 13 rfl) (by decide) ?_
    exact WPe_ireturn (pc := 29) (dd dtX5_bathersBy 14 rfl) rfl rfl ⟨(Nat.le_of_ble_eq_true rfl), (Nat.le_of_ble_eq_true rfl)⟩
  · refine WPe_iload_n (pc := 7) 2 (dd dtX5_bathersBy 3 rfl) rfl ?_
    refine WPe_iconst (pc := 8) (0 : Int32) (dd dtX5_bathersBy 4 rfl) (by decide) ?_
    refine WPe_iconst (pc := 9) (2 : Int32) (dd dtX5_bathersBy 5 rfl) (by decide) ?_
    refine WPe_callS (pc := 10) (rtc := rtI) (Mc := mX5_isWithin) (d' := 1) (mc' := 0) (ms' := 0) [vI x2, vI (0 : Int32), vI (2 : Int32)] [] rfl (dd dtX5_bathersBy 6 rfl) (okf5_isWithin x2 (0 : Int32) (2 : Int32) z1.2) moX5_isWithin msX5_isWithin (bw_mem2 176 rfl rfl) rfl (Nat.le_of_ble_eq_true rfl) ⟨(Nat.le_of_ble_eq_true rfl), (Nat.le_of_ble_eq_true rfl)⟩ ⟨(Nat.le_of_ble_eq_true rfl), (Nat.le_of_ble_eq_true rfl)⟩ (fun z5 h6 e7 => ?_)
    refine WPe_st (st2 := [vI z5.1]) rfl ?_
    refine WPe_if_eq (pc := 13) 27 (dd dtX5_bathersBy 7 rfl) (by decide) (fun h8 => ?_) (fun h8 => ?_)
    · refine WPe_bipush (pc := 27) (-2 : Int32) (dd dtX5_bathersBy 13 rfl) (by decide) ?_
      exact WPe_ireturn (pc := 29) (dd dtX5_bathersBy 14 rfl) rfl rfl ⟨(Nat.le_of_ble_eq_true rfl), (Nat.le_of_ble_eq_true rfl)⟩
    · refine WPe_iload (pc := 16) 4 (dd dtX5_bathersBy 8 rfl) rfl ?_
      refine WPe_iconst (pc := 18) (0 : Int32) (dd dtX5_bathersBy 9 rfl) (by decide) ?_
      refine WPe_bipush (pc := 19) (6 : Int32) (dd dtX5_bathersBy 10 rfl) (by decide) ?_
      refine WPe_callS (pc := 21) (rtc := rtI) (Mc := mX5_isWithin) (d' := 1) (mc' := 0) (ms' := 0) [vI x4, vI (0 : Int32), vI (6 : Int32)] [] rfl (dd dtX5_bathersBy 11 rfl) (okf5_isWithin x4 (0 : Int32) (6 : Int32) z5.2) moX5_isWithin msX5_isWithin (bw_mem2 176 rfl rfl) rfl (Nat.le_of_ble_eq_true rfl) ⟨(Nat.le_of_ble_eq_true rfl), (Nat.le_of_ble_eq_true rfl)⟩ ⟨(Nat.le_of_ble_eq_true rfl), (Nat.le_of_ble_eq_true rfl)⟩ (fun z9 h10 e11 => ?_)
      refine WPe_st (st2 := [vI z9.1]) rfl ?_
      refine WPe_if_ne (pc := 24) 30 (dd dtX5_bathersBy 12 rfl) (by decide) (fun h12 => ?_) (fun h12 => ?_)
      · refine WPe_bipush (pc := 27) (-2 : Int32) (dd dtX5_bathersBy 13 rfl) (by decide) ?_
        exact WPe_ireturn (pc := 29) (dd dtX5_bathersBy 14 rfl) rfl rfl ⟨(Nat.le_of_ble_eq_true rfl), (Nat.le_of_ble_eq_true rfl)⟩
      · refine WPe_aload_n (pc := 30) 0 (dd dtX5_bathersBy 15 rfl) rfl ?_
        refine WPe_ck fun h13 => ?_
        refine WPe_getR (pc := 31) (t := 5) (C := RX5) (T := TX5) 7 (dd dtX5_bathersBy 16 rfl) (shE h13) rfl (Nat.le_of_ble_eq_true rfl) rfl (bw_mem2 127 rfl rfl) ?_
        refine WPe_iload_n (pc := 34) 1 (dd dtX5_bathersBy 17 rfl) rfl ?_
        refine WPe_ck fun h14 => ?_
        refine WPe_aald (pc := 35) (dd dtX5_bathersBy 18 rfl) (shE h14.1) ⟨(Nat.le_of_ble_eq_true rfl), (Nat.le_of_ble_eq_true rfl)⟩ h14.2 ?_
        refine WPe_astore (pc := 36) (ls' := [(5, vR (wr z9.2 (wr z9.2 x0 7) (x1).toNatClampNeg)), (0, vR x0), (1, vI x1), (2, vI x2), (3, vI x3), (4, vI x4)]) (dd dtX5_bathersBy 19 rfl) (Nat.le_of_ble_eq_true rfl) rfl ?_
        refine WPe_aload (pc := 38) 0 (dd dtX5_bathersBy 20 rfl) rfl ?_
        refine WPe_ck fun h15 => ?_
        refine WPe_callV (pc := 40) (rtc := rtI) (Mc := mX2_isMissing) (d' := 1) (mc' := 0) (ms' := 0) [] [] rfl (dd dtX5_bathersBy 21 rfl) (okf2_isMissing (wr z9.2 (wr z9.2 x0 7) (x1).toNatClampNeg) z9.2) moX2_isMissing miX2_isMissing (bw_mem3 140 rfl rfl) (Or.inl ⟨_, _, _, _, (shE h15), rfl⟩) rfl (Nat.le_of_ble_eq_true rfl) ⟨(Nat.le_of_ble_eq_true rfl), (Nat.le_of_ble_eq_true rfl)⟩ ⟨(Nat.le_of_ble_eq_true rfl), (Nat.le_of_ble_eq_true rfl)⟩ (fun z16 h17 e18 => ?_)
        refine WPe_st (st2 := [vI z16.1]) rfl ?_
        refine WPe_if_eq (pc := 43) 49 (dd dtX5_bathersBy 22 rfl) (by decide) (fun h19 => ?_) (fun h19 => ?_)
        · refine WPe_aload (pc := 49) 0 (dd dtX5_bathersBy 25 rfl) rfl ?_
          refine WPe_getI (pc := 51) (t := 2) (C := RX2) (T := TX2) 0 (dd dtX5_bathersBy 26 rfl) (e18.at (shE h15) (by decide)) rfl (Nat.le_of_ble_eq_true rfl) rfl (bw_mem2 108 rfl rfl) ?_
          refine WPe_iload_n (pc := 54) 3 (dd dtX5_bathersBy 27 rfl) rfl ?_
          refine WPe_icmp_eq (pc := 55) 61 (dd dtX5_bathersBy 28 rfl) (by decide) (fun h20 => ?_) (fun h20 => ?_)
          · refine WPe_iconst (pc := 61) (0 : Int32) (dd dtX5_bathersBy 31 rfl) (by decide) ?_
            refine WPe_istore (pc := 62) (ls' := [(6, vI (0 : Int32)), (5, vR (wr z9.2 (wr z9.2 x0 7) (x1).toNatClampNeg)), (0, vR x0), (1, vI x1), (2, vI x2), (3, vI x3), (4, vI x4)]) (dd dtX5_bathersBy 32 rfl) (Nat.le_of_ble_eq_true rfl) rfl ?_
            refine WPe_iload_n (pc := 64) 5 (dd dtX5_bathersBy 33 rfl) rfl ?_
            refine WPe_istore (pc := 65) (ls' := [(7, vI x3), (6, vI (0 : Int32)), (5, vR (wr z9.2 (wr z9.2 x0 7) (x1).toNatClampNeg)), (0, vR x0), (1, vI x1), (2, vI x2), (3, vI x3), (4, vI x4)]) (dd dtX5_bathersBy 34 rfl) (Nat.le_of_ble_eq_true rfl) rfl ?_
            refine WPe_iconst (pc := 67) (0 : Int32) (dd dtX5_bathersBy 35 rfl) (by decide) ?_
            refine WPe_istore (pc := 68) (ls' := [(8, vI (0 : Int32)), (7, vI x3), (6, vI (0 : Int32)), (5, vR (wr z9.2 (wr z9.2 x0 7) (x1).toNatClampNeg)), (0, vR x0), (1, vI x1), (2, vI x2), (3, vI x3), (4, vI x4)]) (dd dtX5_bathersBy 36 rfl) (Nat.le_of_ble_eq_true rfl) rfl ?_
            refine WPe_sub [4, 8, 3, 2, 1, 0] rfl ?_
            exact wplb5_bathersBy_70 X w0  FU _ _
          · refine WPe_bipush (pc := 58) (-13 : Int32) (dd dtX5_bathersBy 29 rfl) (by decide) ?_
            exact WPe_ireturn (pc := 60) (dd dtX5_bathersBy 30 rfl) rfl rfl ⟨(Nat.le_of_ble_eq_true rfl), (Nat.le_of_ble_eq_true rfl)⟩
        · refine WPe_bipush (pc := 46) (-11 : Int32) (dd dtX5_bathersBy 23 rfl) (by decide) ?_
          exact WPe_ireturn (pc := 48) (dd dtX5_bathersBy 24 rfl) rfl rfl ⟨(Nat.le_of_ble_eq_true rfl), (Nat.le_of_ble_eq_true rfl)⟩
theorem okf5_bathersBy (x0 : Nat) (x1 : Int32) (x2 : Int32) (x3 : Int32) (x4 : Int32) (w : Wd) : ∀ z, f5_bathersBy x0 x1 x2 x3 x4 w = some z → OkM mX5_bathersBy 2 0 0 [vR x0, vI x1, vI x2, vI x3, vI x4] w (rtI z.1) z.2 :=
  OkM.of (rt := rtI) moX5_bathersBy (Nat.le_of_ble_eq_true rfl) (fun X => wpf5_bathersBy X w x0 x1 x2 x3 x4 w)
def tbX5_isOf : List (Nat × Instr × Nat) := [(0, .iload_n 1, 1), (1, .ifCond .eq 28, 3), (4, .iload_n 0, 1), (5, .iload_n 1, 1), (6, .if_icmp .eq 23, 3), (9, .iload_n 0, 1), (10, .iconst 3, 1), (11, .if_icmp .ne 8, 3), (14, .iload_n 1, 1), (15, .iconst 1, 1), (16, .if_icmp .eq 13, 3), (19, .iload_n 0, 1), (20, .iconst 4, 1), (21, .if_icmp .ne 12, 3), (24, .iload_n 1, 1), (25, .iconst 2, 1), (26, .if_icmp .ne 7, 3), (29, .iconst 1, 1), (30, .goto 4, 3), (33, .iconst 0, 1), (34, .ireturn, 1)]
set_option maxRecDepth 20000 in
theorem dtX5_isOf : ∀ x ∈ tbX5_isOf, decode cX5_isOf x.1 = .ok x.2 := by decide +kernel
noncomputable def j5_isOf_19  (x0 : Int32) (x1 : Int32) (w : Wd) : Option (Int32 × Wd) :=
  if x0 = (4 : Int32) then (if x1 = (2 : Int32) then (some ((1 : Int32), w)) else (some ((0 : Int32), w))) else (some ((0 : Int32), w))
theorem wpj5_isOf_19 (X : CX) (w0 : Wd)  (x0 : Int32) (x1 : Int32) (w : Wd) : WPe rtI X (mX5_isOf, 1, 0, 0, w0) 0 0 (j5_isOf_19  x0 x1 w) 19 [(0, vI x0), (1, vI x1)] [] w := by
  unfold j5_isOf_19
  refine WPe_iload_n (pc := 19) 0 (dd dtX5_isOf 11 rfl) rfl ?_
  refine WPe_iconst (pc := 20) (4 : Int32) (dd dtX5_isOf 12 rfl) (by decide) ?_
  refine WPe_icmp_ne (pc := 21) 33 (dd dtX5_isOf 13 rfl) (by decide) (fun h5 => ?_) (fun h5 => ?_)
  · refine WPe_iload_n (pc := 24) 1 (dd dtX5_isOf 14 rfl) rfl ?_
    refine WPe_iconst (pc := 25) (2 : Int32) (dd dtX5_isOf 15 rfl) (by decide) ?_
    refine WPe_icmp_ne (pc := 26) 33 (dd dtX5_isOf 16 rfl) (by decide) (fun h6 => ?_) (fun h6 => ?_)
    · refine WPe_iconst (pc := 29) (1 : Int32) (dd dtX5_isOf 17 rfl) (by decide) ?_
      refine WPe_goto (pc := 30) 34 (dd dtX5_isOf 18 rfl) (by decide) ?_
      exact WPe_zreturn (pc := 34) (ty := .boolean) (dd dtX5_isOf 20 rfl) rfl rfl rfl ⟨(Nat.le_of_ble_eq_true rfl), (Nat.le_of_ble_eq_true rfl)⟩
    · refine WPe_iconst (pc := 33) (0 : Int32) (dd dtX5_isOf 19 rfl) (by decide) ?_
      exact WPe_zreturn (pc := 34) (ty := .boolean) (dd dtX5_isOf 20 rfl) rfl rfl rfl ⟨(Nat.le_of_ble_eq_true rfl), (Nat.le_of_ble_eq_true rfl)⟩
  · refine WPe_iconst (pc := 33) (0 : Int32) (dd dtX5_isOf 19 rfl) (by decide) ?_
    exact WPe_zreturn (pc := 34) (ty := .boolean) (dd dtX5_isOf 20 rfl) rfl rfl rfl ⟨(Nat.le_of_ble_eq_true rfl), (Nat.le_of_ble_eq_true rfl)⟩
noncomputable def f5_isOf (x0 : Int32) (x1 : Int32) (w : Wd) : Option (Int32 × Wd) :=
  if x1 = (0 : Int32) then (some ((1 : Int32), w)) else (if x0 = x1 then (some ((1 : Int32), w)) else (if x0 = (3 : Int32) then (if x1 = (1 : Int32) then (some ((1 : Int32), w)) else (j5_isOf_19 x0 x1 w)) else (j5_isOf_19 x0 x1 w)))
theorem wpf5_isOf (X : CX) (w0 : Wd) (x0 : Int32) (x1 : Int32) (w : Wd) : WPe rtI X (mX5_isOf, 1, 0, 0, w0) 0 0 (f5_isOf x0 x1 w) 0 [(0, vI x0), (1, vI x1)] [] w := by
  unfold f5_isOf
  refine WPe_iload_n (pc := 0) 1 (dd dtX5_isOf 0 rfl) rfl ?_
  refine WPe_if_eq (pc := 1) 29 (dd dtX5_isOf 1 rfl) (by decide) (fun h1 => ?_) (fun h1 => ?_)
  · refine WPe_iconst (pc := 29) (1 : Int32) (dd dtX5_isOf 17 rfl) (by decide) ?_
    refine WPe_goto (pc := 30) 34 (dd dtX5_isOf 18 rfl) (by decide) ?_
    exact WPe_zreturn (pc := 34) (ty := .boolean) (dd dtX5_isOf 20 rfl) rfl rfl rfl ⟨(Nat.le_of_ble_eq_true rfl), (Nat.le_of_ble_eq_true rfl)⟩
  · refine WPe_iload_n (pc := 4) 0 (dd dtX5_isOf 2 rfl) rfl ?_
    refine WPe_iload_n (pc := 5) 1 (dd dtX5_isOf 3 rfl) rfl ?_
    refine WPe_icmp_eq (pc := 6) 29 (dd dtX5_isOf 4 rfl) (by decide) (fun h2 => ?_) (fun h2 => ?_)
    · refine WPe_iconst (pc := 29) (1 : Int32) (dd dtX5_isOf 17 rfl) (by decide) ?_
      refine WPe_goto (pc := 30) 34 (dd dtX5_isOf 18 rfl) (by decide) ?_
      exact WPe_zreturn (pc := 34) (ty := .boolean) (dd dtX5_isOf 20 rfl) rfl rfl rfl ⟨(Nat.le_of_ble_eq_true rfl), (Nat.le_of_ble_eq_true rfl)⟩
    · refine WPe_iload_n (pc := 9) 0 (dd dtX5_isOf 5 rfl) rfl ?_
      refine WPe_iconst (pc := 10) (3 : Int32) (dd dtX5_isOf 6 rfl) (by decide) ?_
      refine WPe_icmp_ne (pc := 11) 19 (dd dtX5_isOf 7 rfl) (by decide) (fun h3 => ?_) (fun h3 => ?_)
      · refine WPe_iload_n (pc := 14) 1 (dd dtX5_isOf 8 rfl) rfl ?_
        refine WPe_iconst (pc := 15) (1 : Int32) (dd dtX5_isOf 9 rfl) (by decide) ?_
        refine WPe_icmp_eq (pc := 16) 29 (dd dtX5_isOf 10 rfl) (by decide) (fun h4 => ?_) (fun h4 => ?_)
        · refine WPe_iconst (pc := 29) (1 : Int32) (dd dtX5_isOf 17 rfl) (by decide) ?_
          refine WPe_goto (pc := 30) 34 (dd dtX5_isOf 18 rfl) (by decide) ?_
          exact WPe_zreturn (pc := 34) (ty := .boolean) (dd dtX5_isOf 20 rfl) rfl rfl rfl ⟨(Nat.le_of_ble_eq_true rfl), (Nat.le_of_ble_eq_true rfl)⟩
        · refine WPe_sub [0, 1] rfl ?_
          exact wpj5_isOf_19 X w0  x0 x1 w
      · refine WPe_sub [0, 1] rfl ?_
        exact wpj5_isOf_19 X w0  x0 x1 w
theorem okf5_isOf (x0 : Int32) (x1 : Int32) (w : Wd) : ∀ z, f5_isOf x0 x1 w = some z → OkM mX5_isOf 1 0 0 [vI x0, vI x1] w (rtI z.1) z.2 :=
  OkM.of (rt := rtI) moX5_isOf (Nat.le_of_ble_eq_true rfl) (fun X => wpf5_isOf X w x0 x1 w)
def tbX5_taken : List (Nat × Instr × Nat) := [(0, .iload_n 2, 1), (1, .iconst 0, 1), (2, .bipush 6, 2), (4, .invokestatic 111, 3), (7, .ifCond .ne 6, 3), (10, .bipush (-2), 2), (12, .ireturn, 1), (13, .iload_n 1, 1), (14, .iconst 0, 1), (15, .bipush 11, 2), (17, .invokestatic 111, 3), (20, .ifCond .ne 6, 3), (23, .bipush (-12), 2), (25, .ireturn, 1), (26, .iload_n 1, 1), (27, .bipush 6, 2), (29, .irem, 1), (30, .istore_n 3, 1), (31, .aload_n 0, 1), (32, .getfield 48, 3), (35, .iload_n 3, 1), (36, .invokevirtual 115, 3), (39, .ifCond .ne 6, 3), (42, .bipush (-11), 2), (44, .ireturn, 1), (45, .iload_n 1, 1), (46, .bipush 6, 2), (48, .if_icmp .lt 27, 3), (51, .iload_n 2, 1), (52, .bipush 6, 2), (54, .if_icmp .ne 18, 3), (57, .aload_n 0, 1), (58, .getfield 48, 3), (61, .getfield 118, 3), (64, .iload_n 3, 1), (65, .aaload, 1), (66, .getfield 138, 3), (69, .goto 5, 3), (72, .bipush (-13), 2), (74, .ireturn, 1), (75, .iload_n 2, 1), (76, .bipush 6, 2), (78, .if_icmp .eq 26, 3), (81, .aload_n 0, 1), (82, .getfield 48, 3), (85, .getfield 118, 3), (88, .iload_n 3, 1), (89, .aaload, 1), (90, .getfield 144, 3), (93, .iload_n 2, 1), (94, .invokestatic 254, 3), (97, .ifCond .eq 7, 3), (100, .iload_n 3, 1), (101, .goto 5, 3), (104, .bipush (-13), 2), (106, .ireturn, 1)]
set_option maxRecDepth 20000 in
theorem dtX5_taken : ∀ x ∈ tbX5_taken, decode cX5_taken x.1 = .ok x.2 := by decide +kernel
noncomputable def f5_taken (x0 : Nat) (x1 : Int32) (x2 : Int32) (w : Wd) : Option (Int32 × Wd) :=
  (f5_isWithin x2 (0 : Int32) (6 : Int32) w).bind fun z1 => (if z1.1 = (0 : Int32) then (some ((-2 : Int32), z1.2)) else ((f5_isWithin x1 (0 : Int32) (11 : Int32) z1.2).bind fun z5 => (if z5.1 = (0 : Int32) then (some ((-12 : Int32), z5.2)) else (ck (tg z5.2 x0 = 5) (ck (tg z5.2 (wr z5.2 x0 3) = 1) ((f1_has (wr z5.2 x0 3) (x1 - x1 / (6 : Int32) * (6 : Int32)) z5.2).bind fun z11 => (if z11.1 = (0 : Int32) then (some ((-11 : Int32), z11.2)) else (if x1 < (6 : Int32) then (if x2 = (6 : Int32) then (some ((-13 : Int32), z11.2)) else (ck (tg z11.2 (wr z11.2 x0 3) = 1) (ck (tg z11.2 (wr z11.2 (wr z11.2 x0 3) 6) = 22 ∧ vp_in (x1 - x1 / (6 : Int32) * (6 : Int32)) (ln z11.2 (wr z11.2 (wr z11.2 x0 3) 6))) (ck (tg z11.2 (wr z11.2 (wr z11.2 (wr z11.2 x0 3) 6) ((x1 - x1 / (6 : Int32) * (6 : Int32))).toNatClampNeg) = 0) ((f5_isOf (wi z11.2 (wr z11.2 (wr z11.2 (wr z11.2 x0 3) 6) ((x1 - x1 / (6 : Int32) * (6 : Int32))).toNatClampNeg) 0) x2 z11.2).bind fun z20 => (if z20.1 = (0 : Int32) then (some ((-13 : Int32), z20.2)) else (some ((x1 - x1 / (6 : Int32) * (6 : Int32)), z20.2)))))))) else (if x2 = (6 : Int32) then (ck (tg z11.2 (wr z11.2 x0 3) = 1) (ck (tg z11.2 (wr z11.2 (wr z11.2 x0 3) 6) = 22 ∧ vp_in (x1 - x1 / (6 : Int32) * (6 : Int32)) (ln z11.2 (wr z11.2 (wr z11.2 x0 3) 6))) (ck (tg z11.2 (wr z11.2 (wr z11.2 (wr z11.2 x0 3) 6) ((x1 - x1 / (6 : Int32) * (6 : Int32))).toNatClampNeg) = 0) (some ((wi z11.2 (wr z11.2 (wr z11.2 (wr z11.2 x0 3) 6) ((x1 - x1 / (6 : Int32) * (6 : Int32))).toNatClampNeg) 3), z11.2))))) else (some ((-13 : Int32), z11.2)))))))))))
theorem wpf5_taken (X : CX) (w0 : Wd) (x0 : Nat) (x1 : Int32) (x2 : Int32) (w : Wd) : WPe rtI X (mX5_taken, 2, 0, 0, w0) 0 0 (f5_taken x0 x1 x2 w) 0 [(0, vR x0), (1, vI x1), (2, vI x2)] [] w := by
  unfold f5_taken
  refine WPe_iload_n (pc := 0) 2 (dd dtX5_taken 0 rfl) rfl ?_
  refine WPe_iconst (pc := 1) (0 : Int32) (dd dtX5_taken 1 rfl) (by decide) ?_
  refine WPe_bipush (pc := 2) (6 : Int32) (dd dtX5_taken 2 rfl) (by decide) ?_
  refine WPe_callS (pc := 4) (rtc := rtI) (Mc := mX5_isWithin) (d' := 1) (mc' := 0) (ms' := 0) [vI x2, vI (0 : Int32), vI (6 : Int32)] [] rfl (dd dtX5_taken 3 rfl) (okf5_isWithin x2 (0 : Int32) (6 : Int32) w) moX5_isWithin msX5_isWithin (bw_mem2 176 rfl rfl) rfl (Nat.le_of_ble_eq_true rfl) ⟨(Nat.le_of_ble_eq_true rfl), (Nat.le_of_ble_eq_true rfl)⟩ ⟨(Nat.le_of_ble_eq_true rfl), (Nat.le_of_ble_eq_true rfl)⟩ (fun z1 h2 e3 => ?_)
  refine WPe_st (st2 := [vI z1.1]) rfl ?_
  refine WPe_if_ne (pc := 7) 13 (dd dtX5_taken 4 rfl) (by decide) (fun h4 => ?_) (fun h4 => ?_)
  · refine WPe_bipush (pc := 10) (-2 : Int32) (dd dtX5_taken 5 rfl) (by decide) ?_
    exact WPe_ireturn (pc := 12) (dd dtX5_taken 6 rfl) rfl rfl ⟨(Nat.le_of_ble_eq_true rfl), (Nat.le_of_ble_eq_true rfl)⟩
  · refine WPe_iload_n (pc := 13) 1 (dd dtX5_taken 7 rfl) rfl ?_
    refine WPe_iconst (pc := 14) (0 : Int32) (dd dtX5_taken 8 rfl) (by decide) ?_
    refine WPe_bipush (pc := 15) (11 : Int32) (dd dtX5_taken 9 rfl) (by decide) ?_
    refine WPe_callS (pc := 17) (rtc := rtI) (Mc := mX5_isWithin) (d' := 1) (mc' := 0) (ms' := 0) [vI x1, vI (0 : Int32), vI (11 : Int32)] [] rfl (dd dtX5_taken 10 rfl) (okf5_isWithin x1 (0 : Int32) (11 : Int32) z1.2) moX5_isWithin msX5_isWithin (bw_mem2 176 rfl rfl) rfl (Nat.le_of_ble_eq_true rfl) ⟨(Nat.le_of_ble_eq_true rfl), (Nat.le_of_ble_eq_true rfl)⟩ ⟨(Nat.le_of_ble_eq_true rfl), (Nat.le_of_ble_eq_true rfl)⟩ (fun z5 h6 e7 => ?_)
    refine WPe_st (st2 := [vI z5.1]) rfl ?_
    refine WPe_if_ne (pc := 20) 26 (dd dtX5_taken 11 rfl) (by decide) (fun h8 => ?_) (fun h8 => ?_)
    · refine WPe_bipush (pc := 23) (-12 : Int32) (dd dtX5_taken 12 rfl) (by decide) ?_
      exact WPe_ireturn (pc := 25) (dd dtX5_taken 13 rfl) rfl rfl ⟨(Nat.le_of_ble_eq_true rfl), (Nat.le_of_ble_eq_true rfl)⟩
    · refine WPe_iload_n (pc := 26) 1 (dd dtX5_taken 14 rfl) rfl ?_
      refine WPe_bipush (pc := 27) (6 : Int32) (dd dtX5_taken 15 rfl) (by decide) ?_
      refine WPe_irem (pc := 29) (dd dtX5_taken 16 rfl) (by decide) ?_
      refine WPe_istore_n (pc := 30) (ls' := [(3, vI (x1 - x1 / (6 : Int32) * (6 : Int32))), (0, vR x0), (1, vI x1), (2, vI x2)]) (dd dtX5_taken 17 rfl) (Nat.le_of_ble_eq_true rfl) rfl ?_
      refine WPe_aload_n (pc := 31) 1 (dd dtX5_taken 18 rfl) rfl ?_
      refine WPe_ck fun h9 => ?_
      refine WPe_getR (pc := 32) (t := 5) (C := RX5) (T := TX5) 3 (dd dtX5_taken 19 rfl) (shE h9) rfl (Nat.le_of_ble_eq_true rfl) rfl (bw_mem2 123 rfl rfl) ?_
      refine WPe_iload_n (pc := 35) 0 (dd dtX5_taken 20 rfl) rfl ?_
      refine WPe_ck fun h10 => ?_
      refine WPe_callV (pc := 36) (rtc := rtI) (Mc := mX1_has) (d' := 1) (mc' := 0) (ms' := 0) [vI (x1 - x1 / (6 : Int32) * (6 : Int32))] [] rfl (dd dtX5_taken 21 rfl) (okf1_has (wr z5.2 x0 3) (x1 - x1 / (6 : Int32) * (6 : Int32)) z5.2) moX1_has miX1_has (bw_mem2 193 rfl rfl) (Or.inl ⟨_, _, _, _, (shE h10), rfl⟩) rfl (Nat.le_of_ble_eq_true rfl) ⟨(Nat.le_of_ble_eq_true rfl), (Nat.le_of_ble_eq_true rfl)⟩ ⟨(Nat.le_of_ble_eq_true rfl), (Nat.le_of_ble_eq_true rfl)⟩ (fun z11 h12 e13 => ?_)
      refine WPe_st (st2 := [vI z11.1]) rfl ?_
      refine WPe_if_ne (pc := 39) 45 (dd dtX5_taken 22 rfl) (by decide) (fun h14 => ?_) (fun h14 => ?_)
      · refine WPe_bipush (pc := 42) (-11 : Int32) (dd dtX5_taken 23 rfl) (by decide) ?_
        exact WPe_ireturn (pc := 44) (dd dtX5_taken 24 rfl) rfl rfl ⟨(Nat.le_of_ble_eq_true rfl), (Nat.le_of_ble_eq_true rfl)⟩
      · refine WPe_iload_n (pc := 45) 2 (dd dtX5_taken 25 rfl) rfl ?_
        refine WPe_bipush (pc := 46) (6 : Int32) (dd dtX5_taken 26 rfl) (by decide) ?_
        refine WPe_icmp_lt (pc := 48) 75 (dd dtX5_taken 27 rfl) (by decide) (fun h15 => ?_) (fun h15 => ?_)
        · refine WPe_iload_n (pc := 75) 3 (dd dtX5_taken 40 rfl) rfl ?_
          refine WPe_bipush (pc := 76) (6 : Int32) (dd dtX5_taken 41 rfl) (by decide) ?_
          refine WPe_icmp_eq (pc := 78) 104 (dd dtX5_taken 42 rfl) (by decide) (fun h16 => ?_) (fun h16 => ?_)
          · refine WPe_bipush (pc := 104) (-13 : Int32) (dd dtX5_taken 54 rfl) (by decide) ?_
            exact WPe_ireturn (pc := 106) (dd dtX5_taken 55 rfl) rfl rfl ⟨(Nat.le_of_ble_eq_true rfl), (Nat.le_of_ble_eq_true rfl)⟩
          · refine WPe_aload_n (pc := 81) 1 (dd dtX5_taken 43 rfl) rfl ?_
            refine WPe_getR (pc := 82) (t := 5) (C := RX5) (T := TX5) 3 (dd dtX5_taken 44 rfl) (e13.at (shE h9) (by decide)) rfl (Nat.le_of_ble_eq_true rfl) rfl (bw_mem2 123 rfl rfl) ?_
            refine WPe_ck fun h17 => ?_
            refine WPe_getR (pc := 85) (t := 1) (C := RX1) (T := TX1) 6 (dd dtX5_taken 45 rfl) (shE h17) rfl (Nat.le_of_ble_eq_true rfl) rfl (bw_mem2 84 rfl rfl) ?_
            refine WPe_iload_n (pc := 88) 0 (dd dtX5_taken 46 rfl) rfl ?_
            refine WPe_ck fun h18 => ?_
            refine WPe_aald (pc := 89) (dd dtX5_taken 47 rfl) (shE h18.1) ⟨(Nat.le_of_ble_eq_true rfl), (Nat.le_of_ble_eq_true rfl)⟩ h18.2 ?_
            refine WPe_ck fun h19 => ?_
            refine WPe_getI (pc := 90) (t := 0) (C := RX0) (T := TX0) 0 (dd dtX5_taken 48 rfl) (shE h19) rfl (Nat.le_of_ble_eq_true rfl) rfl (bw_mem2 41 rfl rfl) ?_
            refine WPe_iload_n (pc := 93) 3 (dd dtX5_taken 49 rfl) rfl ?_
            refine WPe_callS (pc := 94) (rtc := rtI) (Mc := mX5_isOf) (d' := 1) (mc' := 0) (ms' := 0) [vI (wi z11.2 (wr z11.2 (wr z11.2 (wr z11.2 x0 3) 6) ((x1 - x1 / (6 : Int32) * (6 : Int32))).toNatClampNeg) 0), vI x2] [] rfl (dd dtX5_taken 50 rfl) (okf5_isOf (wi z11.2 (wr z11.2 (wr z11.2 (wr z11.2 x0 3) 6) ((x1 - x1 / (6 : Int32) * (6 : Int32))).toNatClampNeg) 0) x2 z11.2) moX5_isOf msX5_isOf (bw_mem3 237 rfl rfl) rfl (Nat.le_of_ble_eq_true rfl) ⟨(Nat.le_of_ble_eq_true rfl), (Nat.le_of_ble_eq_true rfl)⟩ ⟨(Nat.le_of_ble_eq_true rfl), (Nat.le_of_ble_eq_true rfl)⟩ (fun z20 h21 e22 => ?_)
            refine WPe_st (st2 := [vI z20.1]) rfl ?_
            refine WPe_if_eq (pc := 97) 104 (dd dtX5_taken 51 rfl) (by decide) (fun h23 => ?_) (fun h23 => ?_)
            · refine WPe_bipush (pc := 104) (-13 : Int32) (dd dtX5_taken 54 rfl) (by decide) ?_
              exact WPe_ireturn (pc := 106) (dd dtX5_taken 55 rfl) rfl rfl ⟨(Nat.le_of_ble_eq_true rfl), (Nat.le_of_ble_eq_true rfl)⟩
            · refine WPe_iload_n (pc := 100) 0 (dd dtX5_taken 52 rfl) rfl ?_
              refine WPe_goto (pc := 101) 106 (dd dtX5_taken 53 rfl) (by decide) ?_
              exact WPe_ireturn (pc := 106) (dd dtX5_taken 55 rfl) rfl rfl ⟨(Nat.le_of_ble_eq_true rfl), (Nat.le_of_ble_eq_true rfl)⟩
        · refine WPe_iload_n (pc := 51) 3 (dd dtX5_taken 28 rfl) rfl ?_
          refine WPe_bipush (pc := 52) (6 : Int32) (dd dtX5_taken 29 rfl) (by decide) ?_
          refine WPe_icmp_ne (pc := 54) 72 (dd dtX5_taken 30 rfl) (by decide) (fun h24 => ?_) (fun h24 => ?_)
          · refine WPe_aload_n (pc := 57) 1 (dd dtX5_taken 31 rfl) rfl ?_
            refine WPe_getR (pc := 58) (t := 5) (C := RX5) (T := TX5) 3 (dd dtX5_taken 32 rfl) (e13.at (shE h9) (by decide)) rfl (Nat.le_of_ble_eq_true rfl) rfl (bw_mem2 123 rfl rfl) ?_
            refine WPe_ck fun h25 => ?_
            refine WPe_getR (pc := 61) (t := 1) (C := RX1) (T := TX1) 6 (dd dtX5_taken 33 rfl) (shE h25) rfl (Nat.le_of_ble_eq_true rfl) rfl (bw_mem2 84 rfl rfl) ?_
            refine WPe_iload_n (pc := 64) 0 (dd dtX5_taken 34 rfl) rfl ?_
            refine WPe_ck fun h26 => ?_
            refine WPe_aald (pc := 65) (dd dtX5_taken 35 rfl) (shE h26.1) ⟨(Nat.le_of_ble_eq_true rfl), (Nat.le_of_ble_eq_true rfl)⟩ h26.2 ?_
            refine WPe_ck fun h27 => ?_
            refine WPe_getI (pc := 66) (t := 0) (C := RX0) (T := TX0) 3 (dd dtX5_taken 36 rfl) (shE h27) rfl (Nat.le_of_ble_eq_true rfl) rfl (bw_mem2 53 rfl rfl) ?_
            refine WPe_goto (pc := 69) 74 (dd dtX5_taken 37 rfl) (by decide) ?_
            exact WPe_ireturn (pc := 74) (dd dtX5_taken 39 rfl) rfl rfl ⟨(Nat.le_of_ble_eq_true rfl), (Nat.le_of_ble_eq_true rfl)⟩
          · refine WPe_bipush (pc := 72) (-13 : Int32) (dd dtX5_taken 38 rfl) (by decide) ?_
            exact WPe_ireturn (pc := 74) (dd dtX5_taken 39 rfl) rfl rfl ⟨(Nat.le_of_ble_eq_true rfl), (Nat.le_of_ble_eq_true rfl)⟩
theorem okf5_taken (x0 : Nat) (x1 : Int32) (x2 : Int32) (w : Wd) : ∀ z, f5_taken x0 x1 x2 w = some z → OkM mX5_taken 2 0 0 [vR x0, vI x1, vI x2] w (rtI z.1) z.2 :=
  OkM.of (rt := rtI) moX5_taken (Nat.le_of_ble_eq_true rfl) (fun X => wpf5_taken X w x0 x1 x2 w)
