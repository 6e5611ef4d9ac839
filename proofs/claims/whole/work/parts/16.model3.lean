def tbX6_benches : List (Nat × Instr × Nat) := [(0, .iload_n 1, 1), (1, .iconst 1, 1), (2, .bipush 10, 2), (4, .invokestatic 75, 3), (7, .ifCond .eq 12, 3), (10, .iload_n 2, 1), (11, .iconst 0, 1), (12, .iconst 1, 1), (13, .invokestatic 75, 3), (16, .ifCond .ne 6, 3), (19, .bipush (-2), 2), (21, .ireturn, 1), (22, .iconst 1, 1), (23, .istore_n 3, 1), (24, .iconst 0, 1), (25, .istore 4, 2), (27, .iload 4, 2), (29, .aload_n 0, 1), (30, .getfield 72, 3), (33, .if_icmp .ge 26, 3), (36, .iload_n 3, 1), (37, .aload_n 0, 1), (38, .iload 4, 2), (40, .invokevirtual 79, 3), (43, .ifCond .eq 7, 3), (46, .iconst 3, 1), (47, .goto 4, 3), (50, .iconst 1, 1), (51, .imul, 1), (52, .istore_n 3, 1), (53, .iinc 4 1, 3), (56, .goto (-29), 3), (59, .iconst (-1), 1), (60, .istore 4, 2), (62, .iconst 0, 1), (63, .istore 5, 2), (65, .iconst 0, 1), (66, .istore 6, 2), (68, .iload 6, 2), (70, .iload_n 3, 1), (71, .if_icmp .ge 133, 3), (74, .aload_n 0, 1), (75, .invokevirtual 197, 3), (78, .iload 6, 2), (80, .istore 7, 2), (82, .aload_n 0, 1), (83, .getfield 72, 3), (86, .iconst 1, 1), (87, .isub, 1), (88, .istore 8, 2), (90, .iload 8, 2), (92, .ifCond .lt 37, 3), (95, .aload_n 0, 1), (96, .iload 8, 2), (98, .invokevirtual 79, 3), (101, .ifCond .eq 22, 3), (104, .aload_n 0, 1), (105, .getfield 16, 3), (108, .iconst 3, 1), (109, .iload 8, 2), (111, .imul, 1), (112, .iload 7, 2), (114, .iconst 3, 1), (115, .irem, 1), (116, .iastore, 1), (117, .iload 7, 2), (119, .iconst 3, 1), (120, .idiv, 1), (121, .istore 7, 2), (123, .iinc 8 (-1), 3), (126, .goto (-36), 3), (129, .aload_n 0, 1), (130, .invokevirtual 212, 3), (133, .istore 8, 2), (135, .aload_n 0, 1), (136, .iload_n 1, 1), (137, .invokevirtual 200, 3), (140, .aload_n 0, 1), (141, .invokevirtual 86, 3), (144, .istore 9, 2), (146, .aload_n 0, 1), (147, .invokevirtual 206, 3), (150, .iload 4, 2), (152, .iconst (-1), 1), (153, .if_icmp .eq 10, 3), (156, .iload 9, 2), (158, .iload 5, 2), (160, .if_icmp .le 7, 3), (163, .iconst 1, 1), (164, .goto 4, 3), (167, .iconst 0, 1), (168, .istore 10, 2), (170, .iload 10, 2), (172, .ifCond .eq 8, 3), (175, .iload 8, 2), (177, .goto 5, 3), (180, .iload 4, 2), (182, .istore 4, 2), (184, .iload 10, 2), (186, .ifCond .eq 8, 3), (189, .iload 9, 2), (191, .goto 5, 3), (194, .iload 5, 2), (196, .istore 5, 2), (198, .iinc 6 1, 3), (201, .goto (-133), 3), (204, .iload_n 2, 1), (205, .ifCond .ne 8, 3), (208, .iload 4, 2), (210, .goto 5, 3), (213, .iload 5, 2), (215, .ireturn, 1)]
set_option maxRecDepth 20000 in
theorem dtX6_benches : ∀ x ∈ tbX6_benches, decode cX6_benches x.1 = .ok x.2 := by decide +kernel
noncomputable def j6_benches_196 (k68 : Nat × Int32 × Int32 × Int32 × Int32 × Int32 × Int32 → Wd → Option (Int32 × Wd)) (x0 : Nat) (x1 : Int32) (x2 : Int32) (x3 : Int32) (x4 : Int32) (x6 : Int32) (s0 : Int32) (w : Wd) : Option (Int32 × Wd) :=
  k68 (x0, x1, x2, x3, x4, s0, (x6 + (1 : Int32))) w
theorem wpj6_benches_196 (X : CX) (w0 : Wd) (k68 : Nat × Int32 × Int32 × Int32 × Int32 × Int32 × Int32 → Wd → Option (Int32 × Wd)) (hk68 : ∀ (v : Nat × Int32 × Int32 × Int32 × Int32 × Int32 × Int32) (w : Wd), WPe rtI X (mX6_benches, 8, 0, 0, w0) 0 0 (k68 v w) 68 [(0, vR v.1), (1, vI v.2.1), (2, vI v.2.2.1), (3, vI v.2.2.2.1), (4, vI v.2.2.2.2.1), (5, vI v.2.2.2.2.2.1), (6, vI v.2.2.2.2.2.2)] [] w) (x0 : Nat) (x1 : Int32) (x2 : Int32) (x3 : Int32) (x4 : Int32) (x6 : Int32) (s0 : Int32) (w : Wd) : WPe rtI X (mX6_benches, 8, 0, 0, w0) 0 0 (j6_benches_196 k68 x0 x1 x2 x3 x4 x6 s0 w) 196 [(0, vR x0), (1, vI x1), (2, vI x2), (3, vI x3), (4, vI x4), (6, vI x6)] [vI s0] w := by
  unfold j6_benches_196
  refine WPe_istore (pc := 196) (ls' := [(5, vI s0), (0, vR x0), (1, vI x1), (2, vI x2), (3, vI x3), (4, vI x4), (6, vI x6)]) (dd dtX6_benches 103 rfl) (Nat.le_of_ble_eq_true rfl) rfl ?_
  refine WPe_iinc (pc := 198) (ls' := [(6, vI (x6 + (1 : Int32))), (5, vI s0), (0, vR x0), (1, vI x1), (2, vI x2), (3, vI x3), (4, vI x4)]) 6 (x6 + (1 : Int32)) (dd dtX6_benches 104 rfl) rfl (congrArg (HAdd.hAdd _) (by decide : Int32.ofInt (1) = (1 : Int32))) (Nat.le_of_ble_eq_true rfl) rfl ?_
  refine WPe_goto (pc := 201) 68 (dd dtX6_benches 105 rfl) (by decide) ?_
  refine WPe_sub [2, 3, 4, 5, 6, 1, 0] rfl ?_
  exact hk68 (x0, x1, x2, x3, x4, s0, (x6 + (1 : Int32))) w
noncomputable def j6_benches_182 (k68 : Nat × Int32 × Int32 × Int32 × Int32 × Int32 × Int32 → Wd → Option (Int32 × Wd)) (x0 : Nat) (x1 : Int32) (x2 : Int32) (x3 : Int32) (x5 : Int32) (x6 : Int32) (x9 : Int32) (x10 : Int32) (s0 : Int32) (w : Wd) : Option (Int32 × Wd) :=
  if x10 = (0 : Int32) then (j6_benches_196 k68 x0 x1 x2 x3 s0 x6 x5 w) else (j6_benches_196 k68 x0 x1 x2 x3 s0 x6 x9 w)
theorem wpj6_benches_182 (X : CX) (w0 : Wd) (k68 : Nat × Int32 × Int32 × Int32 × Int32 × Int32 × Int32 → Wd → Option (Int32 × Wd)) (hk68 : ∀ (v : Nat × Int32 × Int32 × Int32 × Int32 × Int32 × Int32) (w : Wd), WPe rtI X (mX6_benches, 8, 0, 0, w0) 0 0 (k68 v w) 68 [(0, vR v.1), (1, vI v.2.1), (2, vI v.2.2.1), (3, vI v.2.2.2.1), (4, vI v.2.2.2.2.1), (5, vI v.2.2.2.2.2.1), (6, vI v.2.2.2.2.2.2)] [] w) (x0 : Nat) (x1 : Int32) (x2 : Int32) (x3 : Int32) (x5 : Int32) (x6 : Int32) (x9 : Int32) (x10 : Int32) (s0 : Int32) (w : Wd) : WPe rtI X (mX6_benches, 8, 0, 0, w0) 0 0 (j6_benches_182 k68 x0 x1 x2 x3 x5 x6 x9 x10 s0 w) 182 [(0, vR x0), (1, vI x1), (2, vI x2), (3, vI x3), (5, vI x5), (6, vI x6), (9, vI x9), (10, vI x10)] [vI s0] w := by
  unfold j6_benches_182
  refine WPe_istore (pc := 182) (ls' := [(4, vI s0), (0, vR x0), (1, vI x1), (2, vI x2), (3, vI x3), (5, vI x5), (6, vI x6), (9, vI x9), (10, vI x10)]) (dd dtX6_benches 97 rfl) (Nat.le_of_ble_eq_true rfl) rfl ?_
  refine WPe_iload (pc := 184) 8 (dd dtX6_benches 98 rfl) rfl ?_
  refine WPe_if_eq (pc := 186) 194 (dd dtX6_benches 99 rfl) (by decide) (fun h33 => ?_) (fun h33 => ?_)
  · refine WPe_iload (pc := 194) 5 (dd dtX6_benches 102 rfl) rfl ?_
    refine WPe_sub [1, 2, 3, 4, 0, 6] rfl ?_
    exact wpj6_benches_196 X w0 k68 hk68 x0 x1 x2 x3 s0 x6 x5 w
  · refine WPe_iload (pc := 189) 7 (dd dtX6_benches 100 rfl) rfl ?_
    refine WPe_goto (pc := 191) 196 (dd dtX6_benches 101 rfl) (by decide) ?_
    refine WPe_sub [1, 2, 3, 4, 0, 6] rfl ?_
    exact wpj6_benches_196 X w0 k68 hk68 x0 x1 x2 x3 s0 x6 x9 w
noncomputable def j6_benches_168 (k68 : Nat × Int32 × Int32 × Int32 × Int32 × Int32 × Int32 → Wd → Option (Int32 × Wd)) (x0 : Nat) (x1 : Int32) (x2 : Int32) (x3 : Int32) (x4 : Int32) (x5 : Int32) (x6 : Int32) (x8 : Int32) (x9 : Int32) (s0 : Int32) (w : Wd) : Option (Int32 × Wd) :=
  if s0 = (0 : Int32) then (j6_benches_182 k68 x0 x1 x2 x3 x5 x6 x9 s0 x4 w) else (j6_benches_182 k68 x0 x1 x2 x3 x5 x6 x9 s0 x8 w)
theorem wpj6_benches_168 (X : CX) (w0 : Wd) (k68 : Nat × Int32 × Int32 × Int32 × Int32 × Int32 × Int32 → Wd → Option (Int32 × Wd)) (hk68 : ∀ (v : Nat × Int32 × Int32 × Int32 × Int32 × Int32 × Int32) (w : Wd), WPe rtI X (mX6_benches, 8, 0, 0, w0) 0 0 (k68 v w) 68 [(0, vR v.1), (1, vI v.2.1), (2, vI v.2.2.1), (3, vI v.2.2.2.1), (4, vI v.2.2.2.2.1), (5, vI v.2.2.2.2.2.1), (6, vI v.2.2.2.2.2.2)] [] w) (x0 : Nat) (x1 : Int32) (x2 : Int32) (x3 : Int32) (x4 : Int32) (x5 : Int32) (x6 : Int32) (x8 : Int32) (x9 : Int32) (s0 : Int32) (w : Wd) : WPe rtI X (mX6_benches, 8, 0, 0, w0) 0 0 (j6_benches_168 k68 x0 x1 x2 x3 x4 x5 x6 x8 x9 s0 w) 168 [(0, vR x0), (1, vI x1), (2, vI x2), (3, vI x3), (4, vI x4), (5, vI x5), (6, vI x6), (8, vI x8), (9, vI x9)] [vI s0] w := by
  unfold j6_benches_168
  refine WPe_istore (pc := 168) (ls' := [(10, vI s0), (0, vR x0), (1, vI x1), (2, vI x2), (3, vI x3), (4, vI x4), (5, vI x5), (6, vI x6), (8, vI x8), (9, vI x9)]) (dd dtX6_benches 91 rfl) (Nat.le_of_ble_eq_true rfl) rfl ?_
  refine WPe_iload (pc := 170) 0 (dd dtX6_benches 92 rfl) rfl ?_
  refine WPe_if_eq (pc := 172) 180 (dd dtX6_benches 93 rfl) (by decide) (fun h32 => ?_) (fun h32 => ?_)
  · refine WPe_iload (pc := 180) 5 (dd dtX6_benches 96 rfl) rfl ?_
    refine WPe_sub [1, 2, 3, 4, 6, 7, 9, 0] rfl ?_
    exact wpj6_benches_182 X w0 k68 hk68 x0 x1 x2 x3 x5 x6 x9 s0 x4 w
  · refine WPe_iload (pc := 175) 8 (dd dtX6_benches 94 rfl) rfl ?_
    refine WPe_goto (pc := 177) 182 (dd dtX6_benches 95 rfl) (by decide) ?_
    refine WPe_sub [1, 2, 3, 4, 6, 7, 9, 0] rfl ?_
    exact wpj6_benches_182 X w0 k68 hk68 x0 x1 x2 x3 x5 x6 x9 s0 x8 w
noncomputable def j6_benches_163 (k68 : Nat × Int32 × Int32 × Int32 × Int32 × Int32 × Int32 → Wd → Option (Int32 × Wd)) (x0 : Nat) (x1 : Int32) (x2 : Int32) (x3 : Int32) (x4 : Int32) (x5 : Int32) (x6 : Int32) (x8 : Int32) (x9 : Int32) (w : Wd) : Option (Int32 × Wd) :=
  j6_benches_168 k68 x0 x1 x2 x3 x4 x5 x6 x8 x9 (1 : Int32) w
theorem wpj6_benches_163 (X : CX) (w0 : Wd) (k68 : Nat × Int32 × Int32 × Int32 × Int32 × Int32 × Int32 → Wd → Option (Int32 × Wd)) (hk68 : ∀ (v : Nat × Int32 × Int32 × Int32 × Int32 × Int32 × Int32) (w : Wd), WPe rtI X (mX6_benches, 8, 0, 0, w0) 0 0 (k68 v w) 68 [(0, vR v.1), (1, vI v.2.1), (2, vI v.2.2.1), (3, vI v.2.2.2.1), (4, vI v.2.2.2.2.1), (5, vI v.2.2.2.2.2.1), (6, vI v.2.2.2.2.2.2)] [] w) (x0 : Nat) (x1 : Int32) (x2 : Int32) (x3 : Int32) (x4 : Int32) (x5 : Int32) (x6 : Int32) (x8 : Int32) (x9 : Int32) (w : Wd) : WPe rtI X (mX6_benches, 8, 0, 0, w0) 0 0 (j6_benches_163 k68 x0 x1 x2 x3 x4 x5 x6 x8 x9 w) 163 [(0, vR x0), (1, vI x1), (2, vI x2), (3, vI x3), (4, vI x4), (5, vI x5), (6, vI x6), (8, vI x8), (9, vI x9)] [] w := by
  unfold j6_benches_163
  refine WPe_iconst (pc := 163) (1 : Int32) (dd dtX6_benches 88 rfl) (by decide) ?_
  refine WPe_goto (pc := 164) 168 (dd dtX6_benches 89 rfl) (by decide) ?_
  refine WPe_sub [0, 1, 2, 3, 4, 5, 6, 7, 8] rfl ?_
  exact wpj6_benches_168 X w0 k68 hk68 x0 x1 x2 x3 x4 x5 x6 x8 x9 (1 : Int32) w
noncomputable def j6_benches_123 (k68 : Nat × Int32 × Int32 × Int32 × Int32 × Int32 × Int32 → Wd → Option (Int32 × Wd)) (k90 : Nat × Int32 × Int32 × Int32 × Int32 × Int32 × Int32 × Int32 × Int32 → Wd → Option (Int32 × Wd)) (x0 : Nat) (x1 : Int32) (x2 : Int32) (x3 : Int32) (x4 : Int32) (x5 : Int32) (x6 : Int32) (x7 : Int32) (x8 : Int32) (w : Wd) : Option (Int32 × Wd) :=
  k90 (x0, x1, x2, x3, x4, x5, x6, x7, (x8 + (-1 : Int32))) w
theorem wpj6_benches_123 (X : CX) (w0 : Wd) (k68 : Nat × Int32 × Int32 × Int32 × Int32 × Int32 × Int32 → Wd → Option (Int32 × Wd)) (hk68 : ∀ (v : Nat × Int32 × Int32 × Int32 × Int32 × Int32 × Int32) (w : Wd), WPe rtI X (mX6_benches, 8, 0, 0, w0) 0 0 (k68 v w) 68 [(0, vR v.1), (1, vI v.2.1), (2, vI v.2.2.1), (3, vI v.2.2.2.1), (4, vI v.2.2.2.2.1), (5, vI v.2.2.2.2.2.1), (6, vI v.2.2.2.2.2.2)] [] w) (k90 : Nat × Int32 × Int32 × Int32 × Int32 × Int32 × Int32 × Int32 × Int32 → Wd → Option (Int32 × Wd)) (hk90 : ∀ (v : Nat × Int32 × Int32 × Int32 × Int32 × Int32 × Int32 × Int32 × Int32) (w : Wd), WPe rtI X (mX6_benches, 8, 0, 0, w0) 0 0 (k90 v w) 90 [(0, vR v.1), (1, vI v.2.1), (2, vI v.2.2.1), (3, vI v.2.2.2.1), (4, vI v.2.2.2.2.1), (5, vI v.2.2.2.2.2.1), (6, vI v.2.2.2.2.2.2.1), (7, vI v.2.2.2.2.2.2.2.1), (8, vI v.2.2.2.2.2.2.2.2)] [] w) (x0 : Nat) (x1 : Int32) (x2 : Int32) (x3 : Int32) (x4 : Int32) (x5 : Int32) (x6 : Int32) (x7 : Int32) (x8 : Int32) (w : Wd) : WPe rtI X (mX6_benches, 8, 0, 0, w0) 0 0 (j6_benches_123 k68 k90 x0 x1 x2 x3 x4 x5 x6 x7 x8 w) 123 [(0, vR x0), (1, vI x1), (2, vI x2), (3, vI x3), (4, vI x4), (5, vI x5), (6, vI x6), (7, vI x7), (8, vI x8)] [] w := by
  unfold j6_benches_123
  refine WPe_iinc (pc := 123) (ls' := [(8, vI (x8 + (-1 : Int32))), (0, vR x0), (1, vI x1), (2, vI x2), (3, vI x3), (4, vI x4), (5, vI x5), (6, vI x6), (7, vI x7)]) 8 (x8 + (-1 : Int32)) (dd dtX6_benches 69 rfl) rfl (congrArg (HAdd.hAdd _) (by decide : Int32.ofInt (-1) = (-1 : Int32))) (Nat.le_of_ble_eq_true rfl) rfl ?_
  refine WPe_goto (pc := 126) 90 (dd dtX6_benches 70 rfl) (by decide) ?_
  refine WPe_sub [1, 2, 3, 4, 5, 6, 7, 8, 0] rfl ?_
  exact hk90 (x0, x1, x2, x3, x4, x5, x6, x7, (x8 + (-1 : Int32))) w
noncomputable def b6_benches_90 (k68 : Nat × Int32 × Int32 × Int32 × Int32 × Int32 × Int32 → Wd → Option (Int32 × Wd)) (k90 : Nat × Int32 × Int32 × Int32 × Int32 × Int32 × Int32 × Int32 × Int32 → Wd → Option (Int32 × Wd)) (v : Nat × Int32 × Int32 × Int32 × Int32 × Int32 × Int32 × Int32 × Int32) (w : Wd) : Option (Int32 × Wd) :=
  if v.2.2.2.2.2.2.2.2 < (0 : Int32) then (ck (tg w v.1 = 6) ((f6_digitsNow v.1 w).bind fun z19 => ((f6_goes v.1 v.2.1 z19.2).bind fun z22 => ((f6_joyAll v.1 z22.2).bind fun z25 => ((f6_lays v.1 z25.2).bind fun z28 => (if v.2.2.2.2.1 = (-1 : Int32) then (j6_benches_163 k68 v.1 v.2.1 v.2.2.1 v.2.2.2.1 v.2.2.2.2.1 v.2.2.2.2.2.1 v.2.2.2.2.2.2.1 z19.1 z25.1 z28.2) else (if z25.1 ≤ v.2.2.2.2.2.1 then (j6_benches_168 k68 v.1 v.2.1 v.2.2.1 v.2.2.2.1 v.2.2.2.2.1 v.2.2.2.2.2.1 v.2.2.2.2.2.2.1 z19.1 z25.1 (0 : Int32) z28.2) else (j6_benches_163 k68 v.1 v.2.1 v.2.2.1 v.2.2.2.1 v.2.2.2.2.1 v.2.2.2.2.2.1 v.2.2.2.2.2.2.1 z19.1 z25.1 z28.2)))))))) else (ck (tg w v.1 = 6) ((f6_isIn v.1 v.2.2.2.2.2.2.2.2 w).bind fun z36 => (if z36.1 = (0 : Int32) then (j6_benches_123 k68 k90 v.1 v.2.1 v.2.2.1 v.2.2.2.1 v.2.2.2.2.1 v.2.2.2.2.2.1 v.2.2.2.2.2.2.1 v.2.2.2.2.2.2.2.1 v.2.2.2.2.2.2.2.2 z36.2) else (ck (tg z36.2 (wr z36.2 v.1 3) = 20 ∧ vp_in ((3 : Int32) * v.2.2.2.2.2.2.2.2) (ln z36.2 (wr z36.2 v.1 3))) (lw (sI z36.2 (wr z36.2 v.1 3) (((3 : Int32) * v.2.2.2.2.2.2.2.2)).toNatClampNeg (v.2.2.2.2.2.2.2.1 - v.2.2.2.2.2.2.2.1 / (3 : Int32) * (3 : Int32))) fun w41 => (j6_benches_123 k68 k90 v.1 v.2.1 v.2.2.1 v.2.2.2.1 v.2.2.2.2.1 v.2.2.2.2.2.1 v.2.2.2.2.2.2.1 (v.2.2.2.2.2.2.2.1 / (3 : Int32)) v.2.2.2.2.2.2.2.2 w41))))))
theorem wpb6_benches_90 (X : CX) (w0 : Wd) (k68 : Nat × Int32 × Int32 × Int32 × Int32 × Int32 × Int32 → Wd → Option (Int32 × Wd)) (hk68 : ∀ (v : Nat × Int32 × Int32 × Int32 × Int32 × Int32 × Int32) (w : Wd), WPe rtI X (mX6_benches, 8, 0, 0, w0) 0 0 (k68 v w) 68 [(0, vR v.1), (1, vI v.2.1), (2, vI v.2.2.1), (3, vI v.2.2.2.1), (4, vI v.2.2.2.2.1), (5, vI v.2.2.2.2.2.1), (6, vI v.2.2.2.2.2.2)] [] w) (k90 : Nat × Int32 × Int32 × Int32 × Int32 × Int32 × Int32 × Int32 × Int32 → Wd → Option (Int32 × Wd)) (hk90 : ∀ (v : Nat × Int32 × Int32 × Int32 × Int32 × Int32 × Int32 × Int32 × Int32) (w : Wd), WPe rtI X (mX6_benches, 8, 0, 0, w0) 0 0 (k90 v w) 90 [(0, vR v.1), (1, vI v.2.1), (2, vI v.2.2.1), (3, vI v.2.2.2.1), (4, vI v.2.2.2.2.1), (5, vI v.2.2.2.2.2.1), (6, vI v.2.2.2.2.2.2.1), (7, vI v.2.2.2.2.2.2.2.1), (8, vI v.2.2.2.2.2.2.2.2)] [] w) (v : Nat × Int32 × Int32 × Int32 × Int32 × Int32 × Int32 × Int32 × Int32) (w : Wd) : WPe rtI X (mX6_benches, 8, 0, 0, w0) 0 0 (b6_benches_90 k68 k90 v w) 90 [(0, vR v.1), (1, vI v.2.1), (2, vI v.2.2.1), (3, vI v.2.2.2.1), (4, vI v.2.2.2.2.1), (5, vI v.2.2.2.2.2.1), (6, vI v.2.2.2.2.2.2.1), (7, vI v.2.2.2.2.2.2.2.1), (8, vI v.2.2.2.2.2.2.2.2)] [] w := by
  unfold b6_benches_90
  refine WPe_iload (pc := 90) 8 (dd dtX6_benches 50 rfl) rfl ?_
  refine WPe_if_lt (pc := 92) 129 (dd dtX6_benches 51 rfl) (by decide) (fun h17 => ?_) (fun h17 => ?_)
  · refine WPe_aload_n (pc := 129) 0 (dd dtX6_benches 71 rfl) rfl ?_
    refine WPe_ck fun h18 => ?_
    refine WPe_callV (pc := 130) (rtc := rtI) (Mc := mX6_digitsNow) (d' := 2) (mc' := 0) (ms' := 0) [] [] rfl (dd dtX6_benches 72 rfl) (okf6_digitsNow v.1 w) moX6_digitsNow miX6_digitsNow (bw_mem5 72 rfl rfl) (Or.inl ⟨_, _, _, _, (shE h18), rfl⟩) rfl (Nat.le_of_ble_eq_true rfl) ⟨(Nat.le_of_ble_eq_true rfl), (Nat.le_of_ble_eq_true rfl)⟩ ⟨(Nat.le_of_ble_eq_true rfl), (Nat.le_of_ble_eq_true rfl)⟩ (fun z19 h20 e21 => ?_)
    refine WPe_st (st2 := [vI z19.1]) rfl ?_
    refine WPe_istore (pc := 133) (ls' := [(8, vI z19.1), (0, vR v.1), (1, vI v.2.1), (2, vI v.2.2.1), (3, vI v.2.2.2.1), (4, vI v.2.2.2.2.1), (5, vI v.2.2.2.2.2.1), (6, vI v.2.2.2.2.2.2.1), (7, vI v.2.2.2.2.2.2.2.1)]) (dd dtX6_benches 73 rfl) (Nat.le_of_ble_eq_true rfl) rfl ?_
    refine WPe_aload_n (pc := 135) 1 (dd dtX6_benches 74 rfl) rfl ?_
    refine WPe_iload_n (pc := 136) 2 (dd dtX6_benches 75 rfl) rfl ?_
    refine WPe_callV (pc := 137) (rtc := rtV) (Mc := mX6_goes) (d' := 7) (mc' := 0) (ms' := 0) [vI v.2.1] [] rfl (dd dtX6_benches 76 rfl) (okf6_goes v.1 v.2.1 z19.2) moX6_goes miX6_goes (bw_mem5 36 rfl rfl) (Or.inl ⟨_, _, _, _, (e21.at (shE h18) (by decide)), rfl⟩) rfl (Nat.le_of_ble_eq_true rfl) ⟨(Nat.le_of_ble_eq_true rfl), (Nat.le_of_ble_eq_true rfl)⟩ ⟨(Nat.le_of_ble_eq_true rfl), (Nat.le_of_ble_eq_true rfl)⟩ (fun z22 h23 e24 => ?_)
    refine WPe_st (st2 := []) rfl ?_
    refine WPe_aload_n (pc := 140) 1 (dd dtX6_benches 77 rfl) rfl ?_
    refine WPe_callV (pc := 141) (rtc := rtI) (Mc := mX6_joyAll) (d' := 1) (mc' := 0) (ms' := 0) [] [] rfl (dd dtX6_benches 78 rfl) (okf6_joyAll v.1 z22.2) moX6_joyAll miX6_joyAll (bw_mem4 162 rfl rfl) (Or.inl ⟨_, _, _, _, (e24.at (e21.at (shE h18) (by decide)) (by decide)), rfl⟩) rfl (Nat.le_of_ble_eq_true rfl) ⟨(Nat.le_of_ble_eq_true rfl), (Nat.le_of_ble_eq_true rfl)⟩ ⟨(Nat.le_of_ble_eq_true rfl), (Nat.le_of_ble_eq_true rfl)⟩ (fun z25 h26 e27 => ?_)
    refine WPe_st (st2 := [vI z25.1]) rfl ?_
    refine WPe_istore (pc := 144) (ls' := [(9, vI z25.1), (8, vI z19.1), (0, vR v.1), (1, vI v.2.1), (2, vI v.2.2.1), (3, vI v.2.2.2.1), (4, vI v.2.2.2.2.1), (5, vI v.2.2.2.2.2.1), (6, vI v.2.2.2.2.2.2.1), (7, vI v.2.2.2.2.2.2.2.1)]) (dd dtX6_benches 79 rfl) (Nat.le_of_ble_eq_true rfl) rfl ?_
    refine WPe_aload_n (pc := 146) 2 (dd dtX6_benches 80 rfl) rfl ?_
    refine WPe_callV (pc := 147) (rtc := rtV) (Mc := mX6_lays) (d' := 1) (mc' := 0) (ms' := 0) [] [] rfl (dd dtX6_benches 81 rfl) (okf6_lays v.1 z25.2) moX6_lays miX6_lays (bw_mem5 48 rfl rfl) (Or.inl ⟨_, _, _, _, (e27.at (e24.at (e21.at (shE h18) (by decide)) (by decide)) (by decide)), rfl⟩) rfl (Nat.le_of_ble_eq_true rfl) ⟨(Nat.le_of_ble_eq_true rfl), (Nat.le_of_ble_eq_true rfl)⟩ ⟨(Nat.le_of_ble_eq_true rfl), (Nat.le_of_ble_eq_true rfl)⟩ (fun z28 h29 e30 => ?_)
    refine WPe_st (st2 := []) rfl ?_
    refine WPe_iload (pc := 150) 6 (dd dtX6_benches 82 rfl) rfl ?_
    refine WPe_iconst (pc := 152) (-1 : Int32) (dd dtX6_benches 83 rfl) (by decide) ?_
    refine WPe_icmp_eq (pc := 153) 163 (dd dtX6_benches 84 rfl) (by decide) (fun h31 => ?_) (fun h31 => ?_)
    · refine WPe_sub [2, 3, 4, 5, 6, 7, 8, 1, 0] rfl ?_
      exact wpj6_benches_163 X w0 k68 hk68 v.1 v.2.1 v.2.2.1 v.2.2.2.1 v.2.2.2.2.1 v.2.2.2.2.2.1 v.2.2.2.2.2.2.1 z19.1 z25.1 z28.2
    · refine WPe_iload (pc := 156) 0 (dd dtX6_benches 85 rfl) rfl ?_
      refine WPe_iload (pc := 158) 7 (dd dtX6_benches 86 rfl) rfl ?_
      refine WPe_icmp_le (pc := 160) 167 (dd dtX6_benches 87 rfl) (by decide) (fun h34 => ?_) (fun h34 => ?_)
      · refine WPe_iconst (pc := 167) (0 : Int32) (dd dtX6_benches 90 rfl) (by decide) ?_
        refine WPe_sub [2, 3, 4, 5, 6, 7, 8, 1, 0] rfl ?_
        exact wpj6_benches_168 X w0 k68 hk68 v.1 v.2.1 v.2.2.1 v.2.2.2.1 v.2.2.2.2.1 v.2.2.2.2.2.1 v.2.2.2.2.2.2.1 z19.1 z25.1 (0 : Int32) z28.2
      · refine WPe_sub [2, 3, 4, 5, 6, 7, 8, 1, 0] rfl ?_
        exact wpj6_benches_163 X w0 k68 hk68 v.1 v.2.1 v.2.2.1 v.2.2.2.1 v.2.2.2.2.1 v.2.2.2.2.2.1 v.2.2.2.2.2.2.1 z19.1 z25.1 z28.2
  · refine WPe_aload_n (pc := 95) 0 (dd dtX6_benches 52 rfl) rfl ?_
    refine WPe_iload (pc := 96) 8 (dd dtX6_benches 53 rfl) rfl ?_
    refine WPe_ck fun h35 => ?_
    refine WPe_callV (pc := 98) (rtc := rtI) (Mc := mX6_isIn) (d' := 1) (mc' := 0) (ms' := 0) [vI v.2.2.2.2.2.2.2.2] [] rfl (dd dtX6_benches 54 rfl) (okf6_isIn v.1 v.2.2.2.2.2.2.2.2 w) moX6_isIn miX6_isIn (bw_mem4 158 rfl rfl) (Or.inl ⟨_, _, _, _, (shE h35), rfl⟩) rfl (Nat.le_of_ble_eq_true rfl) ⟨(Nat.le_of_ble_eq_true rfl), (Nat.le_of_ble_eq_true rfl)⟩ ⟨(Nat.le_of_ble_eq_true rfl), (Nat.le_of_ble_eq_true rfl)⟩ (fun z36 h37 e38 => ?_)
    refine WPe_st (st2 := [vI z36.1]) rfl ?_
    refine WPe_if_eq (pc := 101) 123 (dd dtX6_benches 55 rfl) (by decide) (fun h39 => ?_) (fun h39 => ?_)
    · refine WPe_sub [0, 1, 2, 3, 4, 5, 6, 7, 8] rfl ?_
      exact wpj6_benches_123 X w0 k68 hk68 k90 hk90 v.1 v.2.1 v.2.2.1 v.2.2.2.1 v.2.2.2.2.1 v.2.2.2.2.2.1 v.2.2.2.2.2.2.1 v.2.2.2.2.2.2.2.1 v.2.2.2.2.2.2.2.2 z36.2
    · refine WPe_aload_n (pc := 104) 0 (dd dtX6_benches 56 rfl) rfl ?_
      refine WPe_getR (pc := 105) (t := 6) (C := RX6) (T := TX6) 3 (dd dtX6_benches 57 rfl) (e38.at (shE h35) (by decide)) rfl (Nat.le_of_ble_eq_true rfl) rfl (bw_mem4 56 rfl rfl) ?_
      refine WPe_iconst (pc := 108) (3 : Int32) (dd dtX6_benches 58 rfl) (by decide) ?_
      refine WPe_iload (pc := 109) 8 (dd dtX6_benches 59 rfl) rfl ?_
      refine WPe_imul (pc := 111) (dd dtX6_benches 60 rfl) ?_
      refine WPe_iload (pc := 112) 7 (dd dtX6_benches 61 rfl) rfl ?_
      refine WPe_iconst (pc := 114) (3 : Int32) (dd dtX6_benches 62 rfl) (by decide) ?_
      refine WPe_irem (pc := 115) (dd dtX6_benches 63 rfl) (by decide) ?_
      refine WPe_ck fun h40 => ?_
      refine WPe_iast (pc := 116) (dd dtX6_benches 64 rfl) (shE h40.1) h40.2 ?_
      refine WPe_lw fun w41 e42 => ?_
      refine WPe_iload (pc := 117) 7 (dd dtX6_benches 65 rfl) rfl ?_
      refine WPe_iconst (pc := 119) (3 : Int32) (dd dtX6_benches 66 rfl) (by decide) ?_
      refine WPe_idiv (pc := 120) (dd dtX6_benches 67 rfl) (by decide) ?_
      refine WPe_istore (pc := 121) (ls' := [(7, vI (v.2.2.2.2.2.2.2.1 / (3 : Int32))), (0, vR v.1), (1, vI v.2.1), (2, vI v.2.2.1), (3, vI v.2.2.2.1), (4, vI v.2.2.2.2.1), (5, vI v.2.2.2.2.2.1), (6, vI v.2.2.2.2.2.2.1), (8, vI v.2.2.2.2.2.2.2.2)]) (dd dtX6_benches 68 rfl) (Nat.le_of_ble_eq_true rfl) rfl ?_
      refine WPe_sub [1, 2, 3, 4, 5, 6, 7, 0, 8] rfl ?_
      exact wpj6_benches_123 X w0 k68 hk68 k90 hk90 v.1 v.2.1 v.2.2.1 v.2.2.2.1 v.2.2.2.2.1 v.2.2.2.2.2.1 v.2.2.2.2.2.2.1 (v.2.2.2.2.2.2.2.1 / (3 : Int32)) v.2.2.2.2.2.2.2.2 w41
theorem wplb6_benches_90 (X : CX) (w0 : Wd) (k68 : Nat × Int32 × Int32 × Int32 × Int32 × Int32 × Int32 → Wd → Option (Int32 × Wd)) (hk68 : ∀ (v : Nat × Int32 × Int32 × Int32 × Int32 × Int32 × Int32) (w : Wd), WPe rtI X (mX6_benches, 8, 0, 0, w0) 0 0 (k68 v w) 68 [(0, vR v.1), (1, vI v.2.1), (2, vI v.2.2.1), (3, vI v.2.2.2.1), (4, vI v.2.2.2.2.1), (5, vI v.2.2.2.2.2.1), (6, vI v.2.2.2.2.2.2)] [] w) : ∀ (n9 : Nat) (v : Nat × Int32 × Int32 × Int32 × Int32 × Int32 × Int32 × Int32 × Int32) (w : Wd), WPe rtI X (mX6_benches, 8, 0, 0, w0) 0 0 (loopF (b6_benches_90 k68) n9 v w) 90 [(0, vR v.1), (1, vI v.2.1), (2, vI v.2.2.1), (3, vI v.2.2.2.1), (4, vI v.2.2.2.2.1), (5, vI v.2.2.2.2.2.1), (6, vI v.2.2.2.2.2.2.1), (7, vI v.2.2.2.2.2.2.2.1), (8, vI v.2.2.2.2.2.2.2.2)] [] w :=
  WPe_loop (rt := rtI) (X := X) (M := (mX6_benches, 8, 0, 0, w0)) (fun v : Nat × Int32 × Int32 × Int32 × Int32 × Int32 × Int32 × Int32 × Int32 => [(0, vR v.1), (1, vI v.2.1), (2, vI v.2.2.1), (3, vI v.2.2.2.1), (4, vI v.2.2.2.2.1), (5, vI v.2.2.2.2.2.1), (6, vI v.2.2.2.2.2.2.1), (7, vI v.2.2.2.2.2.2.2.1), (8, vI v.2.2.2.2.2.2.2.2)]) (fun k hk v w => wpb6_benches_90 X w0 k68 hk68 k hk v w)
noncomputable def b6_benches_68 (k68 : Nat × Int32 × Int32 × Int32 × Int32 × Int32 × Int32 → Wd → Option (Int32 × Wd)) (v : Nat × Int32 × Int32 × Int32 × Int32 × Int32 × Int32) (w : Wd) : Option (Int32 × Wd) :=
  if v.2.2.2.1 ≤ v.2.2.2.2.2.2 then (if v.2.2.1 = (0 : Int32) then (some (v.2.2.2.2.1, w)) else (some (v.2.2.2.2.2.1, w))) else (ck (tg w v.1 = 6) ((f6_keeps v.1 w).bind fun z14 => (loopF (b6_benches_90 k68) FU (v.1, v.2.1, v.2.2.1, v.2.2.2.1, v.2.2.2.2.1, v.2.2.2.2.2.1, v.2.2.2.2.2.2, v.2.2.2.2.2.2, ((wi z14.2 v.1 0) - (1 : Int32))) z14.2)))
theorem wpb6_benches_68 (X : CX) (w0 : Wd) (k68 : Nat × Int32 × Int32 × Int32 × Int32 × Int32 × Int32 → Wd → Option (Int32 × Wd)) (hk68 : ∀ (v : Nat × Int32 × Int32 × Int32 × Int32 × Int32 × Int32) (w : Wd), WPe rtI X (mX6_benches, 8, 0, 0, w0) 0 0 (k68 v w) 68 [(0, vR v.1), (1, vI v.2.1), (2, vI v.2.2.1), (3, vI v.2.2.2.1), (4, vI v.2.2.2.2.1), (5, vI v.2.2.2.2.2.1), (6, vI v.2.2.2.2.2.2)] [] w) (v : Nat × Int32 × Int32 × Int32 × Int32 × Int32 × Int32) (w : Wd) : WPe rtI X (mX6_benches, 8, 0, 0, w0) 0 0 (b6_benches_68 k68 v w) 68 [(0, vR v.1), (1, vI v.2.1), (2, vI v.2.2.1), (3, vI v.2.2.2.1), (4, vI v.2.2.2.2.1), (5, vI v.2.2.2.2.2.1), (6, vI v.2.2.2.2.2.2)] [] w := by
  unfold b6_benches_68
  refine WPe_iload (pc := 68) 6 (dd dtX6_benches 38 rfl) rfl ?_
  refine WPe_iload_n (pc := 70) 3 (dd dtX6_benches 39 rfl) rfl ?_
  refine WPe_icmp_ge (pc := 71) 204 (dd dtX6_benches 40 rfl) (by decide) (fun h11 => ?_) (fun h11 => ?_)
  · refine WPe_iload_n (pc := 204) 2 (dd dtX6_benches 106 rfl) rfl ?_
    refine WPe_if_ne (pc := 205) 213 (dd dtX6_benches 107 rfl) (by decide) (fun h12 => ?_) (fun h12 => ?_)
    · refine WPe_iload (pc := 208) 4 (dd dtX6_benches 108 rfl) rfl ?_
      refine WPe_goto (pc := 210) 215 (dd dtX6_benches 109 rfl) (by decide) ?_
      exact WPe_ireturn (pc := 215) (dd dtX6_benches 111 rfl) rfl rfl ⟨(Nat.le_of_ble_eq_true rfl), (Nat.le_of_ble_eq_true rfl)⟩
    · refine WPe_iload (pc := 213) 5 (dd dtX6_benches 110 rfl) rfl ?_
      exact WPe_ireturn (pc := 215) (dd dtX6_benches 111 rfl) rfl rfl ⟨(Nat.le_of_ble_eq_true rfl), (Nat.le_of_ble_eq_true rfl)⟩
  · refine WPe_aload_n (pc := 74) 0 (dd dtX6_benches 41 rfl) rfl ?_
    refine WPe_ck fun h13 => ?_
    refine WPe_callV (pc := 75) (rtc := rtV) (Mc := mX6_keeps) (d' := 1) (mc' := 0) (ms' := 0) [] [] rfl (dd dtX6_benches 42 rfl) (okf6_keeps v.1 w) moX6_keeps miX6_keeps (bw_mem5 32 rfl rfl) (Or.inl ⟨_, _, _, _, (shE h13), rfl⟩) rfl (Nat.le_of_ble_eq_true rfl) ⟨(Nat.le_of_ble_eq_true rfl), (Nat.le_of_ble_eq_true rfl)⟩ ⟨(Nat.le_of_ble_eq_true rfl), (Nat.le_of_ble_eq_true rfl)⟩ (fun z14 h15 e16 => ?_)
    refine WPe_st (st2 := []) rfl ?_
    refine WPe_iload (pc := 78) 6 (dd dtX6_benches 43 rfl) rfl ?_
    refine WPe_istore (pc := 80) (ls' := [(7, vI v.2.2.2.2.2.2), (0, vR v.1), (1, vI v.2.1), (2, vI v.2.2.1), (3, vI v.2.2.2.1), (4, vI v.2.2.2.2.1), (5, vI v.2.2.2.2.2.1), (6, vI v.2.2.2.2.2.2)]) (dd dtX6_benches 44 rfl) (Nat.le_of_ble_eq_true rfl) rfl ?_
    refine WPe_aload_n (pc := 82) 1 (dd dtX6_benches 45 rfl) rfl ?_
    refine WPe_getI (pc := 83) (t := 6) (C := RX6) (T := TX6) 0 (dd dtX6_benches 46 rfl) (e16.at (shE h13) (by decide)) rfl (Nat.le_of_ble_eq_true rfl) rfl (bw_mem4 53 rfl rfl) ?_
    refine WPe_iconst (pc := 86) (1 : Int32) (dd dtX6_benches 47 rfl) (by decide) ?_
    refine WPe_isub (pc := 87) (dd dtX6_benches 48 rfl) ?_
    refine WPe_istore (pc := 88) (ls' := [(8, vI ((wi z14.2 v.1 0) - (1 : Int32))), (7, vI v.2.2.2.2.2.2), (0, vR v.1), (1, vI v.2.1), (2, vI v.2.2.1), (3, vI v.2.2.2.1), (4, vI v.2.2.2.2.1), (5, vI v.2.2.2.2.2.1), (6, vI v.2.2.2.2.2.2)]) (dd dtX6_benches 49 rfl) (Nat.le_of_ble_eq_true rfl) rfl ?_
    refine WPe_sub [2, 3, 4, 5, 6, 7, 8, 1, 0] rfl ?_
    exact wplb6_benches_90 X w0 k68 hk68 FU _ _
theorem wplb6_benches_68 (X : CX) (w0 : Wd)  : ∀ (n9 : Nat) (v : Nat × Int32 × Int32 × Int32 × Int32 × Int32 × Int32) (w : Wd), WPe rtI X (mX6_benches, 8, 0, 0, w0) 0 0 (loopF (b6_benches_68 ) n9 v w) 68 [(0, vR v.1), (1, vI v.2.1), (2, vI v.2.2.1), (3, vI v.2.2.2.1), (4, vI v.2.2.2.2.1), (5, vI v.2.2.2.2.2.1), (6, vI v.2.2.2.2.2.2)] [] w :=
  WPe_loop (rt := rtI) (X := X) (M := (mX6_benches, 8, 0, 0, w0)) (fun v : Nat × Int32 × Int32 × Int32 × Int32 × Int32 × Int32 => [(0, vR v.1), (1, vI v.2.1), (2, vI v.2.2.1), (3, vI v.2.2.2.1), (4, vI v.2.2.2.2.1), (5, vI v.2.2.2.2.2.1), (6, vI v.2.2.2.2.2.2)]) (fun k hk v w => wpb6_benches_68 X w0  k hk v w)
noncomputable def j6_benches_51 (k27 : Nat × Int32 × Int32 × Int32 × Int32 → Wd → Option (Int32 × Wd)) (x0 : Nat) (x1 : Int32) (x2 : Int32) (x4 : Int32) (s0 : Int32) (s1 : Int32) (w : Wd) : Option (Int32 × Wd) :=
  k27 (x0, x1, x2, (s1 * s0), (x4 + (1 : Int32))) w
theorem wpj6_benches_51 (X : CX) (w0 : Wd) (k27 : Nat × Int32 × Int32 × Int32 × Int32 → Wd → Option (Int32 × Wd)) (hk27 : ∀ (v : Nat × Int32 × Int32 × Int32 × Int32) (w : Wd), WPe rtI X (mX6_benches, 8, 0, 0, w0) 0 0 (k27 v w) 27 [(0, vR v.1), (1, vI v.2.1), (2, vI v.2.2.1), (3, vI v.2.2.2.1), (4, vI v.2.2.2.2)] [] w) (x0 : Nat) (x1 : Int32) (x2 : Int32) (x4 : Int32) (s0 : Int32) (s1 : Int32) (w : Wd) : WPe rtI X (mX6_benches, 8, 0, 0, w0) 0 0 (j6_benches_51 k27 x0 x1 x2 x4 s0 s1 w) 51 [(0, vR x0), (1, vI x1), (2, vI x2), (4, vI x4)] [vI s0, vI s1] w := by
  unfold j6_benches_51
  refine WPe_imul (pc := 51) (dd dtX6_benches 28 rfl) ?_
  refine WPe_istore_n (pc := 52) (ls' := [(3, vI (s1 * s0)), (0, vR x0), (1, vI x1), (2, vI x2), (4, vI x4)]) (dd dtX6_benches 29 rfl) (Nat.le_of_ble_eq_true rfl) rfl ?_
  refine WPe_iinc (pc := 53) (ls' := [(4, vI (x4 + (1 : Int32))), (3, vI (s1 * s0)), (0, vR x0), (1, vI x1), (2, vI x2)]) 4 (x4 + (1 : Int32)) (dd dtX6_benches 30 rfl) rfl (congrArg (HAdd.hAdd _) (by decide : Int32.ofInt (1) = (1 : Int32))) (Nat.le_of_ble_eq_true rfl) rfl ?_
  refine WPe_goto (pc := 56) 27 (dd dtX6_benches 31 rfl) (by decide) ?_
  refine WPe_sub [2, 3, 4, 1, 0] rfl ?_
  exact hk27 (x0, x1, x2, (s1 * s0), (x4 + (1 : Int32))) w
noncomputable def b6_benches_27 (k27 : Nat × Int32 × Int32 × Int32 × Int32 → Wd → Option (Int32 × Wd)) (v : Nat × Int32 × Int32 × Int32 × Int32) (w : Wd) : Option (Int32 × Wd) :=
  ck (tg w v.1 = 6) (if (wi w v.1 0) ≤ v.2.2.2.2 then (loopF (b6_benches_68) FU (v.1, v.2.1, v.2.2.1, v.2.2.2.1, (-1 : Int32), (0 : Int32), (0 : Int32)) w) else ((f6_isIn v.1 v.2.2.2.2 w).bind fun z43 => (if z43.1 = (0 : Int32) then (j6_benches_51 k27 v.1 v.2.1 v.2.2.1 v.2.2.2.2 (1 : Int32) v.2.2.2.1 z43.2) else (j6_benches_51 k27 v.1 v.2.1 v.2.2.1 v.2.2.2.2 (3 : Int32) v.2.2.2.1 z43.2))))
theorem wpb6_benches_27 (X : CX) (w0 : Wd) (k27 : Nat × Int32 × Int32 × Int32 × Int32 → Wd → Option (Int32 × Wd)) (hk27 : ∀ (v : Nat × Int32 × Int32 × Int32 × Int32) (w : Wd), WPe rtI X (mX6_benches, 8, 0, 0, w0) 0 0 (k27 v w) 27 [(0, vR v.1), (1, vI v.2.1), (2, vI v.2.2.1), (3, vI v.2.2.2.1), (4, vI v.2.2.2.2)] [] w) (v : Nat × Int32 × Int32 × Int32 × Int32) (w : Wd) : WPe rtI X (mX6_benches, 8, 0, 0, w0) 0 0 (b6_benches_27 k27 v w) 27 [(0, vR v.1), (1, vI v.2.1), (2, vI v.2.2.1), (3, vI v.2.2.2.1), (4, vI v.2.2.2.2)] [] w := by
  unfold b6_benches_27
  refine WPe_iload (pc := 27) 4 (dd dtX6_benches 16 rfl) rfl ?_
  refine WPe_aload_n (pc := 29) 0 (dd dtX6_benches 17 rfl) rfl ?_
  refine WPe_ck fun h9 => ?_
  refine WPe_getI (pc := 30) (t := 6) (C := RX6) (T := TX6) 0 (dd dtX6_benches 18 rfl) (shE h9) rfl (Nat.le_of_ble_eq_true rfl) rfl (bw_mem4 53 rfl rfl) ?_
  refine WPe_icmp_ge (pc := 33) 59 (dd dtX6_benches 19 rfl) (by decide) (fun h10 => ?_) (fun h10 => ?_)
  · refine WPe_iconst (pc := 59) (-1 : Int32) (dd dtX6_benches 32 rfl) (by decide) ?_
    refine WPe_istore (pc := 60) (ls' := [(4, vI (-1 : Int32)), (0, vR v.1), (1, vI v.2.1), (2, vI v.2.2.1), (3, vI v.2.2.2.1)]) (dd dtX6_benches 33 rfl) (Nat.le_of_ble_eq_true rfl) rfl ?_
    refine WPe_iconst (pc := 62) (0 : Int32) (dd dtX6_benches 34 rfl) (by decide) ?_
    refine WPe_istore (pc := 63) (ls' := [(5, vI (0 : Int32)), (4, vI (-1 : Int32)), (0, vR v.1), (1, vI v.2.1), (2, vI v.2.2.1), (3, vI v.2.2.2.1)]) (dd dtX6_benches 35 rfl) (Nat.le_of_ble_eq_true rfl) rfl ?_
    refine WPe_iconst (pc := 65) (0 : Int32) (dd dtX6_benches 36 rfl) (by decide) ?_
    refine WPe_istore (pc := 66) (ls' := [(6, vI (0 : Int32)), (5, vI (0 : Int32)), (4, vI (-1 : Int32)), (0, vR v.1), (1, vI v.2.1), (2, vI v.2.2.1), (3, vI v.2.2.2.1)]) (dd dtX6_benches 37 rfl) (Nat.le_of_ble_eq_true rfl) rfl ?_
    refine WPe_sub [3, 4, 5, 6, 2, 1, 0] rfl ?_
    exact wplb6_benches_68 X w0  FU _ _
  · refine WPe_iload_n (pc := 36) 3 (dd dtX6_benches 20 rfl) rfl ?_
    refine WPe_aload_n (pc := 37) 0 (dd dtX6_benches 21 rfl) rfl ?_
    refine WPe_iload (pc := 38) 4 (dd dtX6_benches 22 rfl) rfl ?_
    refine WPe_callV (pc := 40) (rtc := rtI) (Mc := mX6_isIn) (d' := 1) (mc' := 0) (ms' := 0) [vI v.2.2.2.2] [vI v.2.2.2.1] rfl (dd dtX6_benches 23 rfl) (okf6_isIn v.1 v.2.2.2.2 w) moX6_isIn miX6_isIn (bw_mem4 158 rfl rfl) (Or.inl ⟨_, _, _, _, (shE h9), rfl⟩) rfl (Nat.le_of_ble_eq_true rfl) ⟨(Nat.le_of_ble_eq_true rfl), (Nat.le_of_ble_eq_true rfl)⟩ ⟨(Nat.le_of_ble_eq_true rfl), (Nat.le_of_ble_eq_true rfl)⟩ (fun z43 h44 e45 => ?_)
    refine WPe_st (st2 := [vI z43.1, vI v.2.2.2.1]) rfl ?_
    refine WPe_if_eq (pc := 43) 50 (dd dtX6_benches 24 rfl) (by decide) (fun h46 => ?_) (fun h46 => ?_)
    · refine WPe_iconst (pc := 50) (1 : Int32) (dd dtX6_benches 27 rfl) (by decide) ?_
      refine WPe_sub [0, 1, 2, 4] rfl ?_
      exact wpj6_benches_51 X w0 k27 hk27 v.1 v.2.1 v.2.2.1 v.2.2.2.2 (1 : Int32) v.2.2.2.1 z43.2
    · refine WPe_iconst (pc := 46) (3 : Int32) (dd dtX6_benches 25 rfl) (by decide) ?_
      refine WPe_goto (pc := 47) 51 (dd dtX6_benches 26 rfl) (by decide) ?_
      refine WPe_sub [0, 1, 2, 4] rfl ?_
      exact wpj6_benches_51 X w0 k27 hk27 v.1 v.2.1 v.2.2.1 v.2.2.2.2 (3 : Int32) v.2.2.2.1 z43.2
theorem wplb6_benches_27 (X : CX) (w0 : Wd)  : ∀ (n9 : Nat) (v : Nat × Int32 × Int32 × Int32 × Int32) (w : Wd), WPe rtI X (mX6_benches, 8, 0, 0, w0) 0 0 (loopF (b6_benches_27 ) n9 v w) 27 [(0, vR v.1), (1, vI v.2.1), (2, vI v.2.2.1), (3, vI v.2.2.2.1), (4, vI v.2.2.2.2)] [] w :=
  WPe_loop (rt := rtI) (X := X) (M := (mX6_benches, 8, 0, 0, w0)) (fun v : Nat × Int32 × Int32 × Int32 × Int32 => [(0, vR v.1), (1, vI v.2.1), (2, vI v.2.2.1), (3, vI v.2.2.2.1), (4, vI v.2.2.2.2)]) (fun k hk v w => wpb6_benches_27 X w0  k hk v w)
noncomputable def f6_benches (x0 : Nat) (x1 : Int32) (x2 : Int32) (w : Wd) : Option (Int32 × Wd) :=
  (f6_in x1 (1 : Int32) (10 : Int32) w).bind fun z1 => (if z1.1 = (0 : Int32) then (some ((-2 : Int32), z1.2)) else ((f6_in x2 (0 : Int32) (1 : Int32) z1.2).bind fun z5 => (if z5.1 = (0 : Int32) then (some ((-2 : Int32), z5.2)) else (loopF (b6_benches_27) FU (x0, x1, x2, (1 : Int32), (0 : Int32)) z5.2))))
theorem wpf6_benches (X : CX) (w0 : Wd) (x0 : Nat) (x1 : Int32) (x2 : Int32) (w : Wd) : WPe rtI X (mX6_benches, 8, 0, 0, w0) 0 0 (f6_benches x0 x1 x2 w) 0 [(0, vR x0), (1, vI x1), (2, vI x2)] [] w := by
  unfold f6_benches
  refine WPe_iload_n (pc := 0) 1 (dd dtX6_benches 0 rfl) rfl ?_
  refine WPe_iconst (pc := 1) (1 : Int32) (dd dtX6_benches 1 rfl) (by decide) ?_
  refine WPe_bipush (pc := 2) (10 : Int32) (dd dtX6_benches 2 rfl) (by decide) ?_
  refine WPe_callS (pc := 4) (rtc := rtI) (Mc := mX6_in) (d' := 1) (mc' := 0) (ms' := 0) [vI x1, vI (1 : Int32), vI (10 : Int32)] [] rfl (dd dtX6_benches 3 rfl) (okf6_in x1 (1 : Int32) (10 : Int32) w) moX6_in msX6_in (bw_mem4 14 rfl rfl) rfl (Nat.le_of_ble_eq_true rfl) ⟨(Nat.le_of_ble_eq_true rfl), (Nat.le_of_ble_eq_true rfl)⟩ ⟨(Nat.le_of_ble_eq_true rfl), (Nat.le_of_ble_eq_true rfl)⟩ (fun z1 h2 e3 => ?_)
  refine WPe_st (st2 := [vI z1.1]) rfl ?_
  refine WPe_if_eq (pc := 7) 19 (dd dtX6_benches 4 rfl) (by decide) (fun h4 => ?_) (fun h4 => ?_)
  · refine WPe_bipush (pc := 19) (-2 : Int32) (dd dtX6_benches 10 rfl) (by decide) ?_
    exact WPe_ireturn (pc := 21) (dd dtX6_benches 11 rfl) rfl rfl ⟨(Nat.le_of_ble_eq_true rfl), (Nat.le_of_ble_eq_true rfl)⟩
  · refine WPe_iload_n (pc := 10) 2 (dd dtX6_benches 5 rfl) rfl ?_
    refine WPe_iconst (pc := 11) (0 : Int32) (dd dtX6_benches 6 rfl) (by decide) ?_
    refine WPe_iconst (pc := 12) (1 : Int32) (dd dtX6_benches 7 rfl) (by decide) ?_
    refine WPe_callS (pc := 13) (rtc := rtI) (Mc := mX6_in) (d' := 1) (mc' := 0) (ms' := 0) [vI x2, vI (0 : Int32), vI (1 : Int32)] [] rfl (dd dtX6_benches 8 rfl) (okf6_in x2 (0 : Int32) (1 : Int32) z1.2) moX6_in msX6_in (bw_mem4 14 rfl rfl) rfl (Nat.le_of_ble_eq_true rfl) ⟨(Nat.le_of_ble_eq_true rfl), (Nat.le_of_ble_eq_true rfl)⟩ ⟨(Nat.le_of_ble_eq_true rfl), (Nat.le_of_ble_eq_true rfl)⟩ (fun z5 h6 e7 => ?_)
    refine WPe_st (st2 := [vI z5.1]) rfl ?_
    refine WPe_if_ne (pc := 16) 22 (dd dtX6_benches 9 rfl) (by decide) (fun h8 => ?_) (fun h8 => ?_)
    · refine WPe_bipush (pc := 19) (-2 : Int32) (dd dtX6_benches 10 rfl) (by decide) ?_
      exact WPe_ireturn (pc := 21) (dd dtX6_benches 11 rfl) rfl rfl ⟨(Nat.le_of_ble_eq_true rfl), (Nat.le_of_ble_eq_true rfl)⟩
    · refine WPe_iconst (pc := 22) (1 : Int32) (dd dtX6_benches 12 rfl) (by decide) ?_
      refine WPe_istore_n (pc := 23) (ls' := [(3, vI (1 : Int32)), (0, vR x0), (1, vI x1), (2, vI x2)]) (dd dtX6_benches 13 rfl) (Nat.le_of_ble_eq_true rfl) rfl ?_
      refine WPe_iconst (pc := 24) (0 : Int32) (dd dtX6_benches 14 rfl) (by decide) ?_
      refine WPe_istore (pc := 25) (ls' := [(4, vI (0 : Int32)), (3, vI (1 : Int32)), (0, vR x0), (1, vI x1), (2, vI x2)]) (dd dtX6_benches 15 rfl) (Nat.le_of_ble_eq_true rfl) rfl ?_
      refine WPe_sub [2, 3, 4, 1, 0] rfl ?_
      exact wplb6_benches_27 X w0  FU _ _
theorem okf6_benches (x0 : Nat) (x1 : Int32) (x2 : Int32) (w : Wd) : ∀ z, f6_benches x0 x1 x2 w = some z → OkM mX6_benches 8 0 0 [vR x0, vI x1, vI x2] w (rtI z.1) z.2 :=
  OkM.of (rt := rtI) moX6_benches (Nat.le_of_ble_eq_true rfl) (fun X => wpf6_benches X w x0 x1 x2 w)
def tbX6_joyBehind : List (Nat × Instr × Nat) := [(0, .aload_n 0, 1), (1, .iload_n 1, 1), (2, .invokevirtual 200, 3), (5, .aload_n 0, 1), (6, .invokevirtual 86, 3), (9, .ireturn, 1)]
set_option maxRecDepth 20000 in
theorem dtX6_joyBehind : ∀ x ∈ tbX6_joyBehind, decode cX6_joyBehind x.1 = .ok x.2 := by decide +kernel
noncomputable def f6_joyBehind (x0 : Nat) (x1 : Int32) (w : Wd) : Option (Int32 × Wd) :=
  ck (tg w x0 = 6) ((f6_goes x0 x1 w).bind fun z2 => ((f6_joyAll x0 z2.2).bind fun z5 => (some (z5.1, z5.2))))
theorem wpf6_joyBehind (X : CX) (w0 : Wd) (x0 : Nat) (x1 : Int32) (w : Wd) : WPe rtI X (mX6_joyBehind, 8, 0, 0, w0) 0 0 (f6_joyBehind x0 x1 w) 0 [(0, vR x0), (1, vI x1)] [] w := by
  unfold f6_joyBehind
  refine WPe_aload_n (pc := 0) 0 (dd dtX6_joyBehind 0 rfl) rfl ?_
  refine WPe_iload_n (pc := 1) 1 (dd dtX6_joyBehind 1 rfl) rfl ?_
  refine WPe_ck fun h1 => ?_
  refine WPe_callV (pc := 2) (rtc := rtV) (Mc := mX6_goes) (d' := 7) (mc' := 0) (ms' := 0) [vI x1] [] rfl (dd dtX6_joyBehind 2 rfl) (okf6_goes x0 x1 w) moX6_goes miX6_goes (bw_mem5 36 rfl rfl) (Or.inl ⟨_, _, _, _, (shE h1), rfl⟩) rfl (Nat.le_of_ble_eq_true rfl) ⟨(Nat.le_of_ble_eq_true rfl), (Nat.le_of_ble_eq_true rfl)⟩ ⟨(Nat.le_of_ble_eq_true rfl), (Nat.le_of_ble_eq_true rfl)⟩ (fun z2 h3 e4 => ?_)
  refine WPe_st (st2 := []) rfl ?_
  refine WPe_aload_n (pc := 5) 0 (dd dtX6_joyBehind 3 rfl) rfl ?_
  refine WPe_callV (pc := 6) (rtc := rtI) (Mc := mX6_joyAll) (d' := 1) (mc' := 0) (ms' := 0) [] [] rfl (dd dtX6_joyBehind 4 rfl) (okf6_joyAll x0 z2.2) moX6_joyAll miX6_joyAll (bw_mem4 162 rfl rfl) (Or.inl ⟨_, _, _, _, (e4.at (shE h1) (by decide)), rfl⟩) rfl (Nat.le_of_ble_eq_true rfl) ⟨(Nat.le_of_ble_eq_true rfl), (Nat.le_of_ble_eq_true rfl)⟩ ⟨(Nat.le_of_ble_eq_true rfl), (Nat.le_of_ble_eq_true rfl)⟩ (fun z5 h6 e7 => ?_)
  refine WPe_st (st2 := [vI z5.1]) rfl ?_
  exact WPe_ireturn (pc := 9) (dd dtX6_joyBehind 5 rfl) rfl rfl ⟨(Nat.le_of_ble_eq_true rfl), (Nat.le_of_ble_eq_true rfl)⟩
theorem okf6_joyBehind (x0 : Nat) (x1 : Int32) (w : Wd) : ∀ z, f6_joyBehind x0 x1 w = some z → OkM mX6_joyBehind 8 0 0 [vR x0, vI x1] w (rtI z.1) z.2 :=
  OkM.of (rt := rtI) moX6_joyBehind (Nat.le_of_ble_eq_true rfl) (fun X => wpf6_joyBehind X w x0 x1 w)
def tbX6_swap : List (Nat × Instr × Nat) := [(0, .iload_n 1, 1), (1, .iconst 0, 1), (2, .bipush 40, 2), (4, .invokestatic 75, 3), (7, .ifCond .eq 12, 3), (10, .iload_n 2, 1), (11, .iconst 0, 1), (12, .iconst 1, 1), (13, .invokestatic 75, 3), (16, .ifCond .ne 6, 3), (19, .bipush (-2), 2), (21, .ireturn, 1), (22, .iconst (-1), 1), (23, .istore_n 3, 1), (24, .aload_n 0, 1), (25, .invokevirtual 197, 3), (28, .aload_n 0, 1), (29, .iload_n 1, 1), (30, .invokevirtual 215, 3), (33, .istore 4, 2), (35, .aload_n 0, 1), (36, .invokevirtual 206, 3), (39, .iconst 0, 1), (40, .istore 5, 2), (42, .iload 5, 2), (44, .aload_n 0, 1), (45, .getfield 72, 3), (48, .if_icmp .ge 139, 3), (51, .iload 5, 2), (53, .iconst 1, 1), (54, .iadd, 1), (55, .istore 6, 2), (57, .iload 6, 2), (59, .aload_n 0, 1), (60, .getfield 72, 3), (63, .if_icmp .ge 118, 3), (66, .aload_n 0, 1), (67, .iload 5, 2), (69, .invokevirtual 79, 3), (72, .ifCond .eq 103, 3), (75, .aload_n 0, 1), (76, .iload 6, 2), (78, .invokevirtual 79, 3), (81, .ifCond .eq 94, 3), (84, .aload_n 0, 1), (85, .invokevirtual 197, 3), (88, .aload_n 0, 1), (89, .getfield 16, 3), (92, .iconst 3, 1), (93, .iload 5, 2), (95, .imul, 1), (96, .iaload, 1), (97, .istore 7, 2), (99, .aload_n 0, 1), (100, .getfield 16, 3), (103, .iconst 3, 1), (104, .iload 5, 2), (106, .imul, 1), (107, .aload_n 0, 1), (108, .getfield 16, 3), (111, .iconst 3, 1), (112, .iload 6, 2), (114, .imul, 1), (115, .iaload, 1), (116, .iastore, 1), (117, .aload_n 0, 1), (118, .getfield 16, 3), (121, .iconst 3, 1), (122, .iload 6, 2), (124, .imul, 1), (125, .iload 7, 2), (127, .iastore, 1), (128, .aload_n 0, 1), (129, .iload_n 1, 1), (130, .invokevirtual 215, 3), (133, .istore 8, 2), (135, .aload_n 0, 1), (136, .invokevirtual 206, 3), (139, .iload 8, 2), (141, .iload 4, 2), (143, .if_icmp .le 14, 3), (146, .bipush 10, 2), (148, .iload 5, 2), (150, .imul, 1), (151, .iload 6, 2), (153, .iadd, 1), (154, .goto 4, 3), (157, .iload_n 3, 1), (158, .istore_n 3, 1), (159, .iload 8, 2), (161, .iload 4, 2), (163, .if_icmp .le 8, 3), (166, .iload 8, 2), (168, .goto 5, 3), (171, .iload 4, 2), (173, .istore 4, 2), (175, .iinc 6 1, 3), (178, .goto (-121), 3), (181, .iinc 5 1, 3), (184, .goto (-142), 3), (187, .iload_n 2, 1), (188, .ifCond .ne 7, 3), (191, .iload_n 3, 1), (192, .goto 5, 3), (195, .iload 4, 2), (197, .ireturn, 1)]
set_option maxRecDepth 20000 in
theorem dtX6_swap : ∀ x ∈ tbX6_swap, decode cX6_swap x.1 = .ok x.2 := by decide +kernel
noncomputable def j6_swap_175 (k42 : Nat × Int32 × Int32 × Int32 × Int32 × Int32 → Wd → Option (Int32 × Wd)) (k57 : Nat × Int32 × Int32 × Int32 × Int32 × Int32 × Int32 → Wd → Option (Int32 × Wd)) (x0 : Nat) (x1 : Int32) (x2 : Int32) (x3 : Int32) (x4 : Int32) (x5 : Int32) (x6 : Int32) (w : Wd) : Option (Int32 × Wd) :=
  k57 (x0, x1, x2, x3, x4, x5, (x6 + (1 : Int32))) w
theorem wpj6_swap_175 (X : CX) (w0 : Wd) (k42 : Nat × Int32 × Int32 × Int32 × Int32 × Int32 → Wd → Option (Int32 × Wd)) (hk42 : ∀ (v : Nat × Int32 × Int32 × Int32 × Int32 × Int32) (w : Wd), WPe rtI X (mX6_swap, 9, 0, 0, w0) 0 0 (k42 v w) 42 [(0, vR v.1), (1, vI v.2.1), (2, vI v.2.2.1), (3, vI v.2.2.2.1), (4, vI v.2.2.2.2.1), (5, vI v.2.2.2.2.2)] [] w) (k57 : Nat × Int32 × Int32 × Int32 × Int32 × Int32 × Int32 → Wd → Option (Int32 × Wd)) (hk57 : ∀ (v : Nat × Int32 × Int32 × Int32 × Int32 × Int32 × Int32) (w : Wd), WPe rtI X (mX6_swap, 9, 0, 0, w0) 0 0 (k57 v w) 57 [(0, vR v.1), (1, vI v.2.1), (2, vI v.2.2.1), (3, vI v.2.2.2.1), (4, vI v.2.2.2.2.1), (5, vI v.2.2.2.2.2.1), (6, vI v.2.2.2.2.2.2)] [] w) (x0 : Nat) (x1 : Int32) (x2 : Int32) (x3 : Int32) (x4 : Int32) (x5 : Int32) (x6 : Int32) (w : Wd) : WPe rtI X (mX6_swap, 9, 0, 0, w0) 0 0 (j6_swap_175 k42 k57 x0 x1 x2 x3 x4 x5 x6 w) 175 [(0, vR x0), (1, vI x1), (2, vI x2), (3, vI x3), (4, vI x4), (5, vI x5), (6, vI x6)] [] w := by
  unfold j6_swap_175
  refine WPe_iinc (pc := 175) (ls' := [(6, vI (x6 + (1 : Int32))), (0, vR x0), (1, vI x1), (2, vI x2), (3, vI x3), (4, vI x4), (5, vI x5)]) 6 (x6 + (1 : Int32)) (dd dtX6_swap 96 rfl) rfl (congrArg (HAdd.hAdd _) (by decide : Int32.ofInt (1) = (1 : Int32))) (Nat.le_of_ble_eq_true rfl) rfl ?_
  refine WPe_goto (pc := 178) 57 (dd dtX6_swap 97 rfl) (by decide) ?_
  refine WPe_sub [1, 2, 3, 4, 5, 6, 0] rfl ?_
  exact hk57 (x0, x1, x2, x3, x4, x5, (x6 + (1 : Int32))) w
noncomputable def j6_swap_173 (k42 : Nat × Int32 × Int32 × Int32 × Int32 × Int32 → Wd → Option (Int32 × Wd)) (k57 : Nat × Int32 × Int32 × Int32 × Int32 × Int32 × Int32 → Wd → Option (Int32 × Wd)) (x0 : Nat) (x1 : Int32) (x2 : Int32) (x3 : Int32) (x5 : Int32) (x6 : Int32) (s0 : Int32) (w : Wd) : Option (Int32 × Wd) :=
  j6_swap_175 k42 k57 x0 x1 x2 x3 s0 x5 x6 w
theorem wpj6_swap_173 (X : CX) (w0 : Wd) (k42 : Nat × Int32 × Int32 × Int32 × Int32 × Int32 → Wd → Option (Int32 × Wd)) (hk42 : ∀ (v : Nat × Int32 × Int32 × Int32 × Int32 × Int32) (w : Wd), WPe rtI X (mX6_swap, 9, 0, 0, w0) 0 0 (k42 v w) 42 [(0, vR v.1), (1, vI v.2.1), (2, vI v.2.2.1), (3, vI v.2.2.2.1), (4, vI v.2.2.2.2.1), (5, vI v.2.2.2.2.2)] [] w) (k57 : Nat × Int32 × Int32 × Int32 × Int32 × Int32 × Int32 → Wd → Option (Int32 × Wd)) (hk57 : ∀ (v : Nat × Int32 × Int32 × Int32 × Int32 × Int32 × Int32) (w : Wd), WPe rtI X (mX6_swap, 9, 0, 0, w0) 0 0 (k57 v w) 57 [(0, vR v.1), (1, vI v.2.1), (2, vI v.2.2.1), (3, vI v.2.2.2.1), (4, vI v.2.2.2.2.1), (5, vI v.2.2.2.2.2.1), (6, vI v.2.2.2.2.2.2)] [] w) (x0 : Nat) (x1 : Int32) (x2 : Int32) (x3 : Int32) (x5 : Int32) (x6 : Int32) (s0 : Int32) (w : Wd) : WPe rtI X (mX6_swap, 9, 0, 0, w0) 0 0 (j6_swap_173 k42 k57 x0 x1 x2 x3 x5 x6 s0 w) 173 [(0, vR x0), (1, vI x1), (2, vI x2), (3, vI x3), (5, vI x5), (6, vI x6)] [vI s0] w := by
  unfold j6_swap_173
  refine WPe_istore (pc := 173) (ls' := [(4, vI s0), (0, vR x0), (1, vI x1), (2, vI x2), (3, vI x3), (5, vI x5), (6, vI x6)]) (dd dtX6_swap 95 rfl) (Nat.le_of_ble_eq_true rfl) rfl ?_
  refine WPe_sub [1, 2, 3, 4, 0, 5, 6] rfl ?_
  exact wpj6_swap_175 X w0 k42 hk42 k57 hk57 x0 x1 x2 x3 s0 x5 x6 w
noncomputable def j6_swap_158 (k42 : Nat × Int32 × Int32 × Int32 × Int32 × Int32 → Wd → Option (Int32 × Wd)) (k57 : Nat × Int32 × Int32 × Int32 × Int32 × Int32 × Int32 → Wd → Option (Int32 × Wd)) (x0 : Nat) (x1 : Int32) (x2 : Int32) (x4 : Int32) (x5 : Int32) (x6 : Int32) (x8 : Int32) (s0 : Int32) (w : Wd) : Option (Int32 × Wd) :=
  if x8 ≤ x4 then (j6_swap_173 k42 k57 x0 x1 x2 s0 x5 x6 x4 w) else (j6_swap_173 k42 k57 x0 x1 x2 s0 x5 x6 x8 w)
theorem wpj6_swap_158 (X : CX) (w0 : Wd) (k42 : Nat × Int32 × Int32 × Int32 × Int32 × Int32 → Wd → Option (Int32 × Wd)) (hk42 : ∀ (v : Nat × Int32 × Int32 × Int32 × Int32 × Int32) (w : Wd), WPe rtI X (mX6_swap, 9, 0, 0, w0) 0 0 (k42 v w) 42 [(0, vR v.1), (1, vI v.2.1), (2, vI v.2.2.1), (3, vI v.2.2.2.1), (4, vI v.2.2.2.2.1), (5, vI v.2.2.2.2.2)] [] w) (k57 : Nat × Int32 × Int32 × Int32 × Int32 × Int32 × Int32 → Wd → Option (Int32 × Wd)) (hk57 : ∀ (v : Nat × Int32 × Int32 × Int32 × Int32 × Int32 × Int32) (w : Wd), WPe rtI X (mX6_swap, 9, 0, 0, w0) 0 0 (k57 v w) 57 [(0, vR v.1), (1, vI v.2.1), (2, vI v.2.2.1), (3, vI v.2.2.2.1), (4, vI v.2.2.2.2.1), (5, vI v.2.2.2.2.2.1), (6, vI v.2.2.2.2.2.2)] [] w) (x0 : Nat) (x1 : Int32) (x2 : Int32) (x4 : Int32) (x5 : Int32) (x6 : Int32) (x8 : Int32) (s0 : Int32) (w : Wd) : WPe rtI X (mX6_swap, 9, 0, 0, w0) 0 0 (j6_swap_158 k42 k57 x0 x1 x2 x4 x5 x6 x8 s0 w) 158 [(0, vR x0), (1, vI x1), (2, vI x2), (4, vI x4), (5, vI x5), (6, vI x6), (8, vI x8)] [vI s0] w := by
  unfold j6_swap_158
  refine WPe_istore_n (pc := 158) (ls' := [(3, vI s0), (0, vR x0), (1, vI x1), (2, vI x2), (4, vI x4), (5, vI x5), (6, vI x6), (8, vI x8)]) (dd dtX6_swap 88 rfl) (Nat.le_of_ble_eq_true rfl) rfl ?_
  refine WPe_iload (pc := 159) 7 (dd dtX6_swap 89 rfl) rfl ?_
  refine WPe_iload (pc := 161) 4 (dd dtX6_swap 90 rfl) rfl ?_
  refine WPe_icmp_le (pc := 163) 171 (dd dtX6_swap 91 rfl) (by decide) (fun h50 => ?_) (fun h50 => ?_)
  · refine WPe_iload (pc := 171) 4 (dd dtX6_swap 94 rfl) rfl ?_
    refine WPe_sub [1, 2, 3, 0, 5, 6] rfl ?_
    exact wpj6_swap_173 X w0 k42 hk42 k57 hk57 x0 x1 x2 s0 x5 x6 x4 w
  · refine WPe_iload (pc := 166) 7 (dd dtX6_swap 92 rfl) rfl ?_
    refine WPe_goto (pc := 168) 173 (dd dtX6_swap 93 rfl) (by decide) ?_
    refine WPe_sub [1, 2, 3, 0, 5, 6] rfl ?_
    exact wpj6_swap_173 X w0 k42 hk42 k57 hk57 x0 x1 x2 s0 x5 x6 x8 w
noncomputable def b6_swap_57 (k42 : Nat × Int32 × Int32 × Int32 × Int32 × Int32 → Wd → Option (Int32 × Wd)) (k57 : Nat × Int32 × Int32 × Int32 × Int32 × Int32 × Int32 → Wd → Option (Int32 × Wd)) (v : Nat × Int32 × Int32 × Int32 × Int32 × Int32 × Int32) (w : Wd) : Option (Int32 × Wd) :=
  ck (tg w v.1 = 6) (if (wi w v.1 0) ≤ v.2.2.2.2.2.2 then (k42 (v.1, v.2.1, v.2.2.1, v.2.2.2.1, v.2.2.2.2.1, (v.2.2.2.2.2.1 + (1 : Int32))) w) else ((f6_isIn v.1 v.2.2.2.2.2.1 w).bind fun z24 => (if z24.1 = (0 : Int32) then (j6_swap_175 k42 k57 v.1 v.2.1 v.2.2.1 v.2.2.2.1 v.2.2.2.2.1 v.2.2.2.2.2.1 v.2.2.2.2.2.2 z24.2) else ((f6_isIn v.1 v.2.2.2.2.2.2 z24.2).bind fun z28 => (if z28.1 = (0 : Int32) then (j6_swap_175 k42 k57 v.1 v.2.1 v.2.2.1 v.2.2.2.1 v.2.2.2.2.1 v.2.2.2.2.2.1 v.2.2.2.2.2.2 z28.2) else ((f6_keeps v.1 z28.2).bind fun z32 => (ck (tg z32.2 (wr z32.2 v.1 3) = 20 ∧ vp_in ((3 : Int32) * v.2.2.2.2.2.1) (ln z32.2 (wr z32.2 v.1 3))) (ck (vp_in ((3 : Int32) * v.2.2.2.2.2.2) (ln z32.2 (wr z32.2 v.1 3))) (ck (vp_in ((3 : Int32) * v.2.2.2.2.2.1) (ln z32.2 (wr z32.2 v.1 3))) (lw (sI z32.2 (wr z32.2 v.1 3) (((3 : Int32) * v.2.2.2.2.2.1)).toNatClampNeg (wi z32.2 (wr z32.2 v.1 3) (((3 : Int32) * v.2.2.2.2.2.2)).toNatClampNeg)) fun w38 => (ck (tg w38 (wr w38 v.1 3) = 20 ∧ vp_in ((3 : Int32) * v.2.2.2.2.2.2) (ln w38 (wr w38 v.1 3))) (lw (sI w38 (wr w38 v.1 3) (((3 : Int32) * v.2.2.2.2.2.2)).toNatClampNeg (wi z32.2 (wr z32.2 v.1 3) (((3 : Int32) * v.2.2.2.2.2.1)).toNatClampNeg)) fun w41 => ((f6_joyBehind v.1 v.2.1 w41).bind fun z43 => ((f6_lays v.1 z43.2).bind fun z46 => (if z43.1 ≤ v.2.2.2.2.1 then (j6_swap_158 k42 k57 v.1 v.2.1 v.2.2.1 v.2.2.2.2.1 v.2.2.2.2.2.1 v.2.2.2.2.2.2 z43.1 v.2.2.2.1 z46.2) else (j6_swap_158 k42 k57 v.1 v.2.1 v.2.2.1 v.2.2.2.2.1 v.2.2.2.2.2.1 v.2.2.2.2.2.2 z43.1 (((10 : Int32) * v.2.2.2.2.2.1) + v.2.2.2.2.2.2) z46.2))))))))))))))))
theorem wpb6_swap_57 (X : CX) (w0 : Wd) (k42 : Nat × Int32 × Int32 × Int32 × Int32 × Int32 → Wd → Option (Int32 × Wd)) (hk42 : ∀ (v : Nat × Int32 × Int32 × Int32 × Int32 × Int32) (w : Wd), WPe rtI X (mX6_swap, 9, 0, 0, w0) 0 0 (k42 v w) 42 [(0, vR v.1), (1, vI v.2.1), (2, vI v.2.2.1), (3, vI v.2.2.2.1), (4, vI v.2.2.2.2.1), (5, vI v.2.2.2.2.2)] [] w) (k57 : Nat × Int32 × Int32 × Int32 × Int32 × Int32 × Int32 → Wd → Option (Int32 × Wd)) (hk57 : ∀ (v : Nat × Int32 × Int32 × Int32 × Int32 × Int32 × Int32) (w : Wd), WPe rtI X (mX6_swap, 9, 0, 0, w0) 0 0 (k57 v w) 57 [(0, vR v.1), (1, vI v.2.1), (2, vI v.2.2.1), (3, vI v.2.2.2.1), (4, vI v.2.2.2.2.1), (5, vI v.2.2.2.2.2.1), (6, vI v.2.2.2.2.2.2)] [] w) (v : Nat × Int32 × Int32 × Int32 × Int32 × Int32 × Int32) (w : Wd) : WPe rtI X (mX6_swap, 9, 0, 0, w0) 0 0 (b6_swap_57 k42 k57 v w) 57 [(0, vR v.1), (1, vI v.2.1), (2, vI v.2.2.1), (3, vI v.2.2.2.1), (4, vI v.2.2.2.2.1), (5, vI v.2.2.2.2.2.1), (6, vI v.2.2.2.2.2.2)] [] w := by
  unfold b6_swap_57
  refine WPe_iload (pc := 57) 6 (dd dtX6_swap 32 rfl) rfl ?_
  refine WPe_aload_n (pc := 59) 0 (dd dtX6_swap 33 rfl) rfl ?_
  refine WPe_ck fun h22 => ?_
  refine WPe_getI (pc := 60) (t := 6) (C := RX6) (T := TX6) 0 (dd dtX6_swap 34 rfl) (shE h22) rfl (Nat.le_of_ble_eq_true rfl) rfl (bw_mem4 53 rfl rfl) ?_
  refine WPe_icmp_ge (pc := 63) 181 (dd dtX6_swap 35 rfl) (by decide) (fun h23 => ?_) (fun h23 => ?_)
  · refine WPe_iinc (pc := 181) (ls' := [(5, vI (v.2.2.2.2.2.1 + (1 : Int32))), (0, vR v.1), (1, vI v.2.1), (2, vI v.2.2.1), (3, vI v.2.2.2.1), (4, vI v.2.2.2.2.1), (6, vI v.2.2.2.2.2.2)]) 5 (v.2.2.2.2.2.1 + (1 : Int32)) (dd dtX6_swap 98 rfl) rfl (congrArg (HAdd.hAdd _) (by decide : Int32.ofInt (1) = (1 : Int32))) (Nat.le_of_ble_eq_true rfl) rfl ?_
    refine WPe_goto (pc := 184) 42 (dd dtX6_swap 99 rfl) (by decide) ?_
    refine WPe_sub [1, 2, 3, 4, 5, 0] rfl ?_
    exact hk42 (v.1, v.2.1, v.2.2.1, v.2.2.2.1, v.2.2.2.2.1, (v.2.2.2.2.2.1 + (1 : Int32))) w
  · refine WPe_aload_n (pc := 66) 0 (dd dtX6_swap 36 rfl) rfl ?_
    refine WPe_iload (pc := 67) 5 (dd dtX6_swap 37 rfl) rfl ?_
    refine WPe_callV (pc := 69) (rtc := rtI) (Mc := mX6_isIn) (d' := 1) (mc' := 0) (ms' := 0) [vI v.2.2.2.2.2.1] [] rfl (dd dtX6_swap 38 rfl) (okf6_isIn v.1 v.2.2.2.2.2.1 w) moX6_isIn miX6_isIn (bw_mem4 158 rfl rfl) (Or.inl ⟨_, _, _, _, (shE h22), rfl⟩) rfl (Nat.le_of_ble_eq_true rfl) ⟨(Nat.le_of_ble_eq_true rfl), (Nat.le_of_ble_eq_true rfl)⟩ ⟨(Nat.le_of_ble_eq_true rfl), (Nat.le_of_ble_eq_true rfl)⟩ (fun z24 h25 e26 => ?_)
    refine WPe_st (st2 := [vI z24.1]) rfl ?_
    refine WPe_if_eq (pc := 72) 175 (dd dtX6_swap 39 rfl) (by decide) (fun h27 => ?_) (fun h27 => ?_)
    · refine WPe_sub [0, 1, 2, 3, 4, 5, 6] rfl ?_
      exact wpj6_swap_175 X w0 k42 hk42 k57 hk57 v.1 v.2.1 v.2.2.1 v.2.2.2.1 v.2.2.2.2.1 v.2.2.2.2.2.1 v.2.2.2.2.2.2 z24.2
    · refine WPe_aload_n (pc := 75) 0 (dd dtX6_swap 40 rfl) rfl ?_
      refine WPe_iload (pc := 76) 6 (dd dtX6_swap 41 rfl) rfl ?_
      refine WPe_callV (pc := 78) (rtc := rtI) (Mc := mX6_isIn) (d' := 1) (mc' := 0) (ms' := 0) [vI v.2.2.2.2.2.2] [] rfl (dd dtX6_swap 42 rfl) (okf6_isIn v.1 v.2.2.2.2.2.2 z24.2) moX6_isIn miX6_isIn (bw_mem4 158 rfl rfl) (Or.inl ⟨_, _, _, _, (e26.at (shE h22) (by decide)), rfl⟩) rfl (Nat.le_of_ble_eq_true rfl) ⟨(Nat.le_of_ble_eq_true rfl), (Nat.le_of_ble_eq_true rfl)⟩ ⟨(Nat.le_of_ble_eq_true rfl), (Nat.le_of_ble_eq_true rfl)⟩ (fun z28 h29 e30 => ?_)
      refine WPe_st (st2 := [vI z28.1]) rfl ?_
      refine WPe_if_eq (pc := 81) 175 (dd dtX6_swap 43 rfl) (by decide) (fun h31 => ?_) (fun h31 => ?_)
      · refine WPe_sub [0, 1, 2, 3, 4, 5, 6] rfl ?_
        exact wpj6_swap_175 X w0 k42 hk42 k57 hk57 v.1 v.2.1 v.2.2.1 v.2.2.2.1 v.2.2.2.2.1 v.2.2.2.2.2.1 v.2.2.2.2.2.2 z28.2
      · refine WPe_aload_n (pc := 84) 0 (dd dtX6_swap 44 rfl) rfl ?_
        refine WPe_callV (pc := 85) (rtc := rtV) (Mc := mX6_keeps) (d' := 1) (mc' := 0) (ms' := 0) [] [] rfl (dd dtX6_swap 45 rfl) (okf6_keeps v.1 z28.2) moX6_keeps miX6_keeps (bw_mem5 32 rfl rfl) (Or.inl ⟨_, _, _, _, (e30.at (e26.at (shE h22) (by decide)) (by decide)), rfl⟩) rfl (Nat.le_of_ble_eq_true rfl) ⟨(Nat.le_of_ble_eq_true rfl), (Nat.le_of_ble_eq_true rfl)⟩ ⟨(Nat.le_of_ble_eq_true rfl), (Nat.le_of_ble_eq_true rfl)⟩ (fun z32 h33 e34 => ?_)
        refine WPe_st (st2 := []) rfl ?_
        refine WPe_aload_n (pc := 88) 0 (dd dtX6_swap 46 rfl) rfl ?_
        refine WPe_getR (pc := 89) (t := 6) (C := RX6) (T := TX6) 3 (dd dtX6_swap 47 rfl) (e34.at (e30.at (e26.at (shE h22) (by decide)) (by decide)) (by decide)) rfl (Nat.le_of_ble_eq_true rfl) rfl (bw_mem4 56 rfl rfl) ?_
        refine WPe_iconst (pc := 92) (3 : Int32) (dd dtX6_swap 48 rfl) (by decide) ?_
        refine WPe_iload (pc := 93) 5 (dd dtX6_swap 49 rfl) rfl ?_
        refine WPe_imul (pc := 95) (dd dtX6_swap 50 rfl) ?_
        refine WPe_ck fun h35 => ?_
        refine WPe_iald (pc := 96) (dd dtX6_swap 51 rfl) (shE h35.1) h35.2 ?_
        refine WPe_istore (pc := 97) (ls' := [(7, vI (wi z32.2 (wr z32.2 v.1 3) (((3 : Int32) * v.2.2.2.2.2.1)).toNatClampNeg)), (0, vR v.1), (1, vI v.2.1), (2, vI v.2.2.1), (3, vI v.2.2.2.1), (4, vI v.2.2.2.2.1), (5, vI v.2.2.2.2.2.1), (6, vI v.2.2.2.2.2.2)]) (dd dtX6_swap 52 rfl) (Nat.le_of_ble_eq_true rfl) rfl ?_
        refine WPe_aload_n (pc := 99) 1 (dd dtX6_swap 53 rfl) rfl ?_
        refine WPe_getR (pc := 100) (t := 6) (C := RX6) (T := TX6) 3 (dd dtX6_swap 54 rfl) (e34.at (e30.at (e26.at (shE h22) (by decide)) (by decide)) (by decide)) rfl (Nat.le_of_ble_eq_true rfl) rfl (bw_mem4 56 rfl rfl) ?_
        refine WPe_iconst (pc := 103) (3 : Int32) (dd dtX6_swap 55 rfl) (by decide) ?_
        refine WPe_iload (pc := 104) 6 (dd dtX6_swap 56 rfl) rfl ?_
        refine WPe_imul (pc := 106) (dd dtX6_swap 57 rfl) ?_
        refine WPe_aload_n (pc := 107) 1 (dd dtX6_swap 58 rfl) rfl ?_
        refine WPe_getR (pc := 108) (t := 6) (C := RX6) (T := TX6) 3 (dd dtX6_swap 59 rfl) (e34.at (e30.at (e26.at (shE h22) (by decide)) (by decide)) (by decide)) rfl (Nat.le_of_ble_eq_true rfl) rfl (bw_mem4 56 rfl rfl) ?_
        refine WPe_iconst (pc := 111) (3 : Int32) (dd dtX6_swap 60 rfl) (by decide) ?_
        refine WPe_iload (pc := 112) 7 (dd dtX6_swap 61 rfl) rfl ?_
        refine WPe_imul (pc := 114) (dd dtX6_swap 62 rfl) ?_
        refine WPe_ck fun h36 => ?_
        refine WPe_iald (pc := 115) (dd dtX6_swap 63 rfl) (shL (shE h35.1)) h36 ?_
        refine WPe_ck fun h37 => ?_
        refine WPe_iast (pc := 116) (dd dtX6_swap 64 rfl) (shL (shE h35.1)) h37 ?_
        refine WPe_lw fun w38 e39 => ?_
        refine WPe_aload_n (pc := 117) 1 (dd dtX6_swap 65 rfl) rfl ?_
        refine WPe_getR (pc := 118) (t := 6) (C := RX6) (T := TX6) 3 (dd dtX6_swap 66 rfl) (shI e39 (e34.at (e30.at (e26.at (shE h22) (by decide)) (by decide)) (by decide))) rfl (Nat.le_of_ble_eq_true rfl) rfl (bw_mem4 56 rfl rfl) ?_
        refine WPe_iconst (pc := 121) (3 : Int32) (dd dtX6_swap 67 rfl) (by decide) ?_
        refine WPe_iload (pc := 122) 7 (dd dtX6_swap 68 rfl) rfl ?_
        refine WPe_imul (pc := 124) (dd dtX6_swap 69 rfl) ?_
        refine WPe_iload (pc := 125) 0 (dd dtX6_swap 70 rfl) rfl ?_
        refine WPe_ck fun h40 => ?_
        refine WPe_iast (pc := 127) (dd dtX6_swap 71 rfl) (shE h40.1) h40.2 ?_
        refine WPe_lw fun w41 e42 => ?_
        refine WPe_aload_n (pc := 128) 1 (dd dtX6_swap 72 rfl) rfl ?_
        refine WPe_iload_n (pc := 129) 2 (dd dtX6_swap 73 rfl) rfl ?_
        refine WPe_callV (pc := 130) (rtc := rtI) (Mc := mX6_joyBehind) (d' := 8) (mc' := 0) (ms' := 0) [vI v.2.1] [] rfl (dd dtX6_swap 74 rfl) (okf6_joyBehind v.1 v.2.1 w41) moX6_joyBehind miX6_joyBehind (bw_mem5 80 rfl rfl) (Or.inl ⟨_, _, _, _, (shI e42 (shI e39 (e34.at (e30.at (e26.at (shE h22) (by decide)) (by decide)) (by decide)))), rfl⟩) rfl (Nat.le_of_ble_eq_true rfl) ⟨(Nat.le_of_ble_eq_true rfl), (Nat.le_of_ble_eq_true rfl)⟩ ⟨(Nat.le_of_ble_eq_true rfl), (Nat.le_of_ble_eq_true rfl)⟩ (fun z43 h44 e45 => ?_)
        refine WPe_st (st2 := [vI z43.1]) rfl ?_
        refine WPe_istore (pc := 133) (ls' := [(8, vI z43.1), (7, vI (wi z32.2 (wr z32.2 v.1 3) (((3 : Int32) * v.2.2.2.2.2.1)).toNatClampNeg)), (0, vR v.1), (1, vI v.2.1), (2, vI v.2.2.1), (3, vI v.2.2.2.1), (4, vI v.2.2.2.2.1), (5, vI v.2.2.2.2.2.1), (6, vI v.2.2.2.2.2.2)]) (dd dtX6_swap 75 rfl) (Nat.le_of_ble_eq_true rfl) rfl ?_
        refine WPe_aload_n (pc := 135) 2 (dd dtX6_swap 76 rfl) rfl ?_
        refine WPe_callV (pc := 136) (rtc := rtV) (Mc := mX6_lays) (d' := 1) (mc' := 0) (ms' := 0) [] [] rfl (dd dtX6_swap 77 rfl) (okf6_lays v.1 z43.2) moX6_lays miX6_lays (bw_mem5 48 rfl rfl) (Or.inl ⟨_, _, _, _, (e45.at (shI e42 (shI e39 (e34.at (e30.at (e26.at (shE h22) (by decide)) (by decide)) (by decide)))) (by decide)), rfl⟩) rfl (Nat.le_of_ble_eq_true rfl) ⟨(Nat.le_of_ble_eq_true rfl), (Nat.le_of_ble_eq_true rfl)⟩ ⟨(Nat.le_of_ble_eq_true rfl), (Nat.le_of_ble_eq_true rfl)⟩ (fun z46 h47 e48 => ?_)
        refine WPe_st (st2 := []) rfl ?_
        refine WPe_iload (pc := 139) 0 (dd dtX6_swap 78 rfl) rfl ?_
        refine WPe_iload (pc := 141) 6 (dd dtX6_swap 79 rfl) rfl ?_
        refine WPe_icmp_le (pc := 143) 157 (dd dtX6_swap 80 rfl) (by decide) (fun h49 => ?_) (fun h49 => ?_)
        · refine WPe_iload_n (pc := 157) 5 (dd dtX6_swap 87 rfl) rfl ?_
          refine WPe_sub [2, 3, 4, 6, 7, 8, 0] rfl ?_
          exact wpj6_swap_158 X w0 k42 hk42 k57 hk57 v.1 v.2.1 v.2.2.1 v.2.2.2.2.1 v.2.2.2.2.2.1 v.2.2.2.2.2.2 z43.1 v.2.2.2.1 z46.2
        · refine WPe_bipush (pc := 146) (10 : Int32) (dd dtX6_swap 81 rfl) (by decide) ?_
          refine WPe_iload (pc := 148) 7 (dd dtX6_swap 82 rfl) rfl ?_
          refine WPe_imul (pc := 150) (dd dtX6_swap 83 rfl) ?_
          refine WPe_iload (pc := 151) 8 (dd dtX6_swap 84 rfl) rfl ?_
          refine WPe_iadd (pc := 153) (dd dtX6_swap 85 rfl) ?_
          refine WPe_goto (pc := 154) 158 (dd dtX6_swap 86 rfl) (by decide) ?_
          refine WPe_sub [2, 3, 4, 6, 7, 8, 0] rfl ?_
          exact wpj6_swap_158 X w0 k42 hk42 k57 hk57 v.1 v.2.1 v.2.2.1 v.2.2.2.2.1 v.2.2.2.2.2.1 v.2.2.2.2.2.2 z43.1 (((10 : Int32) * v.2.2.2.2.2.1) + v.2.2.2.2.2.2) z46.2
theorem wplb6_swap_57 (X : CX) (w0 : Wd) (k42 : Nat × Int32 × Int32 × Int32 × Int32 × Int32 → Wd → Option (Int32 × Wd)) (hk42 : ∀ (v : Nat × Int32 × Int32 × Int32 × Int32 × Int32) (w : Wd), WPe rtI X (mX6_swap, 9, 0, 0, w0) 0 0 (k42 v w) 42 [(0, vR v.1), (1, vI v.2.1), (2, vI v.2.2.1), (3, vI v.2.2.2.1), (4, vI v.2.2.2.2.1), (5, vI v.2.2.2.2.2)] [] w) : ∀ (n9 : Nat) (v : Nat × Int32 × Int32 × Int32 × Int32 × Int32 × Int32) (w : Wd), WPe rtI X (mX6_swap, 9, 0, 0, w0) 0 0 (loopF (b6_swap_57 k42) n9 v w) 57 [(0, vR v.1), (1, vI v.2.1), (2, vI v.2.2.1), (3, vI v.2.2.2.1), (4, vI v.2.2.2.2.1), (5, vI v.2.2.2.2.2.1), (6, vI v.2.2.2.2.2.2)] [] w :=
  WPe_loop (rt := rtI) (X := X) (M := (mX6_swap, 9, 0, 0, w0)) (fun v : Nat × Int32 × Int32 × Int32 × Int32 × Int32 × Int32 => [(0, vR v.1), (1, vI v.2.1), (2, vI v.2.2.1), (3, vI v.2.2.2.1), (4, vI v.2.2.2.2.1), (5, vI v.2.2.2.2.2.1), (6, vI v.2.2.2.2.2.2)]) (fun k hk v w => wpb6_swap_57 X w0 k42 hk42 k hk v w)
noncomputable def b6_swap_42 (k42 : Nat × Int32 × Int32 × Int32 × Int32 × Int32 → Wd → Option (Int32 × Wd)) (v : Nat × Int32 × Int32 × Int32 × Int32 × Int32) (w : Wd) : Option (Int32 × Wd) :=
  ck (tg w v.1 = 6) (if (wi w v.1 0) ≤ v.2.2.2.2.2 then (if v.2.2.1 = (0 : Int32) then (some (v.2.2.2.1, w)) else (some (v.2.2.2.2.1, w))) else (loopF (b6_swap_57 k42) FU (v.1, v.2.1, v.2.2.1, v.2.2.2.1, v.2.2.2.2.1, v.2.2.2.2.2, (v.2.2.2.2.2 + (1 : Int32))) w))
theorem wpb6_swap_42 (X : CX) (w0 : Wd) (k42 : Nat × Int32 × Int32 × Int32 × Int32 × Int32 → Wd → Option (Int32 × Wd)) (hk42 : ∀ (v : Nat × Int32 × Int32 × Int32 × Int32 × Int32) (w : Wd), WPe rtI X (mX6_swap, 9, 0, 0, w0) 0 0 (k42 v w) 42 [(0, vR v.1), (1, vI v.2.1), (2, vI v.2.2.1), (3, vI v.2.2.2.1), (4, vI v.2.2.2.2.1), (5, vI v.2.2.2.2.2)] [] w) (v : Nat × Int32 × Int32 × Int32 × Int32 × Int32) (w : Wd) : WPe rtI X (mX6_swap, 9, 0, 0, w0) 0 0 (b6_swap_42 k42 v w) 42 [(0, vR v.1), (1, vI v.2.1), (2, vI v.2.2.1), (3, vI v.2.2.2.1), (4, vI v.2.2.2.2.1), (5, vI v.2.2.2.2.2)] [] w := by
  unfold b6_swap_42
  refine WPe_iload (pc := 42) 5 (dd dtX6_swap 24 rfl) rfl ?_
  refine WPe_aload_n (pc := 44) 0 (dd dtX6_swap 25 rfl) rfl ?_
  refine WPe_ck fun h19 => ?_
  refine WPe_getI (pc := 45) (t := 6) (C := RX6) (T := TX6) 0 (dd dtX6_swap 26 rfl) (shE h19) rfl (Nat.le_of_ble_eq_true rfl) rfl (bw_mem4 53 rfl rfl) ?_
  refine WPe_icmp_ge (pc := 48) 187 (dd dtX6_swap 27 rfl) (by decide) (fun h20 => ?_) (fun h20 => ?_)
  · refine WPe_iload_n (pc := 187) 2 (dd dtX6_swap 100 rfl) rfl ?_
    refine WPe_if_ne (pc := 188) 195 (dd dtX6_swap 101 rfl) (by decide) (fun h21 => ?_) (fun h21 => ?_)
    · refine WPe_iload_n (pc := 191) 3 (dd dtX6_swap 102 rfl) rfl ?_
      refine WPe_goto (pc := 192) 197 (dd dtX6_swap 103 rfl) (by decide) ?_
      exact WPe_ireturn (pc := 197) (dd dtX6_swap 105 rfl) rfl rfl ⟨(Nat.le_of_ble_eq_true rfl), (Nat.le_of_ble_eq_true rfl)⟩
    · refine WPe_iload (pc := 195) 4 (dd dtX6_swap 104 rfl) rfl ?_
      exact WPe_ireturn (pc := 197) (dd dtX6_swap 105 rfl) rfl rfl ⟨(Nat.le_of_ble_eq_true rfl), (Nat.le_of_ble_eq_true rfl)⟩
  · refine WPe_iload (pc := 51) 5 (dd dtX6_swap 28 rfl) rfl ?_
    refine WPe_iconst (pc := 53) (1 : Int32) (dd dtX6_swap 29 rfl) (by decide) ?_
    refine WPe_iadd (pc := 54) (dd dtX6_swap 30 rfl) ?_
    refine WPe_istore (pc := 55) (ls' := [(6, vI (v.2.2.2.2.2 + (1 : Int32))), (0, vR v.1), (1, vI v.2.1), (2, vI v.2.2.1), (3, vI v.2.2.2.1), (4, vI v.2.2.2.2.1), (5, vI v.2.2.2.2.2)]) (dd dtX6_swap 31 rfl) (Nat.le_of_ble_eq_true rfl) rfl ?_
    refine WPe_sub [1, 2, 3, 4, 5, 6, 0] rfl ?_
    exact wplb6_swap_57 X w0 k42 hk42 FU _ _
theorem wplb6_swap_42 (X : CX) (w0 : Wd)  : ∀ (n9 : Nat) (v : Nat × Int32 × Int32 × Int32 × Int32 × Int32) (w : Wd), WPe rtI X (mX6_swap, 9, 0, 0, w0) 0 0 (loopF (b6_swap_42 ) n9 v w) 42 [(0, vR v.1), (1, vI v.2.1), (2, vI v.2.2.1), (3, vI v.2.2.2.1), (4, vI v.2.2.2.2.1), (5, vI v.2.2.2.2.2)] [] w :=
  WPe_loop (rt := rtI) (X := X) (M := (mX6_swap, 9, 0, 0, w0)) (fun v : Nat × Int32 × Int32 × Int32 × Int32 × Int32 => [(0, vR v.1), (1, vI v.2.1), (2, vI v.2.2.1), (3, vI v.2.2.2.1), (4, vI v.2.2.2.2.1), (5, vI v.2.2.2.2.2)]) (fun k hk v w => wpb6_swap_42 X w0  k hk v w)
noncomputable def f6_swap (x0 : Nat) (x1 : Int32) (x2 : Int32) (w : Wd) : Option (Int32 × Wd) :=
  (f6_in x1 (0 : Int32) (40 : Int32) w).bind fun z1 => (if z1.1 = (0 : Int32) then (some ((-2 : Int32), z1.2)) else ((f6_in x2 (0 : Int32) (1 : Int32) z1.2).bind fun z5 => (if z5.1 = (0 : Int32) then (some ((-2 : Int32), z5.2)) else (ck (tg z5.2 x0 = 6) ((f6_keeps x0 z5.2).bind fun z10 => ((f6_joyBehind x0 x1 z10.2).bind fun z13 => ((f6_lays x0 z13.2).bind fun z16 => (loopF (b6_swap_42) FU (x0, x1, x2, (-1 : Int32), z13.1, (0 : Int32)) z16.2))))))))
theorem wpf6_swap (X : CX) (w0 : Wd) (x0 : Nat) (x1 : Int32) (x2 : Int32) (w : Wd) : WPe rtI X (mX6_swap, 9, 0, 0, w0) 0 0 (f6_swap x0 x1 x2 w) 0 [(0, vR x0), (1, vI x1), (2, vI x2)] [] w := by
  unfold f6_swap
  refine WPe_iload_n (pc := 0) 1 (dd dtX6_swap 0 rfl) rfl ?_
  refine WPe_iconst (pc := 1) (0 : Int32) (dd dtX6_swap 1 rfl) (by decide) ?_
  refine WPe_bipush (pc := 2) (40 : Int32) (dd dtX6_swap 2 rfl) (by decide) ?_
  refine WPe_callS (pc := 4) (rtc := rtI) (Mc := mX6_in) (d' := 1) (mc' := 0) (ms' := 0) [vI x1, vI (0 : Int32), vI (40 : Int32)] [] rfl (dd dtX6_swap 3 rfl) (okf6_in x1 (0 : Int32) (40 : Int32) w) moX6_in msX6_in (bw_mem4 14 rfl rfl) rfl (Nat.le_of_ble_eq_true rfl) ⟨(Nat.le_of_ble_eq_true rfl), (Nat.le_of_ble_eq_true rfl)⟩ ⟨(Nat.le_of_ble_eq_true rfl), (Nat.le_of_ble_eq_true rfl)⟩ (fun z1 h2 e3 => ?_)
  refine WPe_st (st2 := [vI z1.1]) rfl ?_
  refine WPe_if_eq (pc := 7) 19 (dd dtX6_swap 4 rfl) (by decide) (fun h4 => ?_) (fun h4 => ?_)
  · refine WPe_bipush (pc := 19) (-2 : Int32) (dd dtX6_swap 10 rfl) (by decide) ?_
    exact WPe_ireturn (pc := 21) (dd dtX6_swap 11 rfl) rfl rfl ⟨(Nat.le_of_ble_eq_true rfl), (Nat.le_of_ble_eq_true rfl)⟩
  · refine WPe_iload_n (pc := 10) 2 (dd dtX6_swap 5 rfl) rfl ?_
    refine WPe_iconst (pc := 11) (0 : Int32) (dd dtX6_swap 6 rfl) (by decide) ?_
    refine WPe_iconst (pc := 12) (1 : Int32) (dd dtX6_swap 7 rfl) (by decide) ?_
    refine WPe_callS (pc := 13) (rtc := rtI) (Mc := mX6_in) (d' := 1) (mc' := 0) (ms' := 0) [vI x2, vI (0 : Int32), vI (1 : Int32)] [] rfl (dd dtX6_swap 8 rfl) (okf6_in x2 (0 : Int32) (1 : Int32) z1.2) moX6_in msX6_in (bw_mem4 14 rfl rfl) rfl (Nat.le_of_ble_eq_true rfl) ⟨(Nat.le_of_ble_eq_true rfl), (Nat.le_of_ble_eq_true rfl)⟩ ⟨(Nat.le_of_ble_eq_true rfl), (Nat.le_of_ble_eq_true rfl)⟩ (fun z5 h6 e7 => ?_)
    refine WPe_st (st2 := [vI z5.1]) rfl ?_
    refine WPe_if_ne (pc := 16) 22 (dd dtX6_swap 9 rfl) (by decide) (fun h8 => ?_) (fun h8 => ?_)
    · refine WPe_bipush (pc := 19) (-2 : Int32) (dd dtX6_swap 10 rfl) (by decide) ?_
      exact WPe_ireturn (pc := 21) (dd dtX6_swap 11 rfl) rfl rfl ⟨(Nat.le_of_ble_eq_true rfl), (Nat.le_of_ble_eq_true rfl)⟩
    · refine WPe_iconst (pc := 22) (-1 : Int32) (dd dtX6_swap 12 rfl) (by decide) ?_
      refine WPe_istore_n (pc := 23) (ls' := [(3, vI (-1 : Int32)), (0, vR x0), (1, vI x1), (2, vI x2)]) (dd dtX6_swap 13 rfl) (Nat.le_of_ble_eq_true rfl) rfl ?_
      refine WPe_aload_n (pc := 24) 1 (dd dtX6_swap 14 rfl) rfl ?_
      refine WPe_ck fun h9 => ?_
      refine WPe_callV (pc := 25) (rtc := rtV) (Mc := mX6_keeps) (d' := 1) (mc' := 0) (ms' := 0) [] [] rfl (dd dtX6_swap 15 rfl) (okf6_keeps x0 z5.2) moX6_keeps miX6_keeps (bw_mem5 32 rfl rfl) (Or.inl ⟨_, _, _, _, (shE h9), rfl⟩) rfl (Nat.le_of_ble_eq_true rfl) ⟨(Nat.le_of_ble_eq_true rfl), (Nat.le_of_ble_eq_true rfl)⟩ ⟨(Nat.le_of_ble_eq_true rfl), (Nat.le_of_ble_eq_true rfl)⟩ (fun z10 h11 e12 => ?_)
      refine WPe_st (st2 := []) rfl ?_
      refine WPe_aload_n (pc := 28) 1 (dd dtX6_swap 16 rfl) rfl ?_
      refine WPe_iload_n (pc := 29) 2 (dd dtX6_swap 17 rfl) rfl ?_
      refine WPe_callV (pc := 30) (rtc := rtI) (Mc := mX6_joyBehind) (d' := 8) (mc' := 0) (ms' := 0) [vI x1] [] rfl (dd dtX6_swap 18 rfl) (okf6_joyBehind x0 x1 z10.2) moX6_joyBehind miX6_joyBehind (bw_mem5 80 rfl rfl) (Or.inl ⟨_, _, _, _, (e12.at (shE h9) (by decide)), rfl⟩) rfl (Nat.le_of_ble_eq_true rfl) ⟨(Nat.le_of_ble_eq_true rfl), (Nat.le_of_ble_eq_true rfl)⟩ ⟨(Nat.le_of_ble_eq_true rfl), (Nat.le_of_ble_eq_true rfl)⟩ (fun z13 h14 e15 => ?_)
      refine WPe_st (st2 := [vI z13.1]) rfl ?_
      refine WPe_istore (pc := 33) (ls' := [(4, vI z13.1), (3, vI (-1 : Int32)), (0, vR x0), (1, vI x1), (2, vI x2)]) (dd dtX6_swap 19 rfl) (Nat.le_of_ble_eq_true rfl) rfl ?_
      refine WPe_aload_n (pc := 35) 2 (dd dtX6_swap 20 rfl) rfl ?_
      refine WPe_callV (pc := 36) (rtc := rtV) (Mc := mX6_lays) (d' := 1) (mc' := 0) (ms' := 0) [] [] rfl (dd dtX6_swap 21 rfl) (okf6_lays x0 z13.2) moX6_lays miX6_lays (bw_mem5 48 rfl rfl) (Or.inl ⟨_, _, _, _, (e15.at (e12.at (shE h9) (by decide)) (by decide)), rfl⟩) rfl (Nat.le_of_ble_eq_true rfl) ⟨(Nat.le_of_ble_eq_true rfl), (Nat.le_of_ble_eq_true rfl)⟩ ⟨(Nat.le_of_ble_eq_true rfl), (Nat.le_of_ble_eq_true rfl)⟩ (fun z16 h17 e18 => ?_)
      refine WPe_st (st2 := []) rfl ?_
      refine WPe_iconst (pc := 39) (0 : Int32) (dd dtX6_swap 22 rfl) (by decide) ?_
      refine WPe_istore (pc := 40) (ls' := [(5, vI (0 : Int32)), (4, vI z13.1), (3, vI (-1 : Int32)), (0, vR x0), (1, vI x1), (2, vI x2)]) (dd dtX6_swap 23 rfl) (Nat.le_of_ble_eq_true rfl) rfl ?_
      refine WPe_sub [3, 4, 5, 2, 1, 0] rfl ?_
      exact wplb6_swap_42 X w0  FU _ _
theorem okf6_swap (x0 : Nat) (x1 : Int32) (x2 : Int32) (w : Wd) : ∀ z, f6_swap x0 x1 x2 w = some z → OkM mX6_swap 9 0 0 [vR x0, vI x1, vI x2] w (rtI z.1) z.2 :=
  OkM.of (rt := rtI) moX6_swap (Nat.le_of_ble_eq_true rfl) (fun X => wpf6_swap X w x0 x1 x2 w)
def tbX6_logs : List (Nat × Instr × Nat) := [(0, .iload_n 1, 1), (1, .iconst 0, 1), (2, .bipush 40, 2), (4, .invokestatic 75, 3), (7, .ifCond .eq 12, 3), (10, .iload_n 2, 1), (11, .iconst 0, 1), (12, .iconst 1, 1), (13, .invokestatic 75, 3), (16, .ifCond .ne 6, 3), (19, .bipush (-2), 2), (21, .ireturn, 1), (22, .iconst (-1), 1), (23, .istore_n 3, 1), (24, .iconst 0, 1), (25, .istore 4, 2), (27, .iconst 0, 1), (28, .istore 5, 2), (30, .iload 5, 2), (32, .bipush 9, 2), (34, .if_icmp .gt 100, 3), (37, .iload 5, 2), (39, .aload_n 0, 1), (40, .getfield 19, 3), (43, .iconst 3, 1), (44, .iaload, 1), (45, .if_icmp .gt 89, 3), (48, .aload_n 0, 1), (49, .invokevirtual 197, 3), (52, .iconst 0, 1), (53, .istore 6, 2), (55, .iload 6, 2), (57, .iload 5, 2), (59, .if_icmp .ge 13, 3), (62, .aload_n 0, 1), (63, .invokevirtual 182, 3), (66, .iinc 6 1, 3), (69, .goto (-14), 3), (72, .aload_n 0, 1), (73, .iload_n 1, 1), (74, .invokevirtual 215, 3), (77, .istore 6, 2), (79, .aload_n 0, 1), (80, .invokevirtual 206, 3), (83, .iload_n 3, 1), (84, .iconst (-1), 1), (85, .if_icmp .eq 10, 3), (88, .iload 6, 2), (90, .iload 4, 2), (92, .if_icmp .le 7, 3), (95, .iconst 1, 1), (96, .goto 4, 3), (99, .iconst 0, 1), (100, .istore 7, 2), (102, .iload 7, 2), (104, .ifCond .eq 8, 3), (107, .iload 5, 2), (109, .goto 4, 3), (112, .iload_n 3, 1), (113, .istore_n 3, 1), (114, .iload 7, 2), (116, .ifCond .eq 8, 3), (119, .iload 6, 2), (121, .goto 5, 3), (124, .iload 4, 2), (126, .istore 4, 2), (128, .iinc 5 1, 3), (131, .goto (-101), 3), (134, .iload_n 2, 1), (135, .ifCond .ne 7, 3), (138, .iload_n 3, 1), (139, .goto 5, 3), (142, .iload 4, 2), (144, .ireturn, 1)]
set_option maxRecDepth 20000 in
theorem dtX6_logs : ∀ x ∈ tbX6_logs, decode cX6_logs x.1 = .ok x.2 := by decide +kernel
noncomputable def j6_logs_134  (x2 : Int32) (x3 : Int32) (x4 : Int32) (w : Wd) : Option (Int32 × Wd) :=
  if x2 = (0 : Int32) then (some (x3, w)) else (some (x4, w))
theorem wpj6_logs_134 (X : CX) (w0 : Wd)  (x2 : Int32) (x3 : Int32) (x4 : Int32) (w : Wd) : WPe rtI X (mX6_logs, 9, 0, 0, w0) 0 0 (j6_logs_134  x2 x3 x4 w) 134 [(2, vI x2), (3, vI x3), (4, vI x4)] [] w := by
  unfold j6_logs_134
  refine WPe_iload_n (pc := 134) 0 (dd dtX6_logs 68 rfl) rfl ?_
  refine WPe_if_ne (pc := 135) 142 (dd dtX6_logs 69 rfl) (by decide) (fun h10 => ?_) (fun h10 => ?_)
  · refine WPe_iload_n (pc := 138) 1 (dd dtX6_logs 70 rfl) rfl ?_
    refine WPe_goto (pc := 139) 144 (dd dtX6_logs 71 rfl) (by decide) ?_
    exact WPe_ireturn (pc := 144) (dd dtX6_logs 73 rfl) rfl rfl ⟨(Nat.le_of_ble_eq_true rfl), (Nat.le_of_ble_eq_true rfl)⟩
  · refine WPe_iload (pc := 142) 2 (dd dtX6_logs 72 rfl) rfl ?_
    exact WPe_ireturn (pc := 144) (dd dtX6_logs 73 rfl) rfl rfl ⟨(Nat.le_of_ble_eq_true rfl), (Nat.le_of_ble_eq_true rfl)⟩
noncomputable def j6_logs_126 (k30 : Nat × Int32 × Int32 × Int32 × Int32 × Int32 → Wd → Option (Int32 × Wd)) (x0 : Nat) (x1 : Int32) (x2 : Int32) (x3 : Int32) (x5 : Int32) (s0 : Int32) (w : Wd) : Option (Int32 × Wd) :=
  k30 (x0, x1, x2, x3, s0, (x5 + (1 : Int32))) w
theorem wpj6_logs_126 (X : CX) (w0 : Wd) (k30 : Nat × Int32 × Int32 × Int32 × Int32 × Int32 → Wd → Option (Int32 × Wd)) (hk30 : ∀ (v : Nat × Int32 × Int32 × Int32 × Int32 × Int32) (w : Wd), WPe rtI X (mX6_logs, 9, 0, 0, w0) 0 0 (k30 v w) 30 [(0, vR v.1), (1, vI v.2.1), (2, vI v.2.2.1), (3, vI v.2.2.2.1), (4, vI v.2.2.2.2.1), (5, vI v.2.2.2.2.2)] [] w) (x0 : Nat) (x1 : Int32) (x2 : Int32) (x3 : Int32) (x5 : Int32) (s0 : Int32) (w : Wd) : WPe rtI X (mX6_logs, 9, 0, 0, w0) 0 0 (j6_logs_126 k30 x0 x1 x2 x3 x5 s0 w) 126 [(0, vR x0), (1, vI x1), (2, vI x2), (3, vI x3), (5, vI x5)] [vI s0] w := by
  unfold j6_logs_126
  refine WPe_istore (pc := 126) (ls' := [(4, vI s0), (0, vR x0), (1, vI x1), (2, vI x2), (3, vI x3), (5, vI x5)]) (dd dtX6_logs 65 rfl) (Nat.le_of_ble_eq_true rfl) rfl ?_
  refine WPe_iinc (pc := 128) (ls' := [(5, vI (x5 + (1 : Int32))), (4, vI s0), (0, vR x0), (1, vI x1), (2, vI x2), (3, vI x3)]) 5 (x5 + (1 : Int32)) (dd dtX6_logs 66 rfl) rfl (congrArg (HAdd.hAdd _) (by decide : Int32.ofInt (1) = (1 : Int32))) (Nat.le_of_ble_eq_true rfl) rfl ?_
  refine WPe_goto (pc := 131) 30 (dd dtX6_logs 67 rfl) (by decide) ?_
  refine WPe_sub [2, 3, 4, 5, 1, 0] rfl ?_
  exact hk30 (x0, x1, x2, x3, s0, (x5 + (1 : Int32))) w
noncomputable def j6_logs_113 (k30 : Nat × Int32 × Int32 × Int32 × Int32 × Int32 → Wd → Option (Int32 × Wd)) (x0 : Nat) (x1 : Int32) (x2 : Int32) (x4 : Int32) (x5 : Int32) (x6 : Int32) (x7 : Int32) (s0 : Int32) (w : Wd) : Option (Int32 × Wd) :=
  if x7 = (0 : Int32) then (j6_logs_126 k30 x0 x1 x2 s0 x5 x4 w) else (j6_logs_126 k30 x0 x1 x2 s0 x5 x6 w)
theorem wpj6_logs_113 (X : CX) (w0 : Wd) (k30 : Nat × Int32 × Int32 × Int32 × Int32 × Int32 → Wd → Option (Int32 × Wd)) (hk30 : ∀ (v : Nat × Int32 × Int32 × Int32 × Int32 × Int32) (w : Wd), WPe rtI X (mX6_logs, 9, 0, 0, w0) 0 0 (k30 v w) 30 [(0, vR v.1), (1, vI v.2.1), (2, vI v.2.2.1), (3, vI v.2.2.2.1), (4, vI v.2.2.2.2.1), (5, vI v.2.2.2.2.2)] [] w) (x0 : Nat) (x1 : Int32) (x2 : Int32) (x4 : Int32) (x5 : Int32) (x6 : Int32) (x7 : Int32) (s0 : Int32) (w : Wd) : WPe rtI X (mX6_logs, 9, 0, 0, w0) 0 0 (j6_logs_113 k30 x0 x1 x2 x4 x5 x6 x7 s0 w) 113 [(0, vR x0), (1, vI x1), (2, vI x2), (4, vI x4), (5, vI x5), (6, vI x6), (7, vI x7)] [vI s0] w := by
  unfold j6_logs_113
  refine WPe_istore_n (pc := 113) (ls' := [(3, vI s0), (0, vR x0), (1, vI x1), (2, vI x2), (4, vI x4), (5, vI x5), (6, vI x6), (7, vI x7)]) (dd dtX6_logs 59 rfl) (Nat.le_of_ble_eq_true rfl) rfl ?_
  refine WPe_iload (pc := 114) 7 (dd dtX6_logs 60 rfl) rfl ?_
  refine WPe_if_eq (pc := 116) 124 (dd dtX6_logs 61 rfl) (by decide) (fun h27 => ?_) (fun h27 => ?_)
  · refine WPe_iload (pc := 124) 4 (dd dtX6_logs 64 rfl) rfl ?_
    refine WPe_sub [1, 2, 3, 0, 5] rfl ?_
    exact wpj6_logs_126 X w0 k30 hk30 x0 x1 x2 s0 x5 x4 w
  · refine WPe_iload (pc := 119) 6 (dd dtX6_logs 62 rfl) rfl ?_
    refine WPe_goto (pc := 121) 126 (dd dtX6_logs 63 rfl) (by decide) ?_
    refine WPe_sub [1, 2, 3, 0, 5] rfl ?_
    exact wpj6_logs_126 X w0 k30 hk30 x0 x1 x2 s0 x5 x6 w
noncomputable def j6_logs_100 (k30 : Nat × Int32 × Int32 × Int32 × Int32 × Int32 → Wd → Option (Int32 × Wd)) (x0 : Nat) (x1 : Int32) (x2 : Int32) (x3 : Int32) (x4 : Int32) (x5 : Int32) (x6 : Int32) (s0 : Int32) (w : Wd) : Option (Int32 × Wd) :=
  if s0 = (0 : Int32) then (j6_logs_113 k30 x0 x1 x2 x4 x5 x6 s0 x3 w) else (j6_logs_113 k30 x0 x1 x2 x4 x5 x6 s0 x5 w)
theorem wpj6_logs_100 (X : CX) (w0 : Wd) (k30 : Nat × Int32 × Int32 × Int32 × Int32 × Int32 → Wd → Option (Int32 × Wd)) (hk30 : ∀ (v : Nat × Int32 × Int32 × Int32 × Int32 × Int32) (w : Wd), WPe rtI X (mX6_logs, 9, 0, 0, w0) 0 0 (k30 v w) 30 [(0, vR v.1), (1, vI v.2.1), (2, vI v.2.2.1), (3, vI v.2.2.2.1), (4, vI v.2.2.2.2.1), (5, vI v.2.2.2.2.2)] [] w) (x0 : Nat) (x1 : Int32) (x2 : Int32) (x3 : Int32) (x4 : Int32) (x5 : Int32) (x6 : Int32) (s0 : Int32) (w : Wd) : WPe rtI X (mX6_logs, 9, 0, 0, w0) 0 0 (j6_logs_100 k30 x0 x1 x2 x3 x4 x5 x6 s0 w) 100 [(0, vR x0), (1, vI x1), (2, vI x2), (3, vI x3), (4, vI x4), (5, vI x5), (6, vI x6)] [vI s0] w := by
  unfold j6_logs_100
  refine WPe_istore (pc := 100) (ls' := [(7, vI s0), (0, vR x0), (1, vI x1), (2, vI x2), (3, vI x3), (4, vI x4), (5, vI x5), (6, vI x6)]) (dd dtX6_logs 53 rfl) (Nat.le_of_ble_eq_true rfl) rfl ?_
  refine WPe_iload (pc := 102) 0 (dd dtX6_logs 54 rfl) rfl ?_
  refine WPe_if_eq (pc := 104) 112 (dd dtX6_logs 55 rfl) (by decide) (fun h26 => ?_) (fun h26 => ?_)
  · refine WPe_iload_n (pc := 112) 4 (dd dtX6_logs 58 rfl) rfl ?_
    refine WPe_sub [1, 2, 3, 5, 6, 7, 0] rfl ?_
    exact wpj6_logs_113 X w0 k30 hk30 x0 x1 x2 x4 x5 x6 s0 x3 w
  · refine WPe_iload (pc := 107) 6 (dd dtX6_logs 56 rfl) rfl ?_
    refine WPe_goto (pc := 109) 113 (dd dtX6_logs 57 rfl) (by decide) ?_
    refine WPe_sub [1, 2, 3, 5, 6, 7, 0] rfl ?_
    exact wpj6_logs_113 X w0 k30 hk30 x0 x1 x2 x4 x5 x6 s0 x5 w
noncomputable def j6_logs_95 (k30 : Nat × Int32 × Int32 × Int32 × Int32 × Int32 → Wd → Option (Int32 × Wd)) (x0 : Nat) (x1 : Int32) (x2 : Int32) (x3 : Int32) (x4 : Int32) (x5 : Int32) (x6 : Int32) (w : Wd) : Option (Int32 × Wd) :=
  j6_logs_100 k30 x0 x1 x2 x3 x4 x5 x6 (1 : Int32) w
theorem wpj6_logs_95 (X : CX) (w0 : Wd) (k30 : Nat × Int32 × Int32 × Int32 × Int32 × Int32 → Wd → Option (Int32 × Wd)) (hk30 : ∀ (v : Nat × Int32 × Int32 × Int32 × Int32 × Int32) (w : Wd), WPe rtI X (mX6_logs, 9, 0, 0, w0) 0 0 (k30 v w) 30 [(0, vR v.1), (1, vI v.2.1), (2, vI v.2.2.1), (3, vI v.2.2.2.1), (4, vI v.2.2.2.2.1), (5, vI v.2.2.2.2.2)] [] w) (x0 : Nat) (x1 : Int32) (x2 : Int32) (x3 : Int32) (x4 : Int32) (x5 : Int32) (x6 : Int32) (w : Wd) : WPe rtI X (mX6_logs, 9, 0, 0, w0) 0 0 (j6_logs_95 k30 x0 x1 x2 x3 x4 x5 x6 w) 95 [(0, vR x0), (1, vI x1), (2, vI x2), (3, vI x3), (4, vI x4), (5, vI x5), (6, vI x6)] [] w := by
  unfold j6_logs_95
  refine WPe_iconst (pc := 95) (1 : Int32) (dd dtX6_logs 50 rfl) (by decide) ?_
  refine WPe_goto (pc := 96) 100 (dd dtX6_logs 51 rfl) (by decide) ?_
  refine WPe_sub [0, 1, 2, 3, 4, 5, 6] rfl ?_
  exact wpj6_logs_100 X w0 k30 hk30 x0 x1 x2 x3 x4 x5 x6 (1 : Int32) w
noncomputable def b6_logs_55 (k30 : Nat × Int32 × Int32 × Int32 × Int32 × Int32 → Wd → Option (Int32 × Wd)) (k55 : Nat × Int32 × Int32 × Int32 × Int32 × Int32 × Int32 → Wd → Option (Int32 × Wd)) (v : Nat × Int32 × Int32 × Int32 × Int32 × Int32 × Int32) (w : Wd) : Option (Int32 × Wd) :=
  if v.2.2.2.2.2.1 ≤ v.2.2.2.2.2.2 then (ck (tg w v.1 = 6) ((f6_joyBehind v.1 v.2.1 w).bind fun z19 => ((f6_lays v.1 z19.2).bind fun z22 => (if v.2.2.2.1 = (-1 : Int32) then (j6_logs_95 k30 v.1 v.2.1 v.2.2.1 v.2.2.2.1 v.2.2.2.2.1 v.2.2.2.2.2.1 z19.1 z22.2) else (if z19.1 ≤ v.2.2.2.2.1 then (j6_logs_100 k30 v.1 v.2.1 v.2.2.1 v.2.2.2.1 v.2.2.2.2.1 v.2.2.2.2.2.1 z19.1 (0 : Int32) z22.2) else (j6_logs_95 k30 v.1 v.2.1 v.2.2.1 v.2.2.2.1 v.2.2.2.2.1 v.2.2.2.2.2.1 z19.1 z22.2)))))) else (ck (tg w v.1 = 6) ((f6_burns v.1 w).bind fun z30 => (k55 (v.1, v.2.1, v.2.2.1, v.2.2.2.1, v.2.2.2.2.1, v.2.2.2.2.2.1, (v.2.2.2.2.2.2 + (1 : Int32))) z30.2)))
theorem wpb6_logs_55 (X : CX) (w0 : Wd) (k30 : Nat × Int32 × Int32 × Int32 × Int32 × Int32 → Wd → Option (Int32 × Wd)) (hk30 : ∀ (v : Nat × Int32 × Int32 × Int32 × Int32 × Int32) (w : Wd), WPe rtI X (mX6_logs, 9, 0, 0, w0) 0 0 (k30 v w) 30 [(0, vR v.1), (1, vI v.2.1), (2, vI v.2.2.1), (3, vI v.2.2.2.1), (4, vI v.2.2.2.2.1), (5, vI v.2.2.2.2.2)] [] w) (k55 : Nat × Int32 × Int32 × Int32 × Int32 × Int32 × Int32 → Wd → Option (Int32 × Wd)) (hk55 : ∀ (v : Nat × Int32 × Int32 × Int32 × Int32 × Int32 × Int32) (w : Wd), WPe rtI X (mX6_logs, 9, 0, 0, w0) 0 0 (k55 v w) 55 [(0, vR v.1), (1, vI v.2.1), (2, vI v.2.2.1), (3, vI v.2.2.2.1), (4, vI v.2.2.2.2.1), (5, vI v.2.2.2.2.2.1), (6, vI v.2.2.2.2.2.2)] [] w) (v : Nat × Int32 × Int32 × Int32 × Int32 × Int32 × Int32) (w : Wd) : WPe rtI X (mX6_logs, 9, 0, 0, w0) 0 0 (b6_logs_55 k30 k55 v w) 55 [(0, vR v.1), (1, vI v.2.1), (2, vI v.2.2.1), (3, vI v.2.2.2.1), (4, vI v.2.2.2.2.1), (5, vI v.2.2.2.2.2.1), (6, vI v.2.2.2.2.2.2)] [] w := by
  unfold b6_logs_55
  refine WPe_iload (pc := 55) 6 (dd dtX6_logs 31 rfl) rfl ?_
  refine WPe_iload (pc := 57) 5 (dd dtX6_logs 32 rfl) rfl ?_
  refine WPe_icmp_ge (pc := 59) 72 (dd dtX6_logs 33 rfl) (by decide) (fun h17 => ?_) (fun h17 => ?_)
  · refine WPe_aload_n (pc := 72) 0 (dd dtX6_logs 38 rfl) rfl ?_
    refine WPe_iload_n (pc := 73) 1 (dd dtX6_logs 39 rfl) rfl ?_
    refine WPe_ck fun h18 => ?_
    refine WPe_callV (pc := 74) (rtc := rtI) (Mc := mX6_joyBehind) (d' := 8) (mc' := 0) (ms' := 0) [vI v.2.1] [] rfl (dd dtX6_logs 40 rfl) (okf6_joyBehind v.1 v.2.1 w) moX6_joyBehind miX6_joyBehind (bw_mem5 80 rfl rfl) (Or.inl ⟨_, _, _, _, (shE h18), rfl⟩) rfl (Nat.le_of_ble_eq_true rfl) ⟨(Nat.le_of_ble_eq_true rfl), (Nat.le_of_ble_eq_true rfl)⟩ ⟨(Nat.le_of_ble_eq_true rfl), (Nat.le_of_ble_eq_true rfl)⟩ (fun z19 h20 e21 => ?_)
    refine WPe_st (st2 := [vI z19.1]) rfl ?_
    refine WPe_istore (pc := 77) (ls' := [(6, vI z19.1), (0, vR v.1), (1, vI v.2.1), (2, vI v.2.2.1), (3, vI v.2.2.2.1), (4, vI v.2.2.2.2.1), (5, vI v.2.2.2.2.2.1)]) (dd dtX6_logs 41 rfl) (Nat.le_of_ble_eq_true rfl) rfl ?_
    refine WPe_aload_n (pc := 79) 1 (dd dtX6_logs 42 rfl) rfl ?_
    refine WPe_callV (pc := 80) (rtc := rtV) (Mc := mX6_lays) (d' := 1) (mc' := 0) (ms' := 0) [] [] rfl (dd dtX6_logs 43 rfl) (okf6_lays v.1 z19.2) moX6_lays miX6_lays (bw_mem5 48 rfl rfl) (Or.inl ⟨_, _, _, _, (e21.at (shE h18) (by decide)), rfl⟩) rfl (Nat.le_of_ble_eq_true rfl) ⟨(Nat.le_of_ble_eq_true rfl), (Nat.le_of_ble_eq_true rfl)⟩ ⟨(Nat.le_of_ble_eq_true rfl), (Nat.le_of_ble_eq_true rfl)⟩ (fun z22 h23 e24 => ?_)
    refine WPe_st (st2 := []) rfl ?_
    refine WPe_iload_n (pc := 83) 4 (dd dtX6_logs 44 rfl) rfl ?_
    refine WPe_iconst (pc := 84) (-1 : Int32) (dd dtX6_logs 45 rfl) (by decide) ?_
    refine WPe_icmp_eq (pc := 85) 95 (dd dtX6_logs 46 rfl) (by decide) (fun h25 => ?_) (fun h25 => ?_)
    · refine WPe_sub [1, 2, 3, 4, 5, 6, 0] rfl ?_
      exact wpj6_logs_95 X w0 k30 hk30 v.1 v.2.1 v.2.2.1 v.2.2.2.1 v.2.2.2.2.1 v.2.2.2.2.2.1 z19.1 z22.2
    · refine WPe_iload (pc := 88) 0 (dd dtX6_logs 47 rfl) rfl ?_
      refine WPe_iload (pc := 90) 5 (dd dtX6_logs 48 rfl) rfl ?_
      refine WPe_icmp_le (pc := 92) 99 (dd dtX6_logs 49 rfl) (by decide) (fun h28 => ?_) (fun h28 => ?_)
      · refine WPe_iconst (pc := 99) (0 : Int32) (dd dtX6_logs 52 rfl) (by decide) ?_
        refine WPe_sub [1, 2, 3, 4, 5, 6, 0] rfl ?_
        exact wpj6_logs_100 X w0 k30 hk30 v.1 v.2.1 v.2.2.1 v.2.2.2.1 v.2.2.2.2.1 v.2.2.2.2.2.1 z19.1 (0 : Int32) z22.2
      · refine WPe_sub [1, 2, 3, 4, 5, 6, 0] rfl ?_
        exact wpj6_logs_95 X w0 k30 hk30 v.1 v.2.1 v.2.2.1 v.2.2.2.1 v.2.2.2.2.1 v.2.2.2.2.2.1 z19.1 z22.2
  · refine WPe_aload_n (pc := 62) 0 (dd dtX6_logs 34 rfl) rfl ?_
    refine WPe_ck fun h29 => ?_
    refine WPe_callV (pc := 63) (rtc := rtV) (Mc := mX6_burns) (d' := 2) (mc' := 0) (ms' := 0) [] [] rfl (dd dtX6_logs 35 rfl) (okf6_burns v.1 w) moX6_burns miX6_burns (bw_mem5 4 rfl rfl) (Or.inl ⟨_, _, _, _, (shE h29), rfl⟩) rfl (Nat.le_of_ble_eq_true rfl) ⟨(Nat.le_of_ble_eq_true rfl), (Nat.le_of_ble_eq_true rfl)⟩ ⟨(Nat.le_of_ble_eq_true rfl), (Nat.le_of_ble_eq_true rfl)⟩ (fun z30 h31 e32 => ?_)
    refine WPe_st (st2 := []) rfl ?_
    refine WPe_iinc (pc := 66) (ls' := [(6, vI (v.2.2.2.2.2.2 + (1 : Int32))), (0, vR v.1), (1, vI v.2.1), (2, vI v.2.2.1), (3, vI v.2.2.2.1), (4, vI v.2.2.2.2.1), (5, vI v.2.2.2.2.2.1)]) 6 (v.2.2.2.2.2.2 + (1 : Int32)) (dd dtX6_logs 36 rfl) rfl (congrArg (HAdd.hAdd _) (by decide : Int32.ofInt (1) = (1 : Int32))) (Nat.le_of_ble_eq_true rfl) rfl ?_
    refine WPe_goto (pc := 69) 55 (dd dtX6_logs 37 rfl) (by decide) ?_
    refine WPe_sub [1, 2, 3, 4, 5, 6, 0] rfl ?_
    exact hk55 (v.1, v.2.1, v.2.2.1, v.2.2.2.1, v.2.2.2.2.1, v.2.2.2.2.2.1, (v.2.2.2.2.2.2 + (1 : Int32))) z30.2
theorem wplb6_logs_55 (X : CX) (w0 : Wd) (k30 : Nat × Int32 × Int32 × Int32 × Int32 × Int32 → Wd → Option (Int32 × Wd)) (hk30 : ∀ (v : Nat × Int32 × Int32 × Int32 × Int32 × Int32) (w : Wd), WPe rtI X (mX6_logs, 9, 0, 0, w0) 0 0 (k30 v w) 30 [(0, vR v.1), (1, vI v.2.1), (2, vI v.2.2.1), (3, vI v.2.2.2.1), (4, vI v.2.2.2.2.1), (5, vI v.2.2.2.2.2)] [] w) : ∀ (n9 : Nat) (v : Nat × Int32 × Int32 × Int32 × Int32 × Int32 × Int32) (w : Wd), WPe rtI X (mX6_logs, 9, 0, 0, w0) 0 0 (loopF (b6_logs_55 k30) n9 v w) 55 [(0, vR v.1), (1, vI v.2.1), (2, vI v.2.2.1), (3, vI v.2.2.2.1), (4, vI v.2.2.2.2.1), (5, vI v.2.2.2.2.2.1), (6, vI v.2.2.2.2.2.2)] [] w :=
  WPe_loop (rt := rtI) (X := X) (M := (mX6_logs, 9, 0, 0, w0)) (fun v : Nat × Int32 × Int32 × Int32 × Int32 × Int32 × Int32 => [(0, vR v.1), (1, vI v.2.1), (2, vI v.2.2.1), (3, vI v.2.2.2.1), (4, vI v.2.2.2.2.1), (5, vI v.2.2.2.2.2.1), (6, vI v.2.2.2.2.2.2)]) (fun k hk v w => wpb6_logs_55 X w0 k30 hk30 k hk v w)
noncomputable def b6_logs_30 (k30 : Nat × Int32 × Int32 × Int32 × Int32 × Int32 → Wd → Option (Int32 × Wd)) (v : Nat × Int32 × Int32 × Int32 × Int32 × Int32) (w : Wd) : Option (Int32 × Wd) :=
  if (9 : Int32) < v.2.2.2.2.2 then (j6_logs_134 v.2.2.1 v.2.2.2.1 v.2.2.2.2.1 w) else (ck (tg w v.1 = 6) (ck (tg w (wr w v.1 4) = 20 ∧ vp_in (3 : Int32) (ln w (wr w v.1 4))) (if (wi w (wr w v.1 4) ((3 : Int32)).toNatClampNeg) < v.2.2.2.2.2 then (j6_logs_134 v.2.2.1 v.2.2.2.1 v.2.2.2.2.1 w) else ((f6_keeps v.1 w).bind fun z14 => (loopF (b6_logs_55 k30) FU (v.1, v.2.1, v.2.2.1, v.2.2.2.1, v.2.2.2.2.1, v.2.2.2.2.2, (0 : Int32)) z14.2)))))
theorem wpb6_logs_30 (X : CX) (w0 : Wd) (k30 : Nat × Int32 × Int32 × Int32 × Int32 × Int32 → Wd → Option (Int32 × Wd)) (hk30 : ∀ (v : Nat × Int32 × Int32 × Int32 × Int32 × Int32) (w : Wd), WPe rtI X (mX6_logs, 9, 0, 0, w0) 0 0 (k30 v w) 30 [(0, vR v.1), (1, vI v.2.1), (2, vI v.2.2.1), (3, vI v.2.2.2.1), (4, vI v.2.2.2.2.1), (5, vI v.2.2.2.2.2)] [] w) (v : Nat × Int32 × Int32 × Int32 × Int32 × Int32) (w : Wd) : WPe rtI X (mX6_logs, 9, 0, 0, w0) 0 0 (b6_logs_30 k30 v w) 30 [(0, vR v.1), (1, vI v.2.1), (2, vI v.2.2.1), (3, vI v.2.2.2.1), (4, vI v.2.2.2.2.1), (5, vI v.2.2.2.2.2)] [] w := by
  unfold b6_logs_30
  refine WPe_iload (pc := 30) 5 (dd dtX6_logs 18 rfl) rfl ?_
  refine WPe_bipush (pc := 32) (9 : Int32) (dd dtX6_logs 19 rfl) (by decide) ?_
  refine WPe_icmp_gt (pc := 34) 134 (dd dtX6_logs 20 rfl) (by decide) (fun h9 => ?_) (fun h9 => ?_)
  · refine WPe_sub [2, 3, 4] rfl ?_
    exact wpj6_logs_134 X w0  v.2.2.1 v.2.2.2.1 v.2.2.2.2.1 w
  · refine WPe_iload (pc := 37) 5 (dd dtX6_logs 21 rfl) rfl ?_
    refine WPe_aload_n (pc := 39) 0 (dd dtX6_logs 22 rfl) rfl ?_
    refine WPe_ck fun h11 => ?_
    refine WPe_getR (pc := 40) (t := 6) (C := RX6) (T := TX6) 4 (dd dtX6_logs 23 rfl) (shE h11) rfl (Nat.le_of_ble_eq_true rfl) rfl (bw_mem4 57 rfl rfl) ?_
    refine WPe_iconst (pc := 43) (3 : Int32) (dd dtX6_logs 24 rfl) (by decide) ?_
    refine WPe_ck fun h12 => ?_
    refine WPe_iald (pc := 44) (dd dtX6_logs 25 rfl) (shE h12.1) h12.2 ?_
    refine WPe_icmp_gt (pc := 45) 134 (dd dtX6_logs 26 rfl) (by decide) (fun h13 => ?_) (fun h13 => ?_)
    · refine WPe_sub [2, 3, 4] rfl ?_
      exact wpj6_logs_134 X w0  v.2.2.1 v.2.2.2.1 v.2.2.2.2.1 w
    · refine WPe_aload_n (pc := 48) 0 (dd dtX6_logs 27 rfl) rfl ?_
      refine WPe_callV (pc := 49) (rtc := rtV) (Mc := mX6_keeps) (d' := 1) (mc' := 0) (ms' := 0) [] [] rfl (dd dtX6_logs 28 rfl) (okf6_keeps v.1 w) moX6_keeps miX6_keeps (bw_mem5 32 rfl rfl) (Or.inl ⟨_, _, _, _, (shE h11), rfl⟩) rfl (Nat.le_of_ble_eq_true rfl) ⟨(Nat.le_of_ble_eq_true rfl), (Nat.le_of_ble_eq_true rfl)⟩ ⟨(Nat.le_of_ble_eq_true rfl), (Nat.le_of_ble_eq_true rfl)⟩ (fun z14 h15 e16 => ?_)
      refine WPe_st (st2 := []) rfl ?_
      refine WPe_iconst (pc := 52) (0 : Int32) (dd dtX6_logs 29 rfl) (by decide) ?_
      refine WPe_istore (pc := 53) (ls' := [(6, vI (0 : Int32)), (0, vR v.1), (1, vI v.2.1), (2, vI v.2.2.1), (3, vI v.2.2.2.1), (4, vI v.2.2.2.2.1), (5, vI v.2.2.2.2.2)]) (dd dtX6_logs 30 rfl) (Nat.le_of_ble_eq_true rfl) rfl ?_
      refine WPe_sub [1, 2, 3, 4, 5, 6, 0] rfl ?_
      exact wplb6_logs_55 X w0 k30 hk30 FU _ _
theorem wplb6_logs_30 (X : CX) (w0 : Wd)  : ∀ (n9 : Nat) (v : Nat × Int32 × Int32 × Int32 × Int32 × Int32) (w : Wd), WPe rtI X (mX6_logs, 9, 0, 0, w0) 0 0 (loopF (b6_logs_30 ) n9 v w) 30 [(0, vR v.1), (1, vI v.2.1), (2, vI v.2.2.1), (3, vI v.2.2.2.1), (4, vI v.2.2.2.2.1), (5, vI v.2.2.2.2.2)] [] w :=
  WPe_loop (rt := rtI) (X := X) (M := (mX6_logs, 9, 0, 0, w0)) (fun v : Nat × Int32 × Int32 × Int32 × Int32 × Int32 => [(0, vR v.1), (1, vI v.2.1), (2, vI v.2.2.1), (3, vI v.2.2.2.1), (4, vI v.2.2.2.2.1), (5, vI v.2.2.2.2.2)]) (fun k hk v w => wpb6_logs_30 X w0  k hk v w)
noncomputable def f6_logs (x0 : Nat) (x1 : Int32) (x2 : Int32) (w : Wd) : Option (Int32 × Wd) :=
  (f6_in x1 (0 : Int32) (40 : Int32) w).bind fun z1 => (if z1.1 = (0 : Int32) then (some ((-2 : Int32), z1.2)) else ((f6_in x2 (0 : Int32) (1 : Int32) z1.2).bind fun z5 => (if z5.1 = (0 : Int32) then (some ((-2 : Int32), z5.2)) else (loopF (b6_logs_30) FU (x0, x1, x2, (-1 : Int32), (0 : Int32), (0 : Int32)) z5.2))))
theorem wpf6_logs (X : CX) (w0 : Wd) (x0 : Nat) (x1 : Int32) (x2 : Int32) (w : Wd) : WPe rtI X (mX6_logs, 9, 0, 0, w0) 0 0 (f6_logs x0 x1 x2 w) 0 [(0, vR x0), (1, vI x1), (2, vI x2)] [] w := by
  unfold f6_logs
  refine WPe_iload_n (pc := 0) 1 (dd dtX6_logs 0 rfl) rfl ?_
  refine WPe_iconst (pc := 1) (0 : Int32) (dd dtX6_logs 1 rfl) (by decide) ?_
  refine WPe_bipush (pc := 2) (40 : Int32) (dd dtX6_logs 2 rfl) (by decide) ?_
  refine WPe_callS (pc := 4) (rtc := rtI) (Mc := mX6_in) (d' := 1) (mc' := 0) (ms' := 0) [vI x1, vI (0 : Int32), vI (40 : Int32)] [] rfl (dd dtX6_logs 3 rfl) (okf6_in x1 (0 : Int32) (40 : Int32) w) moX6_in msX6_in (bw_mem4 14 rfl rfl) rfl (Nat.le_of_ble_eq_true rfl) ⟨(Nat.le_of_ble_eq_true rfl), (Nat.le_of_ble_eq_true rfl)⟩ ⟨(Nat.le_of_ble_eq_true rfl), (Nat.le_of_ble_eq_true rfl)⟩ (fun z1 h2 e3 => ?_)
  refine WPe_st (st2 := [vI z1.1]) rfl ?_
  refine WPe_if_eq (pc := 7) 19 (dd dtX6_logs 4 rfl) (by decide) (fun h4 => ?_) (fun h4 => ?_)
  · refine WPe_bipush (pc := 19) (-2 : Int32) (dd dtX6_logs 10 rfl) (by decide) ?_
    exact WPe_ireturn (pc := 21) (dd dtX6_logs 11 rfl) rfl rfl ⟨(Nat.le_of_ble_eq_true rfl), (Nat.le_of_ble_eq_true rfl)⟩
  · refine WPe_iload_n (pc := 10) 2 (dd dtX6_logs 5 rfl) rfl ?_
    refine WPe_iconst (pc := 11) (0 : Int32) (dd dtX6_logs 6 rfl) (by decide) ?_
    refine WPe_iconst (pc := 12) (1 : Int32) (dd dtX6_logs 7 rfl) (by decide) ?_
    refine WPe_callS (pc := 13) (rtc := rtI) (Mc := mX6_in) (d' := 1) (mc' := 0) (ms' := 0) [vI x2, vI (0 : Int32), vI (1 : Int32)] [] rfl (dd dtX6_logs 8 rfl) (okf6_in x2 (0 : Int32) (1 : Int32) z1.2) moX6_in msX6_in (bw_mem4 14 rfl rfl) rfl (Nat.le_of_ble_eq_true rfl) ⟨(Nat.le_of_ble_eq_true rfl), (Nat.le_of_ble_eq_true rfl)⟩ ⟨(Nat.le_of_ble_eq_true rfl), (Nat.le_of_ble_eq_true rfl)⟩ (fun z5 h6 e7 => ?_)
    refine WPe_st (st2 := [vI z5.1]) rfl ?_
    refine WPe_if_ne (pc := 16) 22 (dd dtX6_logs 9 rfl) (by decide) (fun h8 => ?_) (fun h8 => ?_)
    · refine WPe_bipush (pc := 19) (-2 : Int32) (dd dtX6_logs 10 rfl) (by decide) ?_
      exact WPe_ireturn (pc := 21) (dd dtX6_logs 11 rfl) rfl rfl ⟨(Nat.le_of_ble_eq_true rfl), (Nat.le_of_ble_eq_true rfl)⟩
    · refine WPe_iconst (pc := 22) (-1 : Int32) (dd dtX6_logs 12 rfl) (by decide) ?_
      refine WPe_istore_n (pc := 23) (ls' := [(3, vI (-1 : Int32)), (0, vR x0), (1, vI x1), (2, vI x2)]) (dd dtX6_logs 13 rfl) (Nat.le_of_ble_eq_true rfl) rfl ?_
      refine WPe_iconst (pc := 24) (0 : Int32) (dd dtX6_logs 14 rfl) (by decide) ?_
      refine WPe_istore (pc := 25) (ls' := [(4, vI (0 : Int32)), (3, vI (-1 : Int32)), (0, vR x0), (1, vI x1), (2, vI x2)]) (dd dtX6_logs 15 rfl) (Nat.le_of_ble_eq_true rfl) rfl ?_
      refine WPe_iconst (pc := 27) (0 : Int32) (dd dtX6_logs 16 rfl) (by decide) ?_
      refine WPe_istore (pc := 28) (ls' := [(5, vI (0 : Int32)), (4, vI (0 : Int32)), (3, vI (-1 : Int32)), (0, vR x0), (1, vI x1), (2, vI x2)]) (dd dtX6_logs 17 rfl) (Nat.le_of_ble_eq_true rfl) rfl ?_
      refine WPe_sub [3, 4, 5, 2, 1, 0] rfl ?_
      exact wplb6_logs_30 X w0  FU _ _
theorem okf6_logs (x0 : Nat) (x1 : Int32) (x2 : Int32) (w : Wd) : ∀ z, f6_logs x0 x1 x2 w = some z → OkM mX6_logs 9 0 0 [vR x0, vI x1, vI x2] w (rtI z.1) z.2 :=
  OkM.of (rt := rtI) moX6_logs (Nat.le_of_ble_eq_true rfl) (fun X => wpf6_logs X w x0 x1 x2 w)
def tbX6_stays : List (Nat × Instr × Nat) := [(0, .aload_n 0, 1), (1, .iload_n 1, 1), (2, .invokevirtual 164, 3), (5, .ifCond .ne 6, 3), (8, .bipush (-5), 2), (10, .ireturn, 1), (11, .iload_n 2, 1), (12, .iconst 0, 1), (13, .iconst 1, 1), (14, .invokestatic 75, 3), (17, .ifCond .ne 6, 3), (20, .bipush (-7), 2), (22, .ireturn, 1), (23, .aload_n 0, 1), (24, .getfield 16, 3), (27, .iconst 3, 1), (28, .iload_n 1, 1), (29, .imul, 1), (30, .iaload, 1), (31, .istore_n 3, 1), (32, .iconst (-1), 1), (33, .istore 4, 2), (35, .iconst 0, 1), (36, .istore 5, 2), (38, .iconst 0, 1), (39, .istore 6, 2), (41, .iload 6, 2), (43, .iconst 3, 1), (44, .if_icmp .ge 73, 3), (47, .aload_n 0, 1), (48, .getfield 16, 3), (51, .iconst 3, 1), (52, .iload_n 1, 1), (53, .imul, 1), (54, .iload 6, 2), (56, .iastore, 1), (57, .aload_n 0, 1), (58, .iload_n 1, 1), (59, .invokevirtual 209, 3), (62, .istore 7, 2), (64, .iload 7, 2), (66, .iconst (-1), 1), (67, .if_icmp .ne 8, 3), (70, .bipush 41, 2), (72, .goto 5, 3), (75, .iload 7, 2), (77, .istore 7, 2), (79, .iload 7, 2), (81, .iload 5, 2), (83, .if_icmp .lt 8, 3), (86, .iload 6, 2), (88, .goto 5, 3), (91, .iload 4, 2), (93, .istore 4, 2), (95, .iload 7, 2), (97, .iload 5, 2), (99, .if_icmp .lt 8, 3), (102, .iload 7, 2), (104, .goto 5, 3), (107, .iload 5, 2), (109, .istore 5, 2), (111, .iinc 6 1, 3), (114, .goto (-73), 3), (117, .aload_n 0, 1), (118, .getfield 16, 3), (121, .iconst 3, 1), (122, .iload_n 1, 1), (123, .imul, 1), (124, .iload_n 3, 1), (125, .iastore, 1), (126, .iload_n 2, 1), (127, .ifCond .ne 8, 3), (130, .iload 4, 2), (132, .goto 5, 3), (135, .iload 5, 2), (137, .ireturn, 1)]
set_option maxRecDepth 20000 in
theorem dtX6_stays : ∀ x ∈ tbX6_stays, decode cX6_stays x.1 = .ok x.2 := by decide +kernel
noncomputable def j6_stays_109 (k41 : Nat × Int32 × Int32 × Int32 × Int32 × Int32 × Int32 → Wd → Option (Int32 × Wd)) (x0 : Nat) (x1 : Int32) (x2 : Int32) (x3 : Int32) (x4 : Int32) (x6 : Int32) (s0 : Int32) (w : Wd) : Option (Int32 × Wd) :=
  k41 (x0, x1, x2, x3, x4, s0, (x6 + (1 : Int32))) w
theorem wpj6_stays_109 (X : CX) (w0 : Wd) (k41 : Nat × Int32 × Int32 × Int32 × Int32 × Int32 × Int32 → Wd → Option (Int32 × Wd)) (hk41 : ∀ (v : Nat × Int32 × Int32 × Int32 × Int32 × Int32 × Int32) (w : Wd), WPe rtI X (mX6_stays, 8, 0, 0, w0) 0 0 (k41 v w) 41 [(0, vR v.1), (1, vI v.2.1), (2, vI v.2.2.1), (3, vI v.2.2.2.1), (4, vI v.2.2.2.2.1), (5, vI v.2.2.2.2.2.1), (6, vI v.2.2.2.2.2.2)] [] w) (x0 : Nat) (x1 : Int32) (x2 : Int32) (x3 : Int32) (x4 : Int32) (x6 : Int32) (s0 : Int32) (w : Wd) : WPe rtI X (mX6_stays, 8, 0, 0, w0) 0 0 (j6_stays_109 k41 x0 x1 x2 x3 x4 x6 s0 w) 109 [(0, vR x0), (1, vI x1), (2, vI x2), (3, vI x3), (4, vI x4), (6, vI x6)] [vI s0] w := by
  unfold j6_stays_109
  refine WPe_istore (pc := 109) (ls' := [(5, vI s0), (0, vR x0), (1, vI x1), (2, vI x2), (3, vI x3), (4, vI x4), (6, vI x6)]) (dd dtX6_stays 60 rfl) (Nat.le_of_ble_eq_true rfl) rfl ?_
  refine WPe_iinc (pc := 111) (ls' := [(6, vI (x6 + (1 : Int32))), (5, vI s0), (0, vR x0), (1, vI x1), (2, vI x2), (3, vI x3), (4, vI x4)]) 6 (x6 + (1 : Int32)) (dd dtX6_stays 61 rfl) rfl (congrArg (HAdd.hAdd _) (by decide : Int32.ofInt (1) = (1 : Int32))) (Nat.le_of_ble_eq_true rfl) rfl ?_
  refine WPe_goto (pc := 114) 41 (dd dtX6_stays 62 rfl) (by decide) ?_
  refine WPe_sub [2, 3, 4, 5, 6, 1, 0] rfl ?_
  exact hk41 (x0, x1, x2, x3, x4, s0, (x6 + (1 : Int32))) w
noncomputable def j6_stays_93 (k41 : Nat × Int32 × Int32 × Int32 × Int32 × Int32 × Int32 → Wd → Option (Int32 × Wd)) (x0 : Nat) (x1 : Int32) (x2 : Int32) (x3 : Int32) (x5 : Int32) (x6 : Int32) (x7 : Int32) (s0 : Int32) (w : Wd) : Option (Int32 × Wd) :=
  if x7 < x5 then (j6_stays_109 k41 x0 x1 x2 x3 s0 x6 x5 w) else (j6_stays_109 k41 x0 x1 x2 x3 s0 x6 x7 w)
theorem wpj6_stays_93 (X : CX) (w0 : Wd) (k41 : Nat × Int32 × Int32 × Int32 × Int32 × Int32 × Int32 → Wd → Option (Int32 × Wd)) (hk41 : ∀ (v : Nat × Int32 × Int32 × Int32 × Int32 × Int32 × Int32) (w : Wd), WPe rtI X (mX6_stays, 8, 0, 0, w0) 0 0 (k41 v w) 41 [(0, vR v.1), (1, vI v.2.1), (2, vI v.2.2.1), (3, vI v.2.2.2.1), (4, vI v.2.2.2.2.1), (5, vI v.2.2.2.2.2.1), (6, vI v.2.2.2.2.2.2)] [] w) (x0 : Nat) (x1 : Int32) (x2 : Int32) (x3 : Int32) (x5 : Int32) (x6 : Int32) (x7 : Int32) (s0 : Int32) (w : Wd) : WPe rtI X (mX6_stays, 8, 0, 0, w0) 0 0 (j6_stays_93 k41 x0 x1 x2 x3 x5 x6 x7 s0 w) 93 [(0, vR x0), (1, vI x1), (2, vI x2), (3, vI x3), (5, vI x5), (6, vI x6), (7, vI x7)] [vI s0] w := by
  unfold j6_stays_93
  refine WPe_istore (pc := 93) (ls' := [(4, vI s0), (0, vR x0), (1, vI x1), (2, vI x2), (3, vI x3), (5, vI x5), (6, vI x6), (7, vI x7)]) (dd dtX6_stays 53 rfl) (Nat.le_of_ble_eq_true rfl) rfl ?_
  refine WPe_iload (pc := 95) 7 (dd dtX6_stays 54 rfl) rfl ?_
  refine WPe_iload (pc := 97) 5 (dd dtX6_stays 55 rfl) rfl ?_
  refine WPe_icmp_lt (pc := 99) 107 (dd dtX6_stays 56 rfl) (by decide) (fun h26 => ?_) (fun h26 => ?_)
  · refine WPe_iload (pc := 107) 5 (dd dtX6_stays 59 rfl) rfl ?_
    refine WPe_sub [1, 2, 3, 4, 0, 6] rfl ?_
    exact wpj6_stays_109 X w0 k41 hk41 x0 x1 x2 x3 s0 x6 x5 w
  · refine WPe_iload (pc := 102) 7 (dd dtX6_stays 57 rfl) rfl ?_
    refine WPe_goto (pc := 104) 109 (dd dtX6_stays 58 rfl) (by decide) ?_
    refine WPe_sub [1, 2, 3, 4, 0, 6] rfl ?_
    exact wpj6_stays_109 X w0 k41 hk41 x0 x1 x2 x3 s0 x6 x7 w
noncomputable def j6_stays_77 (k41 : Nat × Int32 × Int32 × Int32 × Int32 × Int32 × Int32 → Wd → Option (Int32 × Wd)) (x0 : Nat) (x1 : Int32) (x2 : Int32) (x3 : Int32) (x4 : Int32) (x5 : Int32) (x6 : Int32) (s0 : Int32) (w : Wd) : Option (Int32 × Wd) :=
  if s0 < x5 then (j6_stays_93 k41 x0 x1 x2 x3 x5 x6 s0 x4 w) else (j6_stays_93 k41 x0 x1 x2 x3 x5 x6 s0 x6 w)
theorem wpj6_stays_77 (X : CX) (w0 : Wd) (k41 : Nat × Int32 × Int32 × Int32 × Int32 × Int32 × Int32 → Wd → Option (Int32 × Wd)) (hk41 : ∀ (v : Nat × Int32 × Int32 × Int32 × Int32 × Int32 × Int32) (w : Wd), WPe rtI X (mX6_stays, 8, 0, 0, w0) 0 0 (k41 v w) 41 [(0, vR v.1), (1, vI v.2.1), (2, vI v.2.2.1), (3, vI v.2.2.2.1), (4, vI v.2.2.2.2.1), (5, vI v.2.2.2.2.2.1), (6, vI v.2.2.2.2.2.2)] [] w) (x0 : Nat) (x1 : Int32) (x2 : Int32) (x3 : Int32) (x4 : Int32) (x5 : Int32) (x6 : Int32) (s0 : Int32) (w : Wd) : WPe rtI X (mX6_stays, 8, 0, 0, w0) 0 0 (j6_stays_77 k41 x0 x1 x2 x3 x4 x5 x6 s0 w) 77 [(0, vR x0), (1, vI x1), (2, vI x2), (3, vI x3), (4, vI x4), (5, vI x5), (6, vI x6)] [vI s0] w := by
  unfold j6_stays_77
  refine WPe_istore (pc := 77) (ls' := [(7, vI s0), (0, vR x0), (1, vI x1), (2, vI x2), (3, vI x3), (4, vI x4), (5, vI x5), (6, vI x6)]) (dd dtX6_stays 46 rfl) (Nat.le_of_ble_eq_true rfl) rfl ?_
  refine WPe_iload (pc := 79) 0 (dd dtX6_stays 47 rfl) rfl ?_
  refine WPe_iload (pc := 81) 6 (dd dtX6_stays 48 rfl) rfl ?_
  refine WPe_icmp_lt (pc := 83) 91 (dd dtX6_stays 49 rfl) (by decide) (fun h25 => ?_) (fun h25 => ?_)
  · refine WPe_iload (pc := 91) 5 (dd dtX6_stays 52 rfl) rfl ?_
    refine WPe_sub [1, 2, 3, 4, 6, 7, 0] rfl ?_
    exact wpj6_stays_93 X w0 k41 hk41 x0 x1 x2 x3 x5 x6 s0 x4 w
  · refine WPe_iload (pc := 86) 7 (dd dtX6_stays 50 rfl) rfl ?_
    refine WPe_goto (pc := 88) 93 (dd dtX6_stays 51 rfl) (by decide) ?_
    refine WPe_sub [1, 2, 3, 4, 6, 7, 0] rfl ?_
    exact wpj6_stays_93 X w0 k41 hk41 x0 x1 x2 x3 x5 x6 s0 x6 w
noncomputable def b6_stays_41 (k41 : Nat × Int32 × Int32 × Int32 × Int32 × Int32 × Int32 → Wd → Option (Int32 × Wd)) (v : Nat × Int32 × Int32 × Int32 × Int32 × Int32 × Int32) (w : Wd) : Option (Int32 × Wd) :=
  if (3 : Int32) ≤ v.2.2.2.2.2.2 then (ck (tg w v.1 = 6) (ck (tg w (wr w v.1 3) = 20 ∧ vp_in ((3 : Int32) * v.2.1) (ln w (wr w v.1 3))) (lw (sI w (wr w v.1 3) (((3 : Int32) * v.2.1)).toNatClampNeg v.2.2.2.1) fun w14 => (if v.2.2.1 = (0 : Int32) then (some (v.2.2.2.2.1, w14)) else (some (v.2.2.2.2.2.1, w14)))))) else (ck (tg w v.1 = 6) (ck (tg w (wr w v.1 3) = 20 ∧ vp_in ((3 : Int32) * v.2.1) (ln w (wr w v.1 3))) (lw (sI w (wr w v.1 3) (((3 : Int32) * v.2.1)).toNatClampNeg v.2.2.2.2.2.2) fun w19 => ((f6_leavesOf v.1 v.2.1 w19).bind fun z21 => (if z21.1 = (-1 : Int32) then (j6_stays_77 k41 v.1 v.2.1 v.2.2.1 v.2.2.2.1 v.2.2.2.2.1 v.2.2.2.2.2.1 v.2.2.2.2.2.2 (41 : Int32) z21.2) else (j6_stays_77 k41 v.1 v.2.1 v.2.2.1 v.2.2.2.1 v.2.2.2.2.1 v.2.2.2.2.2.1 v.2.2.2.2.2.2 z21.1 z21.2))))))
theorem wpb6_stays_41 (X : CX) (w0 : Wd) (k41 : Nat × Int32 × Int32 × Int32 × Int32 × Int32 × Int32 → Wd → Option (Int32 × Wd)) (hk41 : ∀ (v : Nat × Int32 × Int32 × Int32 × Int32 × Int32 × Int32) (w : Wd), WPe rtI X (mX6_stays, 8, 0, 0, w0) 0 0 (k41 v w) 41 [(0, vR v.1), (1, vI v.2.1), (2, vI v.2.2.1), (3, vI v.2.2.2.1), (4, vI v.2.2.2.2.1), (5, vI v.2.2.2.2.2.1), (6, vI v.2.2.2.2.2.2)] [] w) (v : Nat × Int32 × Int32 × Int32 × Int32 × Int32 × Int32) (w : Wd) : WPe rtI X (mX6_stays, 8, 0, 0, w0) 0 0 (b6_stays_41 k41 v w) 41 [(0, vR v.1), (1, vI v.2.1), (2, vI v.2.2.1), (3, vI v.2.2.2.1), (4, vI v.2.2.2.2.1), (5, vI v.2.2.2.2.2.1), (6, vI v.2.2.2.2.2.2)] [] w := by
  unfold b6_stays_41
  refine WPe_iload (pc := 41) 6 (dd dtX6_stays 26 rfl) rfl ?_
  refine WPe_iconst (pc := 43) (3 : Int32) (dd dtX6_stays 27 rfl) (by decide) ?_
  refine WPe_icmp_ge (pc := 44) 117 (dd dtX6_stays 28 rfl) (by decide) (fun h11 => ?_) (fun h11 => ?_)
  · refine WPe_aload_n (pc := 117) 0 (dd dtX6_stays 63 rfl) rfl ?_
    refine WPe_ck fun h12 => ?_
    refine WPe_getR (pc := 118) (t := 6) (C := RX6) (T := TX6) 3 (dd dtX6_stays 64 rfl) (shE h12) rfl (Nat.le_of_ble_eq_true rfl) rfl (bw_mem4 56 rfl rfl) ?_
    refine WPe_iconst (pc := 121) (3 : Int32) (dd dtX6_stays 65 rfl) (by decide) ?_
    refine WPe_iload_n (pc := 122) 1 (dd dtX6_stays 66 rfl) rfl ?_
    refine WPe_imul (pc := 123) (dd dtX6_stays 67 rfl) ?_
    refine WPe_iload_n (pc := 124) 3 (dd dtX6_stays 68 rfl) rfl ?_
    refine WPe_ck fun h13 => ?_
    refine WPe_iast (pc := 125) (dd dtX6_stays 69 rfl) (shE h13.1) h13.2 ?_
    refine WPe_lw fun w14 e15 => ?_
    refine WPe_iload_n (pc := 126) 2 (dd dtX6_stays 70 rfl) rfl ?_
    refine WPe_if_ne (pc := 127) 135 (dd dtX6_stays 71 rfl) (by decide) (fun h16 => ?_) (fun h16 => ?_)
    · refine WPe_iload (pc := 130) 4 (dd dtX6_stays 72 rfl) rfl ?_
      refine WPe_goto (pc := 132) 137 (dd dtX6_stays 73 rfl) (by decide) ?_
      exact WPe_ireturn (pc := 137) (dd dtX6_stays 75 rfl) rfl rfl ⟨(Nat.le_of_ble_eq_true rfl), (Nat.le_of_ble_eq_true rfl)⟩
    · refine WPe_iload (pc := 135) 5 (dd dtX6_stays 74 rfl) rfl ?_
      exact WPe_ireturn (pc := 137) (dd dtX6_stays 75 rfl) rfl rfl ⟨(Nat.le_of_ble_eq_true rfl), (Nat.le_of_ble_eq_true rfl)⟩
  · refine WPe_aload_n (pc := 47) 0 (dd dtX6_stays 29 rfl) rfl ?_
    refine WPe_ck fun h17 => ?_
    refine WPe_getR (pc := 48) (t := 6) (C := RX6) (T := TX6) 3 (dd dtX6_stays 30 rfl) (shE h17) rfl (Nat.le_of_ble_eq_true rfl) rfl (bw_mem4 56 rfl rfl) ?_
    refine WPe_iconst (pc := 51) (3 : Int32) (dd dtX6_stays 31 rfl) (by decide) ?_
    refine WPe_iload_n (pc := 52) 1 (dd dtX6_stays 32 rfl) rfl ?_
    refine WPe_imul (pc := 53) (dd dtX6_stays 33 rfl) ?_
    refine WPe_iload (pc := 54) 6 (dd dtX6_stays 34 rfl) rfl ?_
    refine WPe_ck fun h18 => ?_
    refine WPe_iast (pc := 56) (dd dtX6_stays 35 rfl) (shE h18.1) h18.2 ?_
    refine WPe_lw fun w19 e20 => ?_
    refine WPe_aload_n (pc := 57) 0 (dd dtX6_stays 36 rfl) rfl ?_
    refine WPe_iload_n (pc := 58) 1 (dd dtX6_stays 37 rfl) rfl ?_
    refine WPe_callV (pc := 59) (rtc := rtI) (Mc := mX6_leavesOf) (d' := 7) (mc' := 0) (ms' := 0) [vI v.2.1] [] rfl (dd dtX6_stays 38 rfl) (okf6_leavesOf v.1 v.2.1 w19) moX6_leavesOf miX6_leavesOf (bw_mem5 56 rfl rfl) (Or.inl ⟨_, _, _, _, (shI e20 (shE h17)), rfl⟩) rfl (Nat.le_of_ble_eq_true rfl) ⟨(Nat.le_of_ble_eq_true rfl), (Nat.le_of_ble_eq_true rfl)⟩ ⟨(Nat.le_of_ble_eq_true rfl), (Nat.le_of_ble_eq_true rfl)⟩ (fun z21 h22 e23 => ?_)
    refine WPe_st (st2 := [vI z21.1]) rfl ?_
    refine WPe_istore (pc := 62) (ls' := [(7, vI z21.1), (0, vR v.1), (1, vI v.2.1), (2, vI v.2.2.1), (3, vI v.2.2.2.1), (4, vI v.2.2.2.2.1), (5, vI v.2.2.2.2.2.1), (6, vI v.2.2.2.2.2.2)]) (dd dtX6_stays 39 rfl) (Nat.le_of_ble_eq_true rfl) rfl ?_
    refine WPe_iload (pc := 64) 0 (dd dtX6_stays 40 rfl) rfl ?_
    refine WPe_iconst (pc := 66) (-1 : Int32) (dd dtX6_stays 41 rfl) (by decide) ?_
    refine WPe_icmp_ne (pc := 67) 75 (dd dtX6_stays 42 rfl) (by decide) (fun h24 => ?_) (fun h24 => ?_)
    · refine WPe_bipush (pc := 70) (41 : Int32) (dd dtX6_stays 43 rfl) (by decide) ?_
      refine WPe_goto (pc := 72) 77 (dd dtX6_stays 44 rfl) (by decide) ?_
      refine WPe_sub [1, 2, 3, 4, 5, 6, 7] rfl ?_
      exact wpj6_stays_77 X w0 k41 hk41 v.1 v.2.1 v.2.2.1 v.2.2.2.1 v.2.2.2.2.1 v.2.2.2.2.2.1 v.2.2.2.2.2.2 (41 : Int32) z21.2
    · refine WPe_iload (pc := 75) 0 (dd dtX6_stays 45 rfl) rfl ?_
      refine WPe_sub [1, 2, 3, 4, 5, 6, 7] rfl ?_
      exact wpj6_stays_77 X w0 k41 hk41 v.1 v.2.1 v.2.2.1 v.2.2.2.1 v.2.2.2.2.1 v.2.2.2.2.2.1 v.2.2.2.2.2.2 z21.1 z21.2
theorem wplb6_stays_41 (X : CX) (w0 : Wd)  : ∀ (n9 : Nat) (v : Nat × Int32 × Int32 × Int32 × Int32 × Int32 × Int32) (w : Wd), WPe rtI X (mX6_stays, 8, 0, 0, w0) 0 0 (loopF (b6_stays_41 ) n9 v w) 41 [(0, vR v.1), (1, vI v.2.1), (2, vI v.2.2.1), (3, vI v.2.2.2.1), (4, vI v.2.2.2.2.1), (5, vI v.2.2.2.2.2.1), (6, vI v.2.2.2.2.2.2)] [] w :=
  WPe_loop (rt := rtI) (X := X) (M := (mX6_stays, 8, 0, 0, w0)) (fun v : Nat × Int32 × Int32 × Int32 × Int32 × Int32 × Int32 => [(0, vR v.1), (1, vI v.2.1), (2, vI v.2.2.1), (3, vI v.2.2.2.1), (4, vI v.2.2.2.2.1), (5, vI v.2.2.2.2.2.1), (6, vI v.2.2.2.2.2.2)]) (fun k hk v w => wpb6_stays_41 X w0  k hk v w)
noncomputable def f6_stays (x0 : Nat) (x1 : Int32) (x2 : Int32) (w : Wd) : Option (Int32 × Wd) :=
  ck (tg w x0 = 6) ((f6_isOne x0 x1 w).bind fun z2 => (if z2.1 = (0 : Int32) then (some ((-5 : Int32), z2.2)) else ((f6_in x2 (0 : Int32) (1 : Int32) z2.2).bind fun z6 => (if z6.1 = (0 : Int32) then (some ((-7 : Int32), z6.2)) else (ck (tg z6.2 (wr z6.2 x0 3) = 20 ∧ vp_in ((3 : Int32) * x1) (ln z6.2 (wr z6.2 x0 3))) (loopF (b6_stays_41) FU (x0, x1, x2, (wi z6.2 (wr z6.2 x0 3) (((3 : Int32) * x1)).toNatClampNeg), (-1 : Int32), (0 : Int32), (0 : Int32)) z6.2))))))
theorem wpf6_stays (X : CX) (w0 : Wd) (x0 : Nat) (x1 : Int32) (x2 : Int32) (w : Wd) : WPe rtI X (mX6_stays, 8, 0, 0, w0) 0 0 (f6_stays x0 x1 x2 w) 0 [(0, vR x0), (1, vI x1), (2, vI x2)] [] w := by
  unfold f6_stays
  refine WPe_aload_n (pc := 0) 0 (dd dtX6_stays 0 rfl) rfl ?_
  refine WPe_iload_n (pc := 1) 1 (dd dtX6_stays 1 rfl) rfl ?_
  refine WPe_ck fun h1 => ?_
  refine WPe_callV (pc := 2) (rtc := rtI) (Mc := mX6_isOne) (d' := 2) (mc' := 0) (ms' := 0) [vI x1] [] rfl (dd dtX6_stays 2 rfl) (okf6_isOne x0 x1 w) moX6_isOne miX6_isOne (bw_mem4 190 rfl rfl) (Or.inl ⟨_, _, _, _, (shE h1), rfl⟩) rfl (Nat.le_of_ble_eq_true rfl) ⟨(Nat.le_of_ble_eq_true rfl), (Nat.le_of_ble_eq_true rfl)⟩ ⟨(Nat.le_of_ble_eq_true rfl), (Nat.le_of_ble_eq_true rfl)⟩ (fun z2 h3 e4 => ?_)
  refine WPe_st (st2 := [vI z2.1]) rfl ?_
  refine WPe_if_ne (pc := 5) 11 (dd dtX6_stays 3 rfl) (by decide) (fun h5 => ?_) (fun h5 => ?_)
  · refine WPe_bipush (pc := 8) (-5 : Int32) (dd dtX6_stays 4 rfl) (by decide) ?_
    exact WPe_ireturn (pc := 10) (dd dtX6_stays 5 rfl) rfl rfl ⟨(Nat.le_of_ble_eq_true rfl), (Nat.le_of_ble_eq_true rfl)⟩
  · refine WPe_iload_n (pc := 11) 2 (dd dtX6_stays 6 rfl) rfl ?_
    refine WPe_iconst (pc := 12) (0 : Int32) (dd dtX6_stays 7 rfl) (by decide) ?_
    refine WPe_iconst (pc := 13) (1 : Int32) (dd dtX6_stays 8 rfl) (by decide) ?_
    refine WPe_callS (pc := 14) (rtc := rtI) (Mc := mX6_in) (d' := 1) (mc' := 0) (ms' := 0) [vI x2, vI (0 : Int32), vI (1 : Int32)] [] rfl (dd dtX6_stays 9 rfl) (okf6_in x2 (0 : Int32) (1 : Int32) z2.2) moX6_in msX6_in (bw_mem4 14 rfl rfl) rfl (Nat.le_of_ble_eq_true rfl) ⟨(Nat.le_of_ble_eq_true rfl), (Nat.le_of_ble_eq_true rfl)⟩ ⟨(Nat.le_of_ble_eq_true rfl), (Nat.le_of_ble_eq_true rfl)⟩ (fun z6 h7 e8 => ?_)
    refine WPe_st (st2 := [vI z6.1]) rfl ?_
    refine WPe_if_ne (pc := 17) 23 (dd dtX6_stays 10 rfl) (by decide) (fun h9 => ?_) (fun h9 => ?_)
    · refine WPe_bipush (pc := 20) (-7 : Int32) (dd dtX6_stays 11 rfl) (by decide) ?_
      exact WPe_ireturn (pc := 22) (dd dtX6_stays 12 rfl) rfl rfl ⟨(Nat.le_of_ble_eq_true rfl), (Nat.le_of_ble_eq_true rfl)⟩
    · refine WPe_aload_n (pc := 23) 0 (dd dtX6_stays 13 rfl) rfl ?_
      refine WPe_getR (pc := 24) (t := 6) (C := RX6) (T := TX6) 3 (dd dtX6_stays 14 rfl) (e8.at (e4.at (shE h1) (by decide)) (by decide)) rfl (Nat.le_of_ble_eq_true rfl) rfl (bw_mem4 56 rfl rfl) ?_
      refine WPe_iconst (pc := 27) (3 : Int32) (dd dtX6_stays 15 rfl) (by decide) ?_
      refine WPe_iload_n (pc := 28) 1 (dd dtX6_stays 16 rfl) rfl ?_
      refine WPe_imul (pc := 29) (dd dtX6_stays 17 rfl) ?_
      refine WPe_ck fun h10 => ?_
      refine WPe_iald (pc := 30) (dd dtX6_stays 18 rfl) (shE h10.1) h10.2 ?_
      refine WPe_istore_n (pc := 31) (ls' := [(3, vI (wi z6.2 (wr z6.2 x0 3) (((3 : Int32) * x1)).toNatClampNeg)), (0, vR x0), (1, vI x1), (2, vI x2)]) (dd dtX6_stays 19 rfl) (Nat.le_of_ble_eq_true rfl) rfl ?_
      refine WPe_iconst (pc := 32) (-1 : Int32) (dd dtX6_stays 20 rfl) (by decide) ?_
      refine WPe_istore (pc := 33) (ls' := [(4, vI (-1 : Int32)), (3, vI (wi z6.2 (wr z6.2 x0 3) (((3 : Int32) * x1)).toNatClampNeg)), (0, vR x0), (1, vI x1), (2, vI x2)]) (dd dtX6_stays 21 rfl) (Nat.le_of_ble_eq_true rfl) rfl ?_
      refine WPe_iconst (pc := 35) (0 : Int32) (dd dtX6_stays 22 rfl) (by decide) ?_
      refine WPe_istore (pc := 36) (ls' := [(5, vI (0 : Int32)), (4, vI (-1 : Int32)), (3, vI (wi z6.2 (wr z6.2 x0 3) (((3 : Int32) * x1)).toNatClampNeg)), (0, vR x0), (1, vI x1), (2, vI x2)]) (dd dtX6_stays 23 rfl) (Nat.le_of_ble_eq_true rfl) rfl ?_
      refine WPe_iconst (pc := 38) (0 : Int32) (dd dtX6_stays 24 rfl) (by decide) ?_
      refine WPe_istore (pc := 39) (ls' := [(6, vI (0 : Int32)), (5, vI (0 : Int32)), (4, vI (-1 : Int32)), (3, vI (wi z6.2 (wr z6.2 x0 3) (((3 : Int32) * x1)).toNatClampNeg)), (0, vR x0), (1, vI x1), (2, vI x2)]) (dd dtX6_stays 25 rfl) (Nat.le_of_ble_eq_true rfl) rfl ?_
      refine WPe_sub [4, 5, 6, 3, 2, 1, 0] rfl ?_
      exact wplb6_stays_41 X w0  FU _ _
theorem okf6_stays (x0 : Nat) (x1 : Int32) (x2 : Int32) (w : Wd) : ∀ z, f6_stays x0 x1 x2 w = some z → OkM mX6_stays 8 0 0 [vR x0, vI x1, vI x2] w (rtI z.1) z.2 :=
  OkM.of (rt := rtI) moX6_stays (Nat.le_of_ble_eq_true rfl) (fun X => wpf6_stays X w x0 x1 x2 w)
def tbX6_lowest : List (Nat × Instr × Nat) := [(0, .lload_n 0, 1), (1, .lconst 0, 1), (2, .lcmp, 1), (3, .ifCond .ne 7, 3), (6, .iload 4, 2), (8, .i2l, 1), (9, .lreturn, 1), (10, .lload_n 0, 1), (11, .lstore 5, 2), (13, .lload_n 2, 1), (14, .lstore 7, 2), (16, .lload 7, 2), (18, .lconst 0, 1), (19, .lcmp, 1), (20, .ifCond .eq 21, 3), (23, .lload 5, 2), (25, .lload 7, 2), (27, .lrem, 1), (28, .lstore 9, 2), (30, .lload 7, 2), (32, .lstore 5, 2), (34, .lload 9, 2), (36, .lstore 7, 2), (38, .goto (-22), 3), (41, .iload 4, 2), (43, .ifCond .ne 7, 3), (46, .lload_n 0, 1), (47, .goto 4, 3), (50, .lload_n 2, 1), (51, .lload 5, 2), (53, .ldiv, 1), (54, .lreturn, 1)]
set_option maxRecDepth 20000 in
theorem dtX6_lowest : ∀ x ∈ tbX6_lowest, decode cX6_lowest x.1 = .ok x.2 := by decide +kernel
noncomputable def b6_lowest_16 (k16 : Int64 × Int64 × Int32 × Int64 × Int64 → Wd → Option (Int64 × Wd)) (v : Int64 × Int64 × Int32 × Int64 × Int64) (w : Wd) : Option (Int64 × Wd) :=
  if (lg_cmp v.2.2.2.2 (0 : Int64)) = (0 : Int32) then (if v.2.2.1 = (0 : Int32) then (ck (¬ v.2.2.2.1 = 0) (some ((v.1 / v.2.2.2.1), w))) else (ck (¬ v.2.2.2.1 = 0) (some ((v.2.1 / v.2.2.2.1), w)))) else (ck (¬ v.2.2.2.2 = 0) (k16 (v.1, v.2.1, v.2.2.1, v.2.2.2.2, (v.2.2.2.1 - v.2.2.2.1 / v.2.2.2.2 * v.2.2.2.2)) w))
theorem wpb6_lowest_16 (X : CX) (w0 : Wd) (k16 : Int64 × Int64 × Int32 × Int64 × Int64 → Wd → Option (Int64 × Wd)) (hk16 : ∀ (v : Int64 × Int64 × Int32 × Int64 × Int64) (w : Wd), WPe rtJ X (mX6_lowest, 1, 0, 0, w0) 0 0 (k16 v w) 16 [(0, vJ v.1), (2, vJ v.2.1), (4, vI v.2.2.1), (5, vJ v.2.2.2.1), (7, vJ v.2.2.2.2)] [] w) (v : Int64 × Int64 × Int32 × Int64 × Int64) (w : Wd) : WPe rtJ X (mX6_lowest, 1, 0, 0, w0) 0 0 (b6_lowest_16 k16 v w) 16 [(0, vJ v.1), (2, vJ v.2.1), (4, vI v.2.2.1), (5, vJ v.2.2.2.1), (7, vJ v.2.2.2.2)] [] w := by
  unfold b6_lowest_16
  refine WPe_lload (pc := 16) 4 (dd dtX6_lowest 11 rfl) rfl ?_
  refine WPe_lconst (pc := 18) (0 : Int64) (dd dtX6_lowest 12 rfl) (by decide) ?_
  refine WPe_lcmp (pc := 19) (dd dtX6_lowest 13 rfl) ?_
  refine WPe_if_eq (pc := 20) 41 (dd dtX6_lowest 14 rfl) (by decide) (fun h2 => ?_) (fun h2 => ?_)
  · refine WPe_iload (pc := 41) 2 (dd dtX6_lowest 24 rfl) rfl ?_
    refine WPe_if_ne (pc := 43) 50 (dd dtX6_lowest 25 rfl) (by decide) (fun h3 => ?_) (fun h3 => ?_)
    · refine WPe_lload_n (pc := 46) 0 (dd dtX6_lowest 26 rfl) rfl ?_
      refine WPe_goto (pc := 47) 51 (dd dtX6_lowest 27 rfl) (by decide) ?_
      refine WPe_lload (pc := 51) 3 (dd dtX6_lowest 29 rfl) rfl ?_
      refine WPe_ck fun h4 => ?_
      refine WPe_ldiv (pc := 53) (dd dtX6_lowest 30 rfl) h4 ?_
      exact WPe_lreturn (pc := 54) (dd dtX6_lowest 31 rfl) rfl rfl ⟨(Nat.le_of_ble_eq_true rfl), (Nat.le_of_ble_eq_true rfl)⟩
    · refine WPe_lload_n (pc := 50) 1 (dd dtX6_lowest 28 rfl) rfl ?_
      refine WPe_lload (pc := 51) 3 (dd dtX6_lowest 29 rfl) rfl ?_
      refine WPe_ck fun h5 => ?_
      refine WPe_ldiv (pc := 53) (dd dtX6_lowest 30 rfl) h5 ?_
      exact WPe_lreturn (pc := 54) (dd dtX6_lowest 31 rfl) rfl rfl ⟨(Nat.le_of_ble_eq_true rfl), (Nat.le_of_ble_eq_true rfl)⟩
  · refine WPe_lload (pc := 23) 3 (dd dtX6_lowest 15 rfl) rfl ?_
    refine WPe_lload (pc := 25) 4 (dd dtX6_lowest 16 rfl) rfl ?_
    refine WPe_ck fun h6 => ?_
    refine WPe_lrem (pc := 27) (dd dtX6_lowest 17 rfl) h6 ?_
    refine WPe_lstore (pc := 28) (ls' := [(9, vJ (v.2.2.2.1 - v.2.2.2.1 / v.2.2.2.2 * v.2.2.2.2)), (0, vJ v.1), (2, vJ v.2.1), (4, vI v.2.2.1), (5, vJ v.2.2.2.1), (7, vJ v.2.2.2.2)]) (dd dtX6_lowest 18 rfl) (Nat.le_of_ble_eq_true rfl) rfl ?_
    refine WPe_lload (pc := 30) 5 (dd dtX6_lowest 19 rfl) rfl ?_
    refine WPe_lstore (pc := 32) (ls' := [(5, vJ v.2.2.2.2), (9, vJ (v.2.2.2.1 - v.2.2.2.1 / v.2.2.2.2 * v.2.2.2.2)), (0, vJ v.1), (2, vJ v.2.1), (4, vI v.2.2.1), (7, vJ v.2.2.2.2)]) (dd dtX6_lowest 20 rfl) (Nat.le_of_ble_eq_true rfl) rfl ?_
    refine WPe_lload (pc := 34) 1 (dd dtX6_lowest 21 rfl) rfl ?_
    refine WPe_lstore (pc := 36) (ls' := [(7, vJ (v.2.2.2.1 - v.2.2.2.1 / v.2.2.2.2 * v.2.2.2.2)), (5, vJ v.2.2.2.2), (9, vJ (v.2.2.2.1 - v.2.2.2.1 / v.2.2.2.2 * v.2.2.2.2)), (0, vJ v.1), (2, vJ v.2.1), (4, vI v.2.2.1)]) (dd dtX6_lowest 22 rfl) (Nat.le_of_ble_eq_true rfl) rfl ?_
    refine WPe_goto (pc := 38) 16 (dd dtX6_lowest 23 rfl) (by decide) ?_
    refine WPe_sub [3, 4, 5, 1, 0] rfl ?_
    exact hk16 (v.1, v.2.1, v.2.2.1, v.2.2.2.2, (v.2.2.2.1 - v.2.2.2.1 / v.2.2.2.2 * v.2.2.2.2)) w
theorem wplb6_lowest_16 (X : CX) (w0 : Wd)  : ∀ (n9 : Nat) (v : Int64 × Int64 × Int32 × Int64 × Int64) (w : Wd), WPe rtJ X (mX6_lowest, 1, 0, 0, w0) 0 0 (loopF (b6_lowest_16 ) n9 v w) 16 [(0, vJ v.1), (2, vJ v.2.1), (4, vI v.2.2.1), (5, vJ v.2.2.2.1), (7, vJ v.2.2.2.2)] [] w :=
  WPe_loop (rt := rtJ) (X := X) (M := (mX6_lowest, 1, 0, 0, w0)) (fun v : Int64 × Int64 × Int32 × Int64 × Int64 => [(0, vJ v.1), (2, vJ v.2.1), (4, vI v.2.2.1), (5, vJ v.2.2.2.1), (7, vJ v.2.2.2.2)]) (fun k hk v w => wpb6_lowest_16 X w0  k hk v w)
noncomputable def f6_lowest (x0 : Int64) (x2 : Int64) (x4 : Int32) (w : Wd) : Option (Int64 × Wd) :=
  if (lg_cmp x0 (0 : Int64)) = (0 : Int32) then (some (((x4).toInt64), w)) else (loopF (b6_lowest_16) FU (x0, x2, x4, x0, x2) w)
theorem wpf6_lowest (X : CX) (w0 : Wd) (x0 : Int64) (x2 : Int64) (x4 : Int32) (w : Wd) : WPe rtJ X (mX6_lowest, 1, 0, 0, w0) 0 0 (f6_lowest x0 x2 x4 w) 0 [(0, vJ x0), (2, vJ x2), (4, vI x4)] [] w := by
  unfold f6_lowest
  refine WPe_lload_n (pc := 0) 0 (dd dtX6_lowest 0 rfl) rfl ?_
  refine WPe_lconst (pc := 1) (0 : Int64) (dd dtX6_lowest 1 rfl) (by decide) ?_
  refine WPe_lcmp (pc := 2) (dd dtX6_lowest 2 rfl) ?_
  refine WPe_if_ne (pc := 3) 10 (dd dtX6_lowest 3 rfl) (by decide) (fun h1 => ?_) (fun h1 => ?_)
  · refine WPe_iload (pc := 6) 2 (dd dtX6_lowest 4 rfl) rfl ?_
    refine WPe_i2l (pc := 8) (dd dtX6_lowest 5 rfl) ?_
    exact WPe_lreturn (pc := 9) (dd dtX6_lowest 6 rfl) rfl rfl ⟨(Nat.le_of_ble_eq_true rfl), (Nat.le_of_ble_eq_true rfl)⟩
  · refine WPe_lload_n (pc := 10) 0 (dd dtX6_lowest 7 rfl) rfl ?_
    refine WPe_lstore (pc := 11) (ls' := [(5, vJ x0), (0, vJ x0), (2, vJ x2), (4, vI x4)]) (dd dtX6_lowest 8 rfl) (Nat.le_of_ble_eq_true rfl) rfl ?_
    refine WPe_lload_n (pc := 13) 2 (dd dtX6_lowest 9 rfl) rfl ?_
    refine WPe_lstore (pc := 14) (ls' := [(7, vJ x2), (5, vJ x0), (0, vJ x0), (2, vJ x2), (4, vI x4)]) (dd dtX6_lowest 10 rfl) (Nat.le_of_ble_eq_true rfl) rfl ?_
    refine WPe_sub [2, 3, 4, 1, 0] rfl ?_
    exact wplb6_lowest_16 X w0  FU _ _
theorem okf6_lowest (x0 : Int64) (x2 : Int64) (x4 : Int32) (w : Wd) : ∀ z, f6_lowest x0 x2 x4 w = some z → OkM mX6_lowest 1 0 0 [vJ x0, vJ x2, vI x4] w (rtJ z.1) z.2 :=
  OkM.of (rt := rtJ) moX6_lowest (Nat.le_of_ble_eq_true rfl) (fun X => wpf6_lowest X w x0 x2 x4 w)
def tbX6_share : List (Nat × Instr × Nat) := [(0, .aload_n 0, 1), (1, .iload_n 1, 1), (2, .invokevirtual 164, 3), (5, .ifCond .eq 22, 3), (8, .iload_n 2, 1), (9, .iconst 0, 1), (10, .bipush 40, 2), (12, .invokestatic 75, 3), (15, .ifCond .eq 12, 3), (18, .iload_n 3, 1), (19, .iconst 0, 1), (20, .iconst 1, 1), (21, .invokestatic 75, 3), (24, .ifCond .ne 7, 3), (27, .ldc2_w 218, 3), (30, .lreturn, 1), (31, .aload_n 0, 1), (32, .invokevirtual 197, 3), (35, .aload_n 0, 1), (36, .iload_n 2, 1), (37, .invokevirtual 215, 3), (40, .istore 4, 2), (42, .aload_n 0, 1), (43, .getfield 16, 3), (46, .iconst 3, 1), (47, .iload_n 1, 1), (48, .imul, 1), (49, .iconst 2, 1), (50, .iadd, 1), (51, .iaload, 1), (52, .istore 5, 2), (54, .aload_n 0, 1), (55, .invokevirtual 206, 3), (58, .iload 4, 2), (60, .ifCond .ne 9, 3), (63, .ldc2_w 218, 3), (66, .goto 13, 3), (69, .iload 5, 2), (71, .i2l, 1), (72, .iload 4, 2), (74, .i2l, 1), (75, .iload_n 3, 1), (76, .invokestatic 220, 3), (79, .lreturn, 1)]
set_option maxRecDepth 20000 in
theorem dtX6_share : ∀ x ∈ tbX6_share, decode cX6_share x.1 = .ok x.2 := by decide +kernel
noncomputable def f6_share (x0 : Nat) (x1 : Int32) (x2 : Int32) (x3 : Int32) (w : Wd) : Option (Int64 × Wd) :=
  ck (tg w x0 = 6) ((f6_isOne x0 x1 w).bind fun z2 => (if z2.1 = (0 : Int32) then (some ((-4611686018427387904 : Int64), z2.2)) else ((f6_in x2 (0 : Int32) (40 : Int32) z2.2).bind fun z6 => (if z6.1 = (0 : Int32) then (some ((-4611686018427387904 : Int64), z6.2)) else ((f6_in x3 (0 : Int32) (1 : Int32) z6.2).bind fun z10 => (if z10.1 = (0 : Int32) then (some ((-4611686018427387904 : Int64), z10.2)) else ((f6_keeps x0 z10.2).bind fun z14 => ((f6_joyBehind x0 x2 z14.2).bind fun z17 => (ck (tg z17.2 (wr z17.2 x0 3) = 20 ∧ vp_in (((3 : Int32) * x1) + (2 : Int32)) (ln z17.2 (wr z17.2 x0 3))) ((f6_lays x0 z17.2).bind fun z21 => (if z17.1 = (0 : Int32) then (some ((-4611686018427387904 : Int64), z21.2)) else ((f6_lowest (((wi z17.2 (wr z17.2 x0 3) ((((3 : Int32) * x1) + (2 : Int32))).toNatClampNeg)).toInt64) ((z17.1).toInt64) x3 z21.2).bind fun z25 => (some (z25.1, z25.2))))))))))))))
theorem wpf6_share (X : CX) (w0 : Wd) (x0 : Nat) (x1 : Int32) (x2 : Int32) (x3 : Int32) (w : Wd) : WPe rtJ X (mX6_share, 9, 0, 0, w0) 0 0 (f6_share x0 x1 x2 x3 w) 0 [(0, vR x0), (1, vI x1), (2, vI x2), (3, vI x3)] [] w := by
  unfold f6_share
  refine WPe_aload_n (pc := 0) 0 (dd dtX6_share 0 rfl) rfl ?_
  refine WPe_iload_n (pc := 1) 1 (dd dtX6_share 1 rfl) rfl ?_
  refine WPe_ck fun h1 => ?_
  refine WPe_callV (pc := 2) (rtc := rtI) (Mc := mX6_isOne) (d' := 2) (mc' := 0) (ms' := 0) [vI x1] [] rfl (dd dtX6_share 2 rfl) (okf6_isOne x0 x1 w) moX6_isOne miX6_isOne (bw_mem4 190 rfl rfl) (Or.inl ⟨_, _, _, _, (shE h1), rfl⟩) rfl (Nat.le_of_ble_eq_true rfl) ⟨(Nat.le_of_ble_eq_true rfl), (Nat.le_of_ble_eq_true rfl)⟩ ⟨(Nat.le_of_ble_eq_true rfl), (Nat.le_of_ble_eq_true rfl)⟩ (fun z2 h3 e4 => ?_)
  refine WPe_st (st2 := [vI z2.1]) rfl ?_
  refine WPe_if_eq (pc := 5) 27 (dd dtX6_share 3 rfl) (by decide) (fun h5 => ?_) (fun h5 => ?_)
  · refine WPe_ldc2 (pc := 27) (v := (-4611686018427387904 : Int64)) (dd dtX6_share 14 rfl) (bw_mem5 96 rfl rfl) ?_
    exact WPe_lreturn (pc := 30) (dd dtX6_share 15 rfl) rfl rfl ⟨(Nat.le_of_ble_eq_true rfl), (Nat.le_of_ble_eq_true rfl)⟩
  · refine WPe_iload_n (pc := 8) 2 (dd dtX6_share 4 rfl) rfl ?_
    refine WPe_iconst (pc := 9) (0 : Int32) (dd dtX6_share 5 rfl) (by decide) ?_
    refine WPe_bipush (pc := 10) (40 : Int32) (dd dtX6_share 6 rfl) (by decide) ?_
    refine WPe_callS (pc := 12) (rtc := rtI) (Mc := mX6_in) (d' := 1) (mc' := 0) (ms' := 0) [vI x2, vI (0 : Int32), vI (40 : Int32)] [] rfl (dd dtX6_share 7 rfl) (okf6_in x2 (0 : Int32) (40 : Int32) z2.2) moX6_in msX6_in (bw_mem4 14 rfl rfl) rfl (Nat.le_of_ble_eq_true rfl) ⟨(Nat.le_of_ble_eq_true rfl), (Nat.le_of_ble_eq_true rfl)⟩ ⟨(Nat.le_of_ble_eq_true rfl), (Nat.le_of_ble_eq_true rfl)⟩ (fun z6 h7 e8 => ?_)
    refine WPe_st (st2 := [vI z6.1]) rfl ?_
    refine WPe_if_eq (pc := 15) 27 (dd dtX6_share 8 rfl) (by decide) (fun h9 => ?_) (fun h9 => ?_)
    · refine WPe_ldc2 (pc := 27) (v := (-4611686018427387904 : Int64)) (dd dtX6_share 14 rfl) (bw_mem5 96 rfl rfl) ?_
      exact WPe_lreturn (pc := 30) (dd dtX6_share 15 rfl) rfl rfl ⟨(Nat.le_of_ble_eq_true rfl), (Nat.le_of_ble_eq_true rfl)⟩
    · refine WPe_iload_n (pc := 18) 3 (dd dtX6_share 9 rfl) rfl ?_
      refine WPe_iconst (pc := 19) (0 : Int32) (dd dtX6_share 10 rfl) (by decide) ?_
      refine WPe_iconst (pc := 20) (1 : Int32) (dd dtX6_share 11 rfl) (by decide) ?_
      refine WPe_callS (pc := 21) (rtc := rtI) (Mc := mX6_in) (d' := 1) (mc' := 0) (ms' := 0) [vI x3, vI (0 : Int32), vI (1 : Int32)] [] rfl (dd dtX6_share 12 rfl) (okf6_in x3 (0 : Int32) (1 : Int32) z6.2) moX6_in msX6_in (bw_mem4 14 rfl rfl) rfl (Nat.le_of_ble_eq_true rfl) ⟨(Nat.le_of_ble_eq_true rfl), (Nat.le_of_ble_eq_true rfl)⟩ ⟨(Nat.le_of_ble_eq_true rfl), (Nat.le_of_ble_eq_true rfl)⟩ (fun z10 h11 e12 => ?_)
      refine WPe_st (st2 := [vI z10.1]) rfl ?_
      refine WPe_if_ne (pc := 24) 31 (dd dtX6_share 13 rfl) (by decide) (fun h13 => ?_) (fun h13 => ?_)
      · refine WPe_ldc2 (pc := 27) (v := (-4611686018427387904 : Int64)) (dd dtX6_share 14 rfl) (bw_mem5 96 rfl rfl) ?_
        exact WPe_lreturn (pc := 30) (dd dtX6_share 15 rfl) rfl rfl ⟨(Nat.le_of_ble_eq_true rfl), (Nat.le_of_ble_eq_true rfl)⟩
      · refine WPe_aload_n (pc := 31) 0 (dd dtX6_share 16 rfl) rfl ?_
        refine WPe_callV (pc := 32) (rtc := rtV) (Mc := mX6_keeps) (d' := 1) (mc' := 0) (ms' := 0) [] [] rfl (dd dtX6_share 17 rfl) (okf6_keeps x0 z10.2) moX6_keeps miX6_keeps (bw_mem5 32 rfl rfl) (Or.inl ⟨_, _, _, _, (e12.at (e8.at (e4.at (shE h1) (by decide)) (by decide)) (by decide)), rfl⟩) rfl (Nat.le_of_ble_eq_true rfl) ⟨(Nat.le_of_ble_eq_true rfl), (Nat.le_of_ble_eq_true rfl)⟩ ⟨(Nat.le_of_ble_eq_true rfl), (Nat.le_of_ble_eq_true rfl)⟩ (fun z14 h15 e16 => ?_)
        refine WPe_st (st2 := []) rfl ?_
        refine WPe_aload_n (pc := 35) 0 (dd dtX6_share 18 rfl) rfl ?_
        refine WPe_iload_n (pc := 36) 2 (dd dtX6_share 19 rfl) rfl ?_
        refine WPe_callV (pc := 37) (rtc := rtI) (Mc := mX6_joyBehind) (d' := 8) (mc' := 0) (ms' := 0) [vI x2] [] rfl (dd dtX6_share 20 rfl) (okf6_joyBehind x0 x2 z14.2) moX6_joyBehind miX6_joyBehind (bw_mem5 80 rfl rfl) (Or.inl ⟨_, _, _, _, (e16.at (e12.at (e8.at (e4.at (shE h1) (by decide)) (by decide)) (by decide)) (by decide)), rfl⟩) rfl (Nat.le_of_ble_eq_true rfl) ⟨(Nat.le_of_ble_eq_true rfl), (Nat.le_of_ble_eq_true rfl)⟩ ⟨(Nat.le_of_ble_eq_true rfl), (Nat.le_of_ble_eq_true rfl)⟩ (fun z17 h18 e19 => ?_)
        refine WPe_st (st2 := [vI z17.1]) rfl ?_
        refine WPe_istore (pc := 40) (ls' := [(4, vI z17.1), (0, vR x0), (1, vI x1), (2, vI x2), (3, vI x3)]) (dd dtX6_share 21 rfl) (Nat.le_of_ble_eq_true rfl) rfl ?_
        refine WPe_aload_n (pc := 42) 1 (dd dtX6_share 22 rfl) rfl ?_
        refine WPe_getR (pc := 43) (t := 6) (C := RX6) (T := TX6) 3 (dd dtX6_share 23 rfl) (e19.at (e16.at (e12.at (e8.at (e4.at (shE h1) (by decide)) (by decide)) (by decide)) (by decide)) (by decide)) rfl (Nat.le_of_ble_eq_true rfl) rfl (bw_mem4 56 rfl rfl) ?_
        refine WPe_iconst (pc := 46) (3 : Int32) (dd dtX6_share 24 rfl) (by decide) ?_
        refine WPe_iload_n (pc := 47) 2 (dd dtX6_share 25 rfl) rfl ?_
        refine WPe_imul (pc := 48) (dd dtX6_share 26 rfl) ?_
        refine WPe_iconst (pc := 49) (2 : Int32) (dd dtX6_share 27 rfl) (by decide) ?_
        refine WPe_iadd (pc := 50) (dd dtX6_share 28 rfl) ?_
        refine WPe_ck fun h20 => ?_
        refine WPe_iald (pc := 51) (dd dtX6_share 29 rfl) (shE h20.1) h20.2 ?_
        refine WPe_istore (pc := 52) (ls' := [(5, vI (wi z17.2 (wr z17.2 x0 3) ((((3 : Int32) * x1) + (2 : Int32))).toNatClampNeg)), (4, vI z17.1), (0, vR x0), (1, vI x1), (2, vI x2), (3, vI x3)]) (dd dtX6_share 30 rfl) (Nat.le_of_ble_eq_true rfl) rfl ?_
        refine WPe_aload_n (pc := 54) 2 (dd dtX6_share 31 rfl) rfl ?_
        refine WPe_callV (pc := 55) (rtc := rtV) (Mc := mX6_lays) (d' := 1) (mc' := 0) (ms' := 0) [] [] rfl (dd dtX6_share 32 rfl) (okf6_lays x0 z17.2) moX6_lays miX6_lays (bw_mem5 48 rfl rfl) (Or.inl ⟨_, _, _, _, (e19.at (e16.at (e12.at (e8.at (e4.at (shE h1) (by decide)) (by decide)) (by decide)) (by decide)) (by decide)), rfl⟩) rfl (Nat.le_of_ble_eq_true rfl) ⟨(Nat.le_of_ble_eq_true rfl), (Nat.le_of_ble_eq_true rfl)⟩ ⟨(Nat.le_of_ble_eq_true rfl), (Nat.le_of_ble_eq_true rfl)⟩ (fun z21 h22 e23 => ?_)
        refine WPe_st (st2 := []) rfl ?_
        refine WPe_iload (pc := 58) 1 (dd dtX6_share 33 rfl) rfl ?_
        refine WPe_if_ne (pc := 60) 69 (dd dtX6_share 34 rfl) (by decide) (fun h24 => ?_) (fun h24 => ?_)
        · refine WPe_ldc2 (pc := 63) (v := (-4611686018427387904 : Int64)) (dd dtX6_share 35 rfl) (bw_mem5 96 rfl rfl) ?_
          refine WPe_goto (pc := 66) 79 (dd dtX6_share 36 rfl) (by decide) ?_
          exact WPe_lreturn (pc := 79) (dd dtX6_share 43 rfl) rfl rfl ⟨(Nat.le_of_ble_eq_true rfl), (Nat.le_of_ble_eq_true rfl)⟩
        · refine WPe_iload (pc := 69) 0 (dd dtX6_share 37 rfl) rfl ?_
          refine WPe_i2l (pc := 71) (dd dtX6_share 38 rfl) ?_
          refine WPe_iload (pc := 72) 1 (dd dtX6_share 39 rfl) rfl ?_
          refine WPe_i2l (pc := 74) (dd dtX6_share 40 rfl) ?_
          refine WPe_iload_n (pc := 75) 5 (dd dtX6_share 41 rfl) rfl ?_
          refine WPe_callS (pc := 76) (rtc := rtJ) (Mc := mX6_lowest) (d' := 1) (mc' := 0) (ms' := 0) [vJ (((wi z17.2 (wr z17.2 x0 3) ((((3 : Int32) * x1) + (2 : Int32))).toNatClampNeg)).toInt64), vJ ((z17.1).toInt64), vI x3] [] rfl (dd dtX6_share 42 rfl) (okf6_lowest (((wi z17.2 (wr z17.2 x0 3) ((((3 : Int32) * x1) + (2 : Int32))).toNatClampNeg)).toInt64) ((z17.1).toInt64) x3 z21.2) moX6_lowest msX6_lowest (bw_mem5 97 rfl rfl) rfl (Nat.le_of_ble_eq_true rfl) ⟨(Nat.le_of_ble_eq_true rfl), (Nat.le_of_ble_eq_true rfl)⟩ ⟨(Nat.le_of_ble_eq_true rfl), (Nat.le_of_ble_eq_true rfl)⟩ (fun z25 h26 e27 => ?_)
          refine WPe_st (st2 := [vJ z25.1]) rfl ?_
          exact WPe_lreturn (pc := 79) (dd dtX6_share 43 rfl) rfl rfl ⟨(Nat.le_of_ble_eq_true rfl), (Nat.le_of_ble_eq_true rfl)⟩
theorem okf6_share (x0 : Nat) (x1 : Int32) (x2 : Int32) (x3 : Int32) (w : Wd) : ∀ z, f6_share x0 x1 x2 x3 w = some z → OkM mX6_share 9 0 0 [vR x0, vI x1, vI x2, vI x3] w (rtJ z.1) z.2 :=
  OkM.of (rt := rtJ) moX6_share (Nat.le_of_ble_eq_true rfl) (fun X => wpf6_share X w x0 x1 x2 x3 w)
def tbX6_sheetWrong : List (Nat × Instr × Nat) := [(0, .iload_n 1, 1), (1, .iconst 0, 1), (2, .iconst 3, 1), (3, .invokestatic 75, 3), (6, .ifCond .ne 6, 3), (9, .bipush (-2), 2), (11, .ireturn, 1), (12, .aload_n 0, 1), (13, .getfield 37, 3), (16, .iload_n 1, 1), (17, .iaload, 1), (18, .iconst (-1), 1), (19, .if_icmp .ne 6, 3), (22, .bipush (-11), 2), (24, .ireturn, 1), (25, .aload_n 0, 1), (26, .getfield 40, 3), (29, .iload_n 1, 1), (30, .iaload, 1), (31, .bipush 20, 2), (33, .if_icmp .le 8, 3), (36, .bipush (-2), 2), (38, .goto 4, 3), (41, .iconst 0, 1), (42, .ireturn, 1)]
set_option maxRecDepth 20000 in
theorem dtX6_sheetWrong : ∀ x ∈ tbX6_sheetWrong, decode cX6_sheetWrong x.1 = .ok x.2 := by decide +kernel
noncomputable def f6_sheetWrong (x0 : Nat) (x1 : Int32) (w : Wd) : Option (Int32 × Wd) :=
  (f6_in x1 (0 : Int32) (3 : Int32) w).bind fun z1 => (if z1.1 = (0 : Int32) then (some ((-2 : Int32), z1.2)) else (ck (tg z1.2 x0 = 6) (ck (tg z1.2 (wr z1.2 x0 14) = 20 ∧ vp_in x1 (ln z1.2 (wr z1.2 x0 14))) (if (wi z1.2 (wr z1.2 x0 14) (x1).toNatClampNeg) = (-1 : Int32) then (some ((-11 : Int32), z1.2)) else (ck (tg z1.2 (wr z1.2 x0 15) = 20 ∧ vp_in x1 (ln z1.2 (wr z1.2 x0 15))) (if (wi z1.2 (wr z1.2 x0 15) (x1).toNatClampNeg) ≤ (20 : Int32) then (some ((0 : Int32), z1.2)) else (some ((-2 : Int32), z1.2))))))))
theorem wpf6_sheetWrong (X : CX) (w0 : Wd) (x0 : Nat) (x1 : Int32) (w : Wd) : WPe rtI X (mX6_sheetWrong, 2, 0, 0, w0) 0 0 (f6_sheetWrong x0 x1 w) 0 [(0, vR x0), (1, vI x1)] [] w := by
  unfold f6_sheetWrong
  refine WPe_iload_n (pc := 0) 1 (dd dtX6_sheetWrong 0 rfl) rfl ?_
  refine WPe_iconst (pc := 1) (0 : Int32) (dd dtX6_sheetWrong 1 rfl) (by decide) ?_
  refine WPe_iconst (pc := 2) (3 : Int32) (dd dtX6_sheetWrong 2 rfl) (by decide) ?_
  refine WPe_callS (pc := 3) (rtc := rtI) (Mc := mX6_in) (d' := 1) (mc' := 0) (ms' := 0) [vI x1, vI (0 : Int32), vI (3 : Int32)] [] rfl (dd dtX6_sheetWrong 3 rfl) (okf6_in x1 (0 : Int32) (3 : Int32) w) moX6_in msX6_in (bw_mem4 14 rfl rfl) rfl (Nat.le_of_ble_eq_true rfl) ⟨(Nat.le_of_ble_eq_true rfl), (Nat.le_of_ble_eq_true rfl)⟩ ⟨(Nat.le_of_ble_eq_true rfl), (Nat.le_of_ble_eq_true rfl)⟩ (fun z1 h2 e3 => ?_)
  refine WPe_st (st2 := [vI z1.1]) rfl ?_
  refine WPe_if_ne (pc := 6) 12 (dd dtX6_sheetWrong 4 rfl) (by decide) (fun h4 => ?_) (fun h4 => ?_)
  · refine WPe_bipush (pc := 9) (-2 : Int32) (dd dtX6_sheetWrong 5 rfl) (by decide) ?_
    exact WPe_ireturn (pc := 11) (dd dtX6_sheetWrong 6 rfl) rfl rfl ⟨(Nat.le_of_ble_eq_true rfl), (Nat.le_of_ble_eq_true rfl)⟩
  · refine WPe_aload_n (pc := 12) 0 (dd dtX6_sheetWrong 7 rfl) rfl ?_
    refine WPe_ck fun h5 => ?_
    refine WPe_getR (pc := 13) (t := 6) (C := RX6) (T := TX6) 14 (dd dtX6_sheetWrong 8 rfl) (shE h5) rfl (Nat.le_of_ble_eq_true rfl) rfl (bw_mem4 67 rfl rfl) ?_
    refine WPe_iload_n (pc := 16) 1 (dd dtX6_sheetWrong 9 rfl) rfl ?_
    refine WPe_ck fun h6 => ?_
    refine WPe_iald (pc := 17) (dd dtX6_sheetWrong 10 rfl) (shE h6.1) h6.2 ?_
    refine WPe_iconst (pc := 18) (-1 : Int32) (dd dtX6_sheetWrong 11 rfl) (by decide) ?_
    refine WPe_icmp_ne (pc := 19) 25 (dd dtX6_sheetWrong 12 rfl) (by decide) (fun h7 => ?_) (fun h7 => ?_)
    · refine WPe_bipush (pc := 22) (-11 : Int32) (dd dtX6_sheetWrong 13 rfl) (by decide) ?_
      exact WPe_ireturn (pc := 24) (dd dtX6_sheetWrong 14 rfl) rfl rfl ⟨(Nat.le_of_ble_eq_true rfl), (Nat.le_of_ble_eq_true rfl)⟩
    · refine WPe_aload_n (pc := 25) 0 (dd dtX6_sheetWrong 15 rfl) rfl ?_
      refine WPe_getR (pc := 26) (t := 6) (C := RX6) (T := TX6) 15 (dd dtX6_sheetWrong 16 rfl) (shE h5) rfl (Nat.le_of_ble_eq_true rfl) rfl (bw_mem4 68 rfl rfl) ?_
      refine WPe_iload_n (pc := 29) 1 (dd dtX6_sheetWrong 17 rfl) rfl ?_
      refine WPe_ck fun h8 => ?_
      refine WPe_iald (pc := 30) (dd dtX6_sheetWrong 18 rfl) (shE h8.1) h8.2 ?_
      refine WPe_bipush (pc := 31) (20 : Int32) (dd dtX6_sheetWrong 19 rfl) (by decide) ?_
      refine WPe_icmp_le (pc := 33) 41 (dd dtX6_sheetWrong 20 rfl) (by decide) (fun h9 => ?_) (fun h9 => ?_)
      · refine WPe_iconst (pc := 41) (0 : Int32) (dd dtX6_sheetWrong 23 rfl) (by decide) ?_
        exact WPe_ireturn (pc := 42) (dd dtX6_sheetWrong 24 rfl) rfl rfl ⟨(Nat.le_of_ble_eq_true rfl), (Nat.le_of_ble_eq_true rfl)⟩
      · refine WPe_bipush (pc := 36) (-2 : Int32) (dd dtX6_sheetWrong 21 rfl) (by decide) ?_
        refine WPe_goto (pc := 38) 42 (dd dtX6_sheetWrong 22 rfl) (by decide) ?_
        exact WPe_ireturn (pc := 42) (dd dtX6_sheetWrong 24 rfl) rfl rfl ⟨(Nat.le_of_ble_eq_true rfl), (Nat.le_of_ble_eq_true rfl)⟩
theorem okf6_sheetWrong (x0 : Nat) (x1 : Int32) (w : Wd) : ∀ z, f6_sheetWrong x0 x1 w = some z → OkM mX6_sheetWrong 2 0 0 [vR x0, vI x1] w (rtI z.1) z.2 :=
  OkM.of (rt := rtI) moX6_sheetWrong (Nat.le_of_ble_eq_true rfl) (fun X => wpf6_sheetWrong X w x0 x1 w)
def tbX6_toldWrong : List (Nat × Instr × Nat) := [(0, .aload_n 0, 1), (1, .iload_n 1, 1), (2, .invokevirtual 224, 3), (5, .istore_n 3, 1), (6, .iload_n 3, 1), (7, .ifCond .eq 7, 3), (10, .iload_n 3, 1), (11, .goto 17, 3), (14, .aload_n 0, 1), (15, .iload_n 2, 1), (16, .invokevirtual 164, 3), (19, .ifCond .eq 7, 3), (22, .iconst 0, 1), (23, .goto 5, 3), (26, .bipush (-5), 2), (28, .ireturn, 1)]
set_option maxRecDepth 20000 in
theorem dtX6_toldWrong : ∀ x ∈ tbX6_toldWrong, decode cX6_toldWrong x.1 = .ok x.2 := by decide +kernel
noncomputable def f6_toldWrong (x0 : Nat) (x1 : Int32) (x2 : Int32) (w : Wd) : Option (Int32 × Wd) :=
  ck (tg w x0 = 6) ((f6_sheetWrong x0 x1 w).bind fun z2 => (if z2.1 = (0 : Int32) then ((f6_isOne x0 x2 z2.2).bind fun z6 => (if z6.1 = (0 : Int32) then (some ((-5 : Int32), z6.2)) else (some ((0 : Int32), z6.2)))) else (some (z2.1, z2.2))))
theorem wpf6_toldWrong (X : CX) (w0 : Wd) (x0 : Nat) (x1 : Int32) (x2 : Int32) (w : Wd) : WPe rtI X (mX6_toldWrong, 3, 0, 0, w0) 0 0 (f6_toldWrong x0 x1 x2 w) 0 [(0, vR x0), (1, vI x1), (2, vI x2)] [] w := by
  unfold f6_toldWrong
  refine WPe_aload_n (pc := 0) 0 (dd dtX6_toldWrong 0 rfl) rfl ?_
  refine WPe_iload_n (pc := 1) 1 (dd dtX6_toldWrong 1 rfl) rfl ?_
  refine WPe_ck fun h1 => ?_
  refine WPe_callV (pc := 2) (rtc := rtI) (Mc := mX6_sheetWrong) (d' := 2) (mc' := 0) (ms' := 0) [vI x1] [] rfl (dd dtX6_toldWrong 2 rfl) (okf6_sheetWrong x0 x1 w) moX6_sheetWrong miX6_sheetWrong (bw_mem5 108 rfl rfl) (Or.inl ⟨_, _, _, _, (shE h1), rfl⟩) rfl (Nat.le_of_ble_eq_true rfl) ⟨(Nat.le_of_ble_eq_true rfl), (Nat.le_of_ble_eq_true rfl)⟩ ⟨(Nat.le_of_ble_eq_true rfl), (Nat.le_of_ble_eq_true rfl)⟩ (fun z2 h3 e4 => ?_)
  refine WPe_st (st2 := [vI z2.1]) rfl ?_
  refine WPe_istore_n (pc := 5) (ls' := [(3, vI z2.1), (0, vR x0), (1, vI x1), (2, vI x2)]) (dd dtX6_toldWrong 3 rfl) (Nat.le_of_ble_eq_true rfl) rfl ?_
  refine WPe_iload_n (pc := 6) 0 (dd dtX6_toldWrong 4 rfl) rfl ?_
  refine WPe_if_eq (pc := 7) 14 (dd dtX6_toldWrong 5 rfl) (by decide) (fun h5 => ?_) (fun h5 => ?_)
  · refine WPe_aload_n (pc := 14) 1 (dd dtX6_toldWrong 8 rfl) rfl ?_
    refine WPe_iload_n (pc := 15) 3 (dd dtX6_toldWrong 9 rfl) rfl ?_
    refine WPe_callV (pc := 16) (rtc := rtI) (Mc := mX6_isOne) (d' := 2) (mc' := 0) (ms' := 0) [vI x2] [] rfl (dd dtX6_toldWrong 10 rfl) (okf6_isOne x0 x2 z2.2) moX6_isOne miX6_isOne (bw_mem4 190 rfl rfl) (Or.inl ⟨_, _, _, _, (e4.at (shE h1) (by decide)), rfl⟩) rfl (Nat.le_of_ble_eq_true rfl) ⟨(Nat.le_of_ble_eq_true rfl), (Nat.le_of_ble_eq_true rfl)⟩ ⟨(Nat.le_of_ble_eq_true rfl), (Nat.le_of_ble_eq_true rfl)⟩ (fun z6 h7 e8 => ?_)
    refine WPe_st (st2 := [vI z6.1]) rfl ?_
    refine WPe_if_eq (pc := 19) 26 (dd dtX6_toldWrong 11 rfl) (by decide) (fun h9 => ?_) (fun h9 => ?_)
    · refine WPe_bipush (pc := 26) (-5 : Int32) (dd dtX6_toldWrong 14 rfl) (by decide) ?_
      exact WPe_ireturn (pc := 28) (dd dtX6_toldWrong 15 rfl) rfl rfl ⟨(Nat.le_of_ble_eq_true rfl), (Nat.le_of_ble_eq_true rfl)⟩
    · refine WPe_iconst (pc := 22) (0 : Int32) (dd dtX6_toldWrong 12 rfl) (by decide) ?_
      refine WPe_goto (pc := 23) 28 (dd dtX6_toldWrong 13 rfl) (by decide) ?_
      exact WPe_ireturn (pc := 28) (dd dtX6_toldWrong 15 rfl) rfl rfl ⟨(Nat.le_of_ble_eq_true rfl), (Nat.le_of_ble_eq_true rfl)⟩
  · refine WPe_iload_n (pc := 10) 0 (dd dtX6_toldWrong 6 rfl) rfl ?_
    refine WPe_goto (pc := 11) 28 (dd dtX6_toldWrong 7 rfl) (by decide) ?_
    exact WPe_ireturn (pc := 28) (dd dtX6_toldWrong 15 rfl) rfl rfl ⟨(Nat.le_of_ble_eq_true rfl), (Nat.le_of_ble_eq_true rfl)⟩
theorem okf6_toldWrong (x0 : Nat) (x1 : Int32) (x2 : Int32) (w : Wd) : ∀ z, f6_toldWrong x0 x1 x2 w = some z → OkM mX6_toldWrong 3 0 0 [vR x0, vI x1, vI x2] w (rtI z.1) z.2 :=
  OkM.of (rt := rtI) moX6_toldWrong (Nat.le_of_ble_eq_true rfl) (fun X => wpf6_toldWrong X w x0 x1 x2 w)
def tbX6_unlike : List (Nat × Instr × Nat) := [(0, .iconst (-1), 1), (1, .istore_n 3, 1), (2, .aload_n 0, 1), (3, .invokevirtual 197, 3), (6, .iconst 0, 1), (7, .istore 4, 2), (9, .iload 4, 2), (11, .aload_n 0, 1), (12, .getfield 40, 3), (15, .iload_n 1, 1), (16, .iaload, 1), (17, .if_icmp .ge 51, 3), (20, .iload_n 3, 1), (21, .iconst (-1), 1), (22, .if_icmp .ne 46, 3), (25, .aload_n 0, 1), (26, .invokevirtual 191, 3), (29, .pop, 1), (30, .aload_n 0, 1), (31, .getfield 43, 3), (34, .bipush 40, 2), (36, .iload_n 1, 1), (37, .imul, 1), (38, .iload 4, 2), (40, .iadd, 1), (41, .iaload, 1), (42, .aload_n 0, 1), (43, .getfield 16, 3), (46, .iconst 3, 1), (47, .iload_n 2, 1), (48, .imul, 1), (49, .iconst 1, 1), (50, .iadd, 1), (51, .iaload, 1), (52, .if_icmp .ne 7, 3), (55, .iconst (-1), 1), (56, .goto 5, 3), (59, .iload 4, 2), (61, .istore_n 3, 1), (62, .iinc 4 1, 3), (65, .goto (-56), 3), (68, .aload_n 0, 1), (69, .invokevirtual 206, 3), (72, .iload_n 3, 1), (73, .ireturn, 1)]
set_option maxRecDepth 20000 in
theorem dtX6_unlike : ∀ x ∈ tbX6_unlike, decode cX6_unlike x.1 = .ok x.2 := by decide +kernel
noncomputable def j6_unlike_68  (x0 : Nat) (x3 : Int32) (w : Wd) : Option (Int32 × Wd) :=
  ck (tg w x0 = 6) ((f6_lays x0 w).bind fun z9 => (some (x3, z9.2)))
theorem wpj6_unlike_68 (X : CX) (w0 : Wd)  (x0 : Nat) (x3 : Int32) (w : Wd) : WPe rtI X (mX6_unlike, 7, 0, 0, w0) 0 0 (j6_unlike_68  x0 x3 w) 68 [(0, vR x0), (3, vI x3)] [] w := by
  unfold j6_unlike_68
  refine WPe_aload_n (pc := 68) 0 (dd dtX6_unlike 41 rfl) rfl ?_
  refine WPe_ck fun h8 => ?_
  refine WPe_callV (pc := 69) (rtc := rtV) (Mc := mX6_lays) (d' := 1) (mc' := 0) (ms' := 0) [] [] rfl (dd dtX6_unlike 42 rfl) (okf6_lays x0 w) moX6_lays miX6_lays (bw_mem5 48 rfl rfl) (Or.inl ⟨_, _, _, _, (shE h8), rfl⟩) rfl (Nat.le_of_ble_eq_true rfl) ⟨(Nat.le_of_ble_eq_true rfl), (Nat.le_of_ble_eq_true rfl)⟩ ⟨(Nat.le_of_ble_eq_true rfl), (Nat.le_of_ble_eq_true rfl)⟩ (fun z9 h10 e11 => ?_)
  refine WPe_st (st2 := []) rfl ?_
  refine WPe_iload_n (pc := 72) 1 (dd dtX6_unlike 43 rfl) rfl ?_
  exact WPe_ireturn (pc := 73) (dd dtX6_unlike 44 rfl) rfl rfl ⟨(Nat.le_of_ble_eq_true rfl), (Nat.le_of_ble_eq_true rfl)⟩
noncomputable def j6_unlike_61 (k9 : Nat × Int32 × Int32 × Int32 × Int32 → Wd → Option (Int32 × Wd)) (x0 : Nat) (x1 : Int32) (x2 : Int32) (x4 : Int32) (s0 : Int32) (w : Wd) : Option (Int32 × Wd) :=
  k9 (x0, x1, x2, s0, (x4 + (1 : Int32))) w
theorem wpj6_unlike_61 (X : CX) (w0 : Wd) (k9 : Nat × Int32 × Int32 × Int32 × Int32 → Wd → Option (Int32 × Wd)) (hk9 : ∀ (v : Nat × Int32 × Int32 × Int32 × Int32) (w : Wd), WPe rtI X (mX6_unlike, 7, 0, 0, w0) 0 0 (k9 v w) 9 [(0, vR v.1), (1, vI v.2.1), (2, vI v.2.2.1), (3, vI v.2.2.2.1), (4, vI v.2.2.2.2)] [] w) (x0 : Nat) (x1 : Int32) (x2 : Int32) (x4 : Int32) (s0 : Int32) (w : Wd) : WPe rtI X (mX6_unlike, 7, 0, 0, w0) 0 0 (j6_unlike_61 k9 x0 x1 x2 x4 s0 w) 61 [(0, vR x0), (1, vI x1), (2, vI x2), (4, vI x4)] [vI s0] w := by
  unfold j6_unlike_61
  refine WPe_istore_n (pc := 61) (ls' := [(3, vI s0), (0, vR x0), (1, vI x1), (2, vI x2), (4, vI x4)]) (dd dtX6_unlike 38 rfl) (Nat.le_of_ble_eq_true rfl) rfl ?_
  refine WPe_iinc (pc := 62) (ls' := [(4, vI (x4 + (1 : Int32))), (3, vI s0), (0, vR x0), (1, vI x1), (2, vI x2)]) 4 (x4 + (1 : Int32)) (dd dtX6_unlike 39 rfl) rfl (congrArg (HAdd.hAdd _) (by decide : Int32.ofInt (1) = (1 : Int32))) (Nat.le_of_ble_eq_true rfl) rfl ?_
  refine WPe_goto (pc := 65) 9 (dd dtX6_unlike 40 rfl) (by decide) ?_
  refine WPe_sub [2, 3, 4, 1, 0] rfl ?_
  exact hk9 (x0, x1, x2, s0, (x4 + (1 : Int32))) w
noncomputable def b6_unlike_9 (k9 : Nat × Int32 × Int32 × Int32 × Int32 → Wd → Option (Int32 × Wd)) (v : Nat × Int32 × Int32 × Int32 × Int32) (w : Wd) : Option (Int32 × Wd) :=
  ck (tg w v.1 = 6) (ck (tg w (wr w v.1 15) = 20 ∧ vp_in v.2.1 (ln w (wr w v.1 15))) (if (wi w (wr w v.1 15) (v.2.1).toNatClampNeg) ≤ v.2.2.2.2 then (j6_unlike_68 v.1 v.2.2.2.1 w) else (if v.2.2.2.1 = (-1 : Int32) then ((f6_minuteOf v.1 w).bind fun z13 => (ck (tg z13.2 (wr z13.2 v.1 16) = 20 ∧ vp_in (((40 : Int32) * v.2.1) + v.2.2.2.2) (ln z13.2 (wr z13.2 v.1 16))) (ck (tg z13.2 (wr z13.2 v.1 3) = 20 ∧ vp_in (((3 : Int32) * v.2.2.1) + (1 : Int32)) (ln z13.2 (wr z13.2 v.1 3))) (if (wi z13.2 (wr z13.2 v.1 16) ((((40 : Int32) * v.2.1) + v.2.2.2.2)).toNatClampNeg) = (wi z13.2 (wr z13.2 v.1 3) ((((3 : Int32) * v.2.2.1) + (1 : Int32))).toNatClampNeg) then (j6_unlike_61 k9 v.1 v.2.1 v.2.2.1 v.2.2.2.2 (-1 : Int32) z13.2) else (j6_unlike_61 k9 v.1 v.2.1 v.2.2.1 v.2.2.2.2 v.2.2.2.2 z13.2))))) else (j6_unlike_68 v.1 v.2.2.2.1 w))))
theorem wpb6_unlike_9 (X : CX) (w0 : Wd) (k9 : Nat × Int32 × Int32 × Int32 × Int32 → Wd → Option (Int32 × Wd)) (hk9 : ∀ (v : Nat × Int32 × Int32 × Int32 × Int32) (w : Wd), WPe rtI X (mX6_unlike, 7, 0, 0, w0) 0 0 (k9 v w) 9 [(0, vR v.1), (1, vI v.2.1), (2, vI v.2.2.1), (3, vI v.2.2.2.1), (4, vI v.2.2.2.2)] [] w) (v : Nat × Int32 × Int32 × Int32 × Int32) (w : Wd) : WPe rtI X (mX6_unlike, 7, 0, 0, w0) 0 0 (b6_unlike_9 k9 v w) 9 [(0, vR v.1), (1, vI v.2.1), (2, vI v.2.2.1), (3, vI v.2.2.2.1), (4, vI v.2.2.2.2)] [] w := by
  unfold b6_unlike_9
  refine WPe_iload (pc := 9) 4 (dd dtX6_unlike 6 rfl) rfl ?_
  refine WPe_aload_n (pc := 11) 0 (dd dtX6_unlike 7 rfl) rfl ?_
  refine WPe_ck fun h5 => ?_
  refine WPe_getR (pc := 12) (t := 6) (C := RX6) (T := TX6) 15 (dd dtX6_unlike 8 rfl) (shE h5) rfl (Nat.le_of_ble_eq_true rfl) rfl (bw_mem4 68 rfl rfl) ?_
  refine WPe_iload_n (pc := 15) 1 (dd dtX6_unlike 9 rfl) rfl ?_
  refine WPe_ck fun h6 => ?_
  refine WPe_iald (pc := 16) (dd dtX6_unlike 10 rfl) (shE h6.1) h6.2 ?_
  refine WPe_icmp_ge (pc := 17) 68 (dd dtX6_unlike 11 rfl) (by decide) (fun h7 => ?_) (fun h7 => ?_)
  · refine WPe_sub [0, 3] rfl ?_
    exact wpj6_unlike_68 X w0  v.1 v.2.2.2.1 w
  · refine WPe_iload_n (pc := 20) 3 (dd dtX6_unlike 12 rfl) rfl ?_
    refine WPe_iconst (pc := 21) (-1 : Int32) (dd dtX6_unlike 13 rfl) (by decide) ?_
    refine WPe_icmp_ne (pc := 22) 68 (dd dtX6_unlike 14 rfl) (by decide) (fun h12 => ?_) (fun h12 => ?_)
    · refine WPe_aload_n (pc := 25) 0 (dd dtX6_unlike 15 rfl) rfl ?_
      refine WPe_callV (pc := 26) (rtc := rtI) (Mc := mX6_minuteOf) (d' := 6) (mc' := 0) (ms' := 0) [] [] rfl (dd dtX6_unlike 16 rfl) (okf6_minuteOf v.1 w) moX6_minuteOf miX6_minuteOf (bw_mem5 20 rfl rfl) (Or.inl ⟨_, _, _, _, (shE h5), rfl⟩) rfl (Nat.le_of_ble_eq_true rfl) ⟨(Nat.le_of_ble_eq_true rfl), (Nat.le_of_ble_eq_true rfl)⟩ ⟨(Nat.le_of_ble_eq_true rfl), (Nat.le_of_ble_eq_true rfl)⟩ (fun z13 h14 e15 => ?_)
      refine WPe_st (st2 := [vI z13.1]) rfl ?_
      refine WPe_pop (pc := 29) (dd dtX6_unlike 17 rfl) rfl ?_
      refine WPe_aload_n (pc := 30) 0 (dd dtX6_unlike 18 rfl) rfl ?_
      refine WPe_getR (pc := 31) (t := 6) (C := RX6) (T := TX6) 16 (dd dtX6_unlike 19 rfl) (e15.at (shE h5) (by decide)) rfl (Nat.le_of_ble_eq_true rfl) rfl (bw_mem4 69 rfl rfl) ?_
      refine WPe_bipush (pc := 34) (40 : Int32) (dd dtX6_unlike 20 rfl) (by decide) ?_
      refine WPe_iload_n (pc := 36) 1 (dd dtX6_unlike 21 rfl) rfl ?_
      refine WPe_imul (pc := 37) (dd dtX6_unlike 22 rfl) ?_
      refine WPe_iload (pc := 38) 4 (dd dtX6_unlike 23 rfl) rfl ?_
      refine WPe_iadd (pc := 40) (dd dtX6_unlike 24 rfl) ?_
      refine WPe_ck fun h16 => ?_
      refine WPe_iald (pc := 41) (dd dtX6_unlike 25 rfl) (shE h16.1) h16.2 ?_
      refine WPe_aload_n (pc := 42) 0 (dd dtX6_unlike 26 rfl) rfl ?_
      refine WPe_getR (pc := 43) (t := 6) (C := RX6) (T := TX6) 3 (dd dtX6_unlike 27 rfl) (e15.at (shE h5) (by decide)) rfl (Nat.le_of_ble_eq_true rfl) rfl (bw_mem4 56 rfl rfl) ?_
      refine WPe_iconst (pc := 46) (3 : Int32) (dd dtX6_unlike 28 rfl) (by decide) ?_
      refine WPe_iload_n (pc := 47) 2 (dd dtX6_unlike 29 rfl) rfl ?_
      refine WPe_imul (pc := 48) (dd dtX6_unlike 30 rfl) ?_
      refine WPe_iconst (pc := 49) (1 : Int32) (dd dtX6_unlike 31 rfl) (by decide) ?_
      refine WPe_iadd (pc := 50) (dd dtX6_unlike 32 rfl) ?_
      refine WPe_ck fun h17 => ?_
      refine WPe_iald (pc := 51) (dd dtX6_unlike 33 rfl) (shE h17.1) h17.2 ?_
      refine WPe_icmp_ne (pc := 52) 59 (dd dtX6_unlike 34 rfl) (by decide) (fun h18 => ?_) (fun h18 => ?_)
      · refine WPe_iconst (pc := 55) (-1 : Int32) (dd dtX6_unlike 35 rfl) (by decide) ?_
        refine WPe_goto (pc := 56) 61 (dd dtX6_unlike 36 rfl) (by decide) ?_
        refine WPe_sub [0, 1, 2, 4] rfl ?_
        exact wpj6_unlike_61 X w0 k9 hk9 v.1 v.2.1 v.2.2.1 v.2.2.2.2 (-1 : Int32) z13.2
      · refine WPe_iload (pc := 59) 4 (dd dtX6_unlike 37 rfl) rfl ?_
        refine WPe_sub [0, 1, 2, 4] rfl ?_
        exact wpj6_unlike_61 X w0 k9 hk9 v.1 v.2.1 v.2.2.1 v.2.2.2.2 v.2.2.2.2 z13.2
    · refine WPe_sub [0, 3] rfl ?_
      exact wpj6_unlike_68 X w0  v.1 v.2.2.2.1 w
theorem wplb6_unlike_9 (X : CX) (w0 : Wd)  : ∀ (n9 : Nat) (v : Nat × Int32 × Int32 × Int32 × Int32) (w : Wd), WPe rtI X (mX6_unlike, 7, 0, 0, w0) 0 0 (loopF (b6_unlike_9 ) n9 v w) 9 [(0, vR v.1), (1, vI v.2.1), (2, vI v.2.2.1), (3, vI v.2.2.2.1), (4, vI v.2.2.2.2)] [] w :=
  WPe_loop (rt := rtI) (X := X) (M := (mX6_unlike, 7, 0, 0, w0)) (fun v : Nat × Int32 × Int32 × Int32 × Int32 => [(0, vR v.1), (1, vI v.2.1), (2, vI v.2.2.1), (3, vI v.2.2.2.1), (4, vI v.2.2.2.2)]) (fun k hk v w => wpb6_unlike_9 X w0  k hk v w)
noncomputable def f6_unlike (x0 : Nat) (x1 : Int32) (x2 : Int32) (w : Wd) : Option (Int32 × Wd) :=
  ck (tg w x0 = 6) ((f6_keeps x0 w).bind fun z2 => (loopF (b6_unlike_9) FU (x0, x1, x2, (-1 : Int32), (0 : Int32)) z2.2))
theorem wpf6_unlike (X : CX) (w0 : Wd) (x0 : Nat) (x1 : Int32) (x2 : Int32) (w : Wd) : WPe rtI X (mX6_unlike, 7, 0, 0, w0) 0 0 (f6_unlike x0 x1 x2 w) 0 [(0, vR x0), (1, vI x1), (2, vI x2)] [] w := by
  unfold f6_unlike
  refine WPe_iconst (pc := 0) (-1 : Int32) (dd dtX6_unlike 0 rfl) (by decide) ?_
  refine WPe_istore_n (pc := 1) (ls' := [(3, vI (-1 : Int32)), (0, vR x0), (1, vI x1), (2, vI x2)]) (dd dtX6_unlike 1 rfl) (Nat.le_of_ble_eq_true rfl) rfl ?_
  refine WPe_aload_n (pc := 2) 1 (dd dtX6_unlike 2 rfl) rfl ?_
  refine WPe_ck fun h1 => ?_
  refine WPe_callV (pc := 3) (rtc := rtV) (Mc := mX6_keeps) (d' := 1) (mc' := 0) (ms' := 0) [] [] rfl (dd dtX6_unlike 3 rfl) (okf6_keeps x0 w) moX6_keeps miX6_keeps (bw_mem5 32 rfl rfl) (Or.inl ⟨_, _, _, _, (shE h1), rfl⟩) rfl (Nat.le_of_ble_eq_true rfl) ⟨(Nat.le_of_ble_eq_true rfl), (Nat.le_of_ble_eq_true rfl)⟩ ⟨(Nat.le_of_ble_eq_true rfl), (Nat.le_of_ble_eq_true rfl)⟩ (fun z2 h3 e4 => ?_)
  refine WPe_st (st2 := []) rfl ?_
  refine WPe_iconst (pc := 6) (0 : Int32) (dd dtX6_unlike 4 rfl) (by decide) ?_
  refine WPe_istore (pc := 7) (ls' := [(4, vI (0 : Int32)), (3, vI (-1 : Int32)), (0, vR x0), (1, vI x1), (2, vI x2)]) (dd dtX6_unlike 5 rfl) (Nat.le_of_ble_eq_true rfl) rfl ?_
  refine WPe_sub [2, 3, 4, 1, 0] rfl ?_
  exact wplb6_unlike_9 X w0  FU _ _
theorem okf6_unlike (x0 : Nat) (x1 : Int32) (x2 : Int32) (w : Wd) : ∀ z, f6_unlike x0 x1 x2 w = some z → OkM mX6_unlike 7 0 0 [vR x0, vI x1, vI x2] w (rtI z.1) z.2 :=
  OkM.of (rt := rtI) moX6_unlike (Nat.le_of_ble_eq_true rfl) (fun X => wpf6_unlike X w x0 x1 x2 w)
def tbX6_judge : List (Nat × Instr × Nat) := [(0, .aload_n 0, 1), (1, .iload_n 1, 1), (2, .iload_n 2, 1), (3, .invokevirtual 227, 3), (6, .istore_n 3, 1), (7, .iload_n 3, 1), (8, .ifCond .ne 12, 3), (11, .aload_n 0, 1), (12, .iload_n 1, 1), (13, .iload_n 2, 1), (14, .invokevirtual 230, 3), (17, .goto 4, 3), (20, .iload_n 3, 1), (21, .ireturn, 1)]
set_option maxRecDepth 20000 in
theorem dtX6_judge : ∀ x ∈ tbX6_judge, decode cX6_judge x.1 = .ok x.2 := by decide +kernel
noncomputable def f6_judge (x0 : Nat) (x1 : Int32) (x2 : Int32) (w : Wd) : Option (Int32 × Wd) :=
  ck (tg w x0 = 6) ((f6_toldWrong x0 x1 x2 w).bind fun z2 => (if z2.1 = (0 : Int32) then ((f6_unlike x0 x1 x2 z2.2).bind fun z6 => (some (z6.1, z6.2))) else (some (z2.1, z2.2))))
theorem wpf6_judge (X : CX) (w0 : Wd) (x0 : Nat) (x1 : Int32) (x2 : Int32) (w : Wd) : WPe rtI X (mX6_judge, 8, 0, 0, w0) 0 0 (f6_judge x0 x1 x2 w) 0 [(0, vR x0), (1, vI x1), (2, vI x2)] [] w := by
  unfold f6_judge
  refine WPe_aload_n (pc := 0) 0 (dd dtX6_judge 0 rfl) rfl ?_
  refine WPe_iload_n (pc := 1) 1 (dd dtX6_judge 1 rfl) rfl ?_
  refine WPe_iload_n (pc := 2) 2 (dd dtX6_judge 2 rfl) rfl ?_
  refine WPe_ck fun h1 => ?_
  refine WPe_callV (pc := 3) (rtc := rtI) (Mc := mX6_toldWrong) (d' := 3) (mc' := 0) (ms' := 0) [vI x1, vI x2] [] rfl (dd dtX6_judge 3 rfl) (okf6_toldWrong x0 x1 x2 w) moX6_toldWrong miX6_toldWrong (bw_mem5 104 rfl rfl) (Or.inl ⟨_, _, _, _, (shE h1), rfl⟩) rfl (Nat.le_of_ble_eq_true rfl) ⟨(Nat.le_of_ble_eq_true rfl), (Nat.le_of_ble_eq_true rfl)⟩ ⟨(Nat.le_of_ble_eq_true rfl), (Nat.le_of_ble_eq_true rfl)⟩ (fun z2 h3 e4 => ?_)
  refine WPe_st (st2 := [vI z2.1]) rfl ?_
  refine WPe_istore_n (pc := 6) (ls' := [(3, vI z2.1), (0, vR x0), (1, vI x1), (2, vI x2)]) (dd dtX6_judge 4 rfl) (Nat.le_of_ble_eq_true rfl) rfl ?_
  refine WPe_iload_n (pc := 7) 0 (dd dtX6_judge 5 rfl) rfl ?_
  refine WPe_if_ne (pc := 8) 20 (dd dtX6_judge 6 rfl) (by decide) (fun h5 => ?_) (fun h5 => ?_)
  · refine WPe_aload_n (pc := 11) 1 (dd dtX6_judge 7 rfl) rfl ?_
    refine WPe_iload_n (pc := 12) 2 (dd dtX6_judge 8 rfl) rfl ?_
    refine WPe_iload_n (pc := 13) 3 (dd dtX6_judge 9 rfl) rfl ?_
    refine WPe_callV (pc := 14) (rtc := rtI) (Mc := mX6_unlike) (d' := 7) (mc' := 0) (ms' := 0) [vI x1, vI x2] [] rfl (dd dtX6_judge 10 rfl) (okf6_unlike x0 x1 x2 z2.2) moX6_unlike miX6_unlike (bw_mem5 112 rfl rfl) (Or.inl ⟨_, _, _, _, (e4.at (shE h1) (by decide)), rfl⟩) rfl (Nat.le_of_ble_eq_true rfl) ⟨(Nat.le_of_ble_eq_true rfl), (Nat.le_of_ble_eq_true rfl)⟩ ⟨(Nat.le_of_ble_eq_true rfl), (Nat.le_of_ble_eq_true rfl)⟩ (fun z6 h7 e8 => ?_)
    refine WPe_st (st2 := [vI z6.1]) rfl ?_
    refine WPe_goto (pc := 17) 21 (dd dtX6_judge 11 rfl) (by decide) ?_
    exact WPe_ireturn (pc := 21) (dd dtX6_judge 13 rfl) rfl rfl ⟨(Nat.le_of_ble_eq_true rfl), (Nat.le_of_ble_eq_true rfl)⟩
  · refine WPe_iload_n (pc := 20) 0 (dd dtX6_judge 12 rfl) rfl ?_
    exact WPe_ireturn (pc := 21) (dd dtX6_judge 13 rfl) rfl rfl ⟨(Nat.le_of_ble_eq_true rfl), (Nat.le_of_ble_eq_true rfl)⟩
theorem okf6_judge (x0 : Nat) (x1 : Int32) (x2 : Int32) (w : Wd) : ∀ z, f6_judge x0 x1 x2 w = some z → OkM mX6_judge 8 0 0 [vR x0, vI x1, vI x2] w (rtI z.1) z.2 :=
  OkM.of (rt := rtI) moX6_judge (Nat.le_of_ble_eq_true rfl) (fun X => wpf6_judge X w x0 x1 x2 w)
def tbX6_kinds : List (Nat × Instr × Nat) := [(0, .aload_n 0, 1), (1, .iload_n 1, 1), (2, .iload_n 2, 1), (3, .invokevirtual 227, 3), (6, .istore 4, 2), (8, .iload 4, 2), (10, .ifCond .eq 6, 3), (13, .iload 4, 2), (15, .ireturn, 1), (16, .iload_n 3, 1), (17, .iconst 0, 1), (18, .iconst 1, 1), (19, .invokestatic 75, 3), (22, .ifCond .ne 6, 3), (25, .bipush (-7), 2), (27, .ireturn, 1), (28, .aload_n 0, 1), (29, .getfield 7, 3), (32, .iload_n 2, 1), (33, .iaload, 1), (34, .istore 5, 2), (36, .aload_n 0, 1), (37, .getfield 13, 3), (40, .iload_n 2, 1), (41, .iaload, 1), (42, .istore 6, 2), (44, .iconst 0, 1), (45, .istore 7, 2), (47, .iconst 0, 1), (48, .istore 8, 2), (50, .iload 8, 2), (52, .iload_n 3, 1), (53, .ifCond .ne 8, 3), (56, .bipush 6, 2), (58, .goto 5, 3), (61, .bipush 10, 2), (63, .if_icmp .ge 67, 3), (66, .aload_n 0, 1), (67, .getfield 7, 3), (70, .iload_n 2, 1), (71, .iload_n 3, 1), (72, .ifCond .ne 8, 3), (75, .iload 8, 2), (77, .goto 5, 3), (80, .iload 5, 2), (82, .iastore, 1), (83, .aload_n 0, 1), (84, .getfield 13, 3), (87, .iload_n 2, 1), (88, .iload_n 3, 1), (89, .iconst 1, 1), (90, .if_icmp .ne 8, 3), (93, .iload 8, 2), (95, .goto 5, 3), (98, .iload 6, 2), (100, .iastore, 1), (101, .iload 7, 2), (103, .aload_n 0, 1), (104, .iload_n 1, 1), (105, .iload_n 2, 1), (106, .invokevirtual 230, 3), (109, .iconst (-1), 1), (110, .if_icmp .ne 10, 3), (113, .iconst 1, 1), (114, .iload 8, 2), (116, .ishl, 1), (117, .goto 4, 3), (120, .iconst 0, 1), (121, .ior, 1), (122, .istore 7, 2), (124, .iinc 8 1, 3), (127, .goto (-77), 3), (130, .aload_n 0, 1), (131, .getfield 7, 3), (134, .iload_n 2, 1), (135, .iload 5, 2), (137, .iastore, 1), (138, .aload_n 0, 1), (139, .getfield 13, 3), (142, .iload_n 2, 1), (143, .iload 6, 2), (145, .iastore, 1), (146, .iload 7, 2), (148, .ireturn, 1)]
set_option maxRecDepth 20000 in
theorem dtX6_kinds : ∀ x ∈ tbX6_kinds, decode cX6_kinds x.1 = .ok x.2 := by decide +kernel
noncomputable def j6_kinds_121 (k50 : Nat × Int32 × Int32 × Int32 × Int32 × Int32 × Int32 × Int32 → Wd → Option (Int32 × Wd)) (x0 : Nat) (x1 : Int32) (x2 : Int32) (x3 : Int32) (x5 : Int32) (x6 : Int32) (x8 : Int32) (s0 : Int32) (s1 : Int32) (w : Wd) : Option (Int32 × Wd) :=
  k50 (x0, x1, x2, x3, x5, x6, (s1 ||| s0), (x8 + (1 : Int32))) w
theorem wpj6_kinds_121 (X : CX) (w0 : Wd) (k50 : Nat × Int32 × Int32 × Int32 × Int32 × Int32 × Int32 × Int32 → Wd → Option (Int32 × Wd)) (hk50 : ∀ (v : Nat × Int32 × Int32 × Int32 × Int32 × Int32 × Int32 × Int32) (w : Wd), WPe rtI X (mX6_kinds, 8, 0, 0, w0) 0 0 (k50 v w) 50 [(0, vR v.1), (1, vI v.2.1), (2, vI v.2.2.1), (3, vI v.2.2.2.1), (5, vI v.2.2.2.2.1), (6, vI v.2.2.2.2.2.1), (7, vI v.2.2.2.2.2.2.1), (8, vI v.2.2.2.2.2.2.2)] [] w) (x0 : Nat) (x1 : Int32) (x2 : Int32) (x3 : Int32) (x5 : Int32) (x6 : Int32) (x8 : Int32) (s0 : Int32) (s1 : Int32) (w : Wd) : WPe rtI X (mX6_kinds, 8, 0, 0, w0) 0 0 (j6_kinds_121 k50 x0 x1 x2 x3 x5 x6 x8 s0 s1 w) 121 [(0, vR x0), (1, vI x1), (2, vI x2), (3, vI x3), (5, vI x5), (6, vI x6), (8, vI x8)] [vI s0, vI s1] w := by
  unfold j6_kinds_121
  refine WPe_ior (pc := 121) (dd dtX6_kinds 68 rfl) ?_
  refine WPe_istore (pc := 122) (ls' := [(7, vI (s1 ||| s0)), (0, vR x0), (1, vI x1), (2, vI x2), (3, vI x3), (5, vI x5), (6, vI x6), (8, vI x8)]) (dd dtX6_kinds 69 rfl) (Nat.le_of_ble_eq_true rfl) rfl ?_
  refine WPe_iinc (pc := 124) (ls' := [(8, vI (x8 + (1 : Int32))), (7, vI (s1 ||| s0)), (0, vR x0), (1, vI x1), (2, vI x2), (3, vI x3), (5, vI x5), (6, vI x6)]) 7 (x8 + (1 : Int32)) (dd dtX6_kinds 70 rfl) rfl (congrArg (HAdd.hAdd _) (by decide : Int32.ofInt (1) = (1 : Int32))) (Nat.le_of_ble_eq_true rfl) rfl ?_
  refine WPe_goto (pc := 127) 50 (dd dtX6_kinds 71 rfl) (by decide) ?_
  refine WPe_sub [2, 3, 4, 5, 6, 7, 1, 0] rfl ?_
  exact hk50 (x0, x1, x2, x3, x5, x6, (s1 ||| s0), (x8 + (1 : Int32))) w
noncomputable def j6_kinds_100 (k50 : Nat × Int32 × Int32 × Int32 × Int32 × Int32 × Int32 × Int32 → Wd → Option (Int32 × Wd)) (x0 : Nat) (x1 : Int32) (x2 : Int32) (x3 : Int32) (x5 : Int32) (x6 : Int32) (x7 : Int32) (x8 : Int32) (s0 : Int32) (s1 : Int32) (s2 : Nat) (w : Wd) : Option (Int32 × Wd) :=
  ck (tg w s2 = 20 ∧ vp_in s1 (ln w s2)) (lw (sI w s2 (s1).toNatClampNeg s0) fun w29 => (ck (tg w29 x0 = 6) ((f6_unlike x0 x1 x2 w29).bind fun z32 => (if z32.1 = (-1 : Int32) then (j6_kinds_121 k50 x0 x1 x2 x3 x5 x6 x8 ((1 : Int32) <<< (x8 &&& 31)) x7 z32.2) else (j6_kinds_121 k50 x0 x1 x2 x3 x5 x6 x8 (0 : Int32) x7 z32.2)))))
theorem wpj6_kinds_100 (X : CX) (w0 : Wd) (k50 : Nat × Int32 × Int32 × Int32 × Int32 × Int32 × Int32 × Int32 → Wd → Option (Int32 × Wd)) (hk50 : ∀ (v : Nat × Int32 × Int32 × Int32 × Int32 × Int32 × Int32 × Int32) (w : Wd), WPe rtI X (mX6_kinds, 8, 0, 0, w0) 0 0 (k50 v w) 50 [(0, vR v.1), (1, vI v.2.1), (2, vI v.2.2.1), (3, vI v.2.2.2.1), (5, vI v.2.2.2.2.1), (6, vI v.2.2.2.2.2.1), (7, vI v.2.2.2.2.2.2.1), (8, vI v.2.2.2.2.2.2.2)] [] w) (x0 : Nat) (x1 : Int32) (x2 : Int32) (x3 : Int32) (x5 : Int32) (x6 : Int32) (x7 : Int32) (x8 : Int32) (s0 : Int32) (s1 : Int32) (s2 : Nat) (w : Wd) : WPe rtI X (mX6_kinds, 8, 0, 0, w0) 0 0 (j6_kinds_100 k50 x0 x1 x2 x3 x5 x6 x7 x8 s0 s1 s2 w) 100 [(0, vR x0), (1, vI x1), (2, vI x2), (3, vI x3), (5, vI x5), (6, vI x6), (7, vI x7), (8, vI x8)] [vI s0, vI s1, vR s2] w := by
  unfold j6_kinds_100
  refine WPe_ck fun h28 => ?_
  refine WPe_iast (pc := 100) (dd dtX6_kinds 55 rfl) (shE h28.1) h28.2 ?_
  refine WPe_lw fun w29 e30 => ?_
  refine WPe_iload (pc := 101) 6 (dd dtX6_kinds 56 rfl) rfl ?_
  refine WPe_aload_n (pc := 103) 0 (dd dtX6_kinds 57 rfl) rfl ?_
  refine WPe_iload_n (pc := 104) 1 (dd dtX6_kinds 58 rfl) rfl ?_
  refine WPe_iload_n (pc := 105) 2 (dd dtX6_kinds 59 rfl) rfl ?_
  refine WPe_ck fun h31 => ?_
  refine WPe_callV (pc := 106) (rtc := rtI) (Mc := mX6_unlike) (d' := 7) (mc' := 0) (ms' := 0) [vI x1, vI x2] [vI x7] rfl (dd dtX6_kinds 60 rfl) (okf6_unlike x0 x1 x2 w29) moX6_unlike miX6_unlike (bw_mem5 112 rfl rfl) (Or.inl ⟨_, _, _, _, (shE h31), rfl⟩) rfl (Nat.le_of_ble_eq_true rfl) ⟨(Nat.le_of_ble_eq_true rfl), (Nat.le_of_ble_eq_true rfl)⟩ ⟨(Nat.le_of_ble_eq_true rfl), (Nat.le_of_ble_eq_true rfl)⟩ (fun z32 h33 e34 => ?_)
  refine WPe_st (st2 := [vI z32.1, vI x7]) rfl ?_
  refine WPe_iconst (pc := 109) (-1 : Int32) (dd dtX6_kinds 61 rfl) (by decide) ?_
  refine WPe_icmp_ne (pc := 110) 120 (dd dtX6_kinds 62 rfl) (by decide) (fun h35 => ?_) (fun h35 => ?_)
  · refine WPe_iconst (pc := 113) (1 : Int32) (dd dtX6_kinds 63 rfl) (by decide) ?_
    refine WPe_iload (pc := 114) 7 (dd dtX6_kinds 64 rfl) rfl ?_
    refine WPe_ishl (pc := 116) (dd dtX6_kinds 65 rfl) ?_
    refine WPe_goto (pc := 117) 121 (dd dtX6_kinds 66 rfl) (by decide) ?_
    refine WPe_sub [0, 1, 2, 3, 4, 5, 7] rfl ?_
    exact wpj6_kinds_121 X w0 k50 hk50 x0 x1 x2 x3 x5 x6 x8 ((1 : Int32) <<< (x8 &&& 31)) x7 z32.2
  · refine WPe_iconst (pc := 120) (0 : Int32) (dd dtX6_kinds 67 rfl) (by decide) ?_
    refine WPe_sub [0, 1, 2, 3, 4, 5, 7] rfl ?_
    exact wpj6_kinds_121 X w0 k50 hk50 x0 x1 x2 x3 x5 x6 x8 (0 : Int32) x7 z32.2
noncomputable def j6_kinds_82 (k50 : Nat × Int32 × Int32 × Int32 × Int32 × Int32 × Int32 × Int32 → Wd → Option (Int32 × Wd)) (x0 : Nat) (x1 : Int32) (x2 : Int32) (x3 : Int32) (x5 : Int32) (x6 : Int32) (x7 : Int32) (x8 : Int32) (s0 : Int32) (s1 : Int32) (s2 : Nat) (w : Wd) : Option (Int32 × Wd) :=
  ck (tg w s2 = 20 ∧ vp_in s1 (ln w s2)) (lw (sI w s2 (s1).toNatClampNeg s0) fun w24 => (ck (tg w24 x0 = 6) (if x3 = (1 : Int32) then (j6_kinds_100 k50 x0 x1 x2 x3 x5 x6 x7 x8 x8 x2 (wr w24 x0 2) w24) else (j6_kinds_100 k50 x0 x1 x2 x3 x5 x6 x7 x8 x6 x2 (wr w24 x0 2) w24))))
theorem wpj6_kinds_82 (X : CX) (w0 : Wd) (k50 : Nat × Int32 × Int32 × Int32 × Int32 × Int32 × Int32 × Int32 → Wd → Option (Int32 × Wd)) (hk50 : ∀ (v : Nat × Int32 × Int32 × Int32 × Int32 × Int32 × Int32 × Int32) (w : Wd), WPe rtI X (mX6_kinds, 8, 0, 0, w0) 0 0 (k50 v w) 50 [(0, vR v.1), (1, vI v.2.1), (2, vI v.2.2.1), (3, vI v.2.2.2.1), (5, vI v.2.2.2.2.1), (6, vI v.2.2.2.2.2.1), (7, vI v.2.2.2.2.2.2.1), (8, vI v.2.2.2.2.2.2.2)] [] w) (x0 : Nat) (x1 : Int32) (x2 : Int32) (x3 : Int32) (x5 : Int32) (x6 : Int32) (x7 : Int32) (x8 : Int32) (s0 : Int32) (s1 : Int32) (s2 : Nat) (w : Wd) : WPe rtI X (mX6_kinds, 8, 0, 0, w0) 0 0 (j6_kinds_82 k50 x0 x1 x2 x3 x5 x6 x7 x8 s0 s1 s2 w) 82 [(0, vR x0), (1, vI x1), (2, vI x2), (3, vI x3), (5, vI x5), (6, vI x6), (7, vI x7), (8, vI x8)] [vI s0, vI s1, vR s2] w := by
  unfold j6_kinds_82
  refine WPe_ck fun h23 => ?_
  refine WPe_iast (pc := 82) (dd dtX6_kinds 45 rfl) (shE h23.1) h23.2 ?_
  refine WPe_lw fun w24 e25 => ?_
  refine WPe_aload_n (pc := 83) 0 (dd dtX6_kinds 46 rfl) rfl ?_
  refine WPe_ck fun h26 => ?_
  refine WPe_getR (pc := 84) (t := 6) (C := RX6) (T := TX6) 2 (dd dtX6_kinds 47 rfl) (shE h26) rfl (Nat.le_of_ble_eq_true rfl) rfl (bw_mem4 55 rfl rfl) ?_
  refine WPe_iload_n (pc := 87) 2 (dd dtX6_kinds 48 rfl) rfl ?_
  refine WPe_iload_n (pc := 88) 3 (dd dtX6_kinds 49 rfl) rfl ?_
  refine WPe_iconst (pc := 89) (1 : Int32) (dd dtX6_kinds 50 rfl) (by decide) ?_
  refine WPe_icmp_ne (pc := 90) 98 (dd dtX6_kinds 51 rfl) (by decide) (fun h27 => ?_) (fun h27 => ?_)
  · refine WPe_iload (pc := 93) 7 (dd dtX6_kinds 52 rfl) rfl ?_
    refine WPe_goto (pc := 95) 100 (dd dtX6_kinds 53 rfl) (by decide) ?_
    refine WPe_sub [0, 1, 2, 3, 4, 5, 6, 7] rfl ?_
    exact wpj6_kinds_100 X w0 k50 hk50 x0 x1 x2 x3 x5 x6 x7 x8 x8 x2 (wr w24 x0 2) w24
  · refine WPe_iload (pc := 98) 5 (dd dtX6_kinds 54 rfl) rfl ?_
    refine WPe_sub [0, 1, 2, 3, 4, 5, 6, 7] rfl ?_
    exact wpj6_kinds_100 X w0 k50 hk50 x0 x1 x2 x3 x5 x6 x7 x8 x6 x2 (wr w24 x0 2) w24
noncomputable def j6_kinds_63 (k50 : Nat × Int32 × Int32 × Int32 × Int32 × Int32 × Int32 × Int32 → Wd → Option (Int32 × Wd)) (x0 : Nat) (x1 : Int32) (x2 : Int32) (x3 : Int32) (x5 : Int32) (x6 : Int32) (x7 : Int32) (x8 : Int32) (s0 : Int32) (s1 : Int32) (w : Wd) : Option (Int32 × Wd) :=
  if s0 ≤ s1 then (ck (tg w x0 = 6) (ck (tg w (wr w x0 1) = 20 ∧ vp_in x2 (ln w (wr w x0 1))) (lw (sI w (wr w x0 1) (x2).toNatClampNeg x5) fun w16 => (ck (tg w16 (wr w16 x0 2) = 20 ∧ vp_in x2 (ln w16 (wr w16 x0 2))) (lw (sI w16 (wr w16 x0 2) (x2).toNatClampNeg x6) fun w19 => (some (x7, w19))))))) else (ck (tg w x0 = 6) (if x3 = (0 : Int32) then (j6_kinds_82 k50 x0 x1 x2 x3 x5 x6 x7 x8 x8 x2 (wr w x0 1) w) else (j6_kinds_82 k50 x0 x1 x2 x3 x5 x6 x7 x8 x5 x2 (wr w x0 1) w)))
theorem wpj6_kinds_63 (X : CX) (w0 : Wd) (k50 : Nat × Int32 × Int32 × Int32 × Int32 × Int32 × Int32 × Int32 → Wd → Option (Int32 × Wd)) (hk50 : ∀ (v : Nat × Int32 × Int32 × Int32 × Int32 × Int32 × Int32 × Int32) (w : Wd), WPe rtI X (mX6_kinds, 8, 0, 0, w0) 0 0 (k50 v w) 50 [(0, vR v.1), (1, vI v.2.1), (2, vI v.2.2.1), (3, vI v.2.2.2.1), (5, vI v.2.2.2.2.1), (6, vI v.2.2.2.2.2.1), (7, vI v.2.2.2.2.2.2.1), (8, vI v.2.2.2.2.2.2.2)] [] w) (x0 : Nat) (x1 : Int32) (x2 : Int32) (x3 : Int32) (x5 : Int32) (x6 : Int32) (x7 : Int32) (x8 : Int32) (s0 : Int32) (s1 : Int32) (w : Wd) : WPe rtI X (mX6_kinds, 8, 0, 0, w0) 0 0 (j6_kinds_63 k50 x0 x1 x2 x3 x5 x6 x7 x8 s0 s1 w) 63 [(0, vR x0), (1, vI x1), (2, vI x2), (3, vI x3), (5, vI x5), (6, vI x6), (7, vI x7), (8, vI x8)] [vI s0, vI s1] w := by
  unfold j6_kinds_63
  refine WPe_icmp_ge (pc := 63) 130 (dd dtX6_kinds 36 rfl) (by decide) (fun h13 => ?_) (fun h13 => ?_)
  · refine WPe_aload_n (pc := 130) 0 (dd dtX6_kinds 72 rfl) rfl ?_
    refine WPe_ck fun h14 => ?_
    refine WPe_getR (pc := 131) (t := 6) (C := RX6) (T := TX6) 1 (dd dtX6_kinds 73 rfl) (shE h14) rfl (Nat.le_of_ble_eq_true rfl) rfl (bw_mem4 54 rfl rfl) ?_
    refine WPe_iload_n (pc := 134) 2 (dd dtX6_kinds 74 rfl) rfl ?_
    refine WPe_iload (pc := 135) 4 (dd dtX6_kinds 75 rfl) rfl ?_
    refine WPe_ck fun h15 => ?_
    refine WPe_iast (pc := 137) (dd dtX6_kinds 76 rfl) (shE h15.1) h15.2 ?_
    refine WPe_lw fun w16 e17 => ?_
    refine WPe_aload_n (pc := 138) 0 (dd dtX6_kinds 77 rfl) rfl ?_
    refine WPe_getR (pc := 139) (t := 6) (C := RX6) (T := TX6) 2 (dd dtX6_kinds 78 rfl) (shI e17 (shE h14)) rfl (Nat.le_of_ble_eq_true rfl) rfl (bw_mem4 55 rfl rfl) ?_
    refine WPe_iload_n (pc := 142) 2 (dd dtX6_kinds 79 rfl) rfl ?_
    refine WPe_iload (pc := 143) 5 (dd dtX6_kinds 80 rfl) rfl ?_
    refine WPe_ck fun h18 => ?_
    refine WPe_iast (pc := 145) (dd dtX6_kinds 81 rfl) (shE h18.1) h18.2 ?_
    refine WPe_lw fun w19 e20 => ?_
    refine WPe_iload (pc := 146) 6 (dd dtX6_kinds 82 rfl) rfl ?_
    exact WPe_ireturn (pc := 148) (dd dtX6_kinds 83 rfl) rfl rfl ⟨(Nat.le_of_ble_eq_true rfl), (Nat.le_of_ble_eq_true rfl)⟩
  · refine WPe_aload_n (pc := 66) 0 (dd dtX6_kinds 37 rfl) rfl ?_
    refine WPe_ck fun h21 => ?_
    refine WPe_getR (pc := 67) (t := 6) (C := RX6) (T := TX6) 1 (dd dtX6_kinds 38 rfl) (shE h21) rfl (Nat.le_of_ble_eq_true rfl) rfl (bw_mem4 54 rfl rfl) ?_
    refine WPe_iload_n (pc := 70) 2 (dd dtX6_kinds 39 rfl) rfl ?_
    refine WPe_iload_n (pc := 71) 3 (dd dtX6_kinds 40 rfl) rfl ?_
    refine WPe_if_ne (pc := 72) 80 (dd dtX6_kinds 41 rfl) (by decide) (fun h22 => ?_) (fun h22 => ?_)
    · refine WPe_iload (pc := 75) 7 (dd dtX6_kinds 42 rfl) rfl ?_
      refine WPe_goto (pc := 77) 82 (dd dtX6_kinds 43 rfl) (by decide) ?_
      refine WPe_sub [0, 1, 2, 3, 4, 5, 6, 7] rfl ?_
      exact wpj6_kinds_82 X w0 k50 hk50 x0 x1 x2 x3 x5 x6 x7 x8 x8 x2 (wr w x0 1) w
    · refine WPe_iload (pc := 80) 4 (dd dtX6_kinds 44 rfl) rfl ?_
      refine WPe_sub [0, 1, 2, 3, 4, 5, 6, 7] rfl ?_
      exact wpj6_kinds_82 X w0 k50 hk50 x0 x1 x2 x3 x5 x6 x7 x8 x5 x2 (wr w x0 1) w
noncomputable def b6_kinds_50 (k50 : Nat × Int32 × Int32 × Int32 × Int32 × Int32 × Int32 × Int32 → Wd → Option (Int32 × Wd)) (v : Nat × Int32 × Int32 × Int32 × Int32 × Int32 × Int32 × Int32) (w : Wd) : Option (Int32 × Wd) :=
  if v.2.2.2.1 = (0 : Int32) then (j6_kinds_63 k50 v.1 v.2.1 v.2.2.1 v.2.2.2.1 v.2.2.2.2.1 v.2.2.2.2.2.1 v.2.2.2.2.2.2.1 v.2.2.2.2.2.2.2 (6 : Int32) v.2.2.2.2.2.2.2 w) else (j6_kinds_63 k50 v.1 v.2.1 v.2.2.1 v.2.2.2.1 v.2.2.2.2.1 v.2.2.2.2.2.1 v.2.2.2.2.2.2.1 v.2.2.2.2.2.2.2 (10 : Int32) v.2.2.2.2.2.2.2 w)
theorem wpb6_kinds_50 (X : CX) (w0 : Wd) (k50 : Nat × Int32 × Int32 × Int32 × Int32 × Int32 × Int32 × Int32 → Wd → Option (Int32 × Wd)) (hk50 : ∀ (v : Nat × Int32 × Int32 × Int32 × Int32 × Int32 × Int32 × Int32) (w : Wd), WPe rtI X (mX6_kinds, 8, 0, 0, w0) 0 0 (k50 v w) 50 [(0, vR v.1), (1, vI v.2.1), (2, vI v.2.2.1), (3, vI v.2.2.2.1), (5, vI v.2.2.2.2.1), (6, vI v.2.2.2.2.2.1), (7, vI v.2.2.2.2.2.2.1), (8, vI v.2.2.2.2.2.2.2)] [] w) (v : Nat × Int32 × Int32 × Int32 × Int32 × Int32 × Int32 × Int32) (w : Wd) : WPe rtI X (mX6_kinds, 8, 0, 0, w0) 0 0 (b6_kinds_50 k50 v w) 50 [(0, vR v.1), (1, vI v.2.1), (2, vI v.2.2.1), (3, vI v.2.2.2.1), (5, vI v.2.2.2.2.1), (6, vI v.2.2.2.2.2.1), (7, vI v.2.2.2.2.2.2.1), (8, vI v.2.2.2.2.2.2.2)] [] w := by
  unfold b6_kinds_50
  refine WPe_iload (pc := 50) 7 (dd dtX6_kinds 30 rfl) rfl ?_
  refine WPe_iload_n (pc := 52) 3 (dd dtX6_kinds 31 rfl) rfl ?_
  refine WPe_if_ne (pc := 53) 61 (dd dtX6_kinds 32 rfl) (by decide) (fun h12 => ?_) (fun h12 => ?_)
  · refine WPe_bipush (pc := 56) (6 : Int32) (dd dtX6_kinds 33 rfl) (by decide) ?_
    refine WPe_goto (pc := 58) 63 (dd dtX6_kinds 34 rfl) (by decide) ?_
    refine WPe_sub [0, 1, 2, 3, 4, 5, 6, 7] rfl ?_
    exact wpj6_kinds_63 X w0 k50 hk50 v.1 v.2.1 v.2.2.1 v.2.2.2.1 v.2.2.2.2.1 v.2.2.2.2.2.1 v.2.2.2.2.2.2.1 v.2.2.2.2.2.2.2 (6 : Int32) v.2.2.2.2.2.2.2 w
  · refine WPe_bipush (pc := 61) (10 : Int32) (dd dtX6_kinds 35 rfl) (by decide) ?_
    refine WPe_sub [0, 1, 2, 3, 4, 5, 6, 7] rfl ?_
    exact wpj6_kinds_63 X w0 k50 hk50 v.1 v.2.1 v.2.2.1 v.2.2.2.1 v.2.2.2.2.1 v.2.2.2.2.2.1 v.2.2.2.2.2.2.1 v.2.2.2.2.2.2.2 (10 : Int32) v.2.2.2.2.2.2.2 w
theorem wplb6_kinds_50 (X : CX) (w0 : Wd)  : ∀ (n9 : Nat) (v : Nat × Int32 × Int32 × Int32 × Int32 × Int32 × Int32 × Int32) (w : Wd), WPe rtI X (mX6_kinds, 8, 0, 0, w0) 0 0 (loopF (b6_kinds_50 ) n9 v w) 50 [(0, vR v.1), (1, vI v.2.1), (2, vI v.2.2.1), (3, vI v.2.2.2.1), (5, vI v.2.2.2.2.1), (6, vI v.2.2.2.2.2.1), (7, vI v.2.2.2.2.2.2.1), (8, vI v.2.2.2.2.2.2.2)] [] w :=
  WPe_loop (rt := rtI) (X := X) (M := (mX6_kinds, 8, 0, 0, w0)) (fun v : Nat × Int32 × Int32 × Int32 × Int32 × Int32 × Int32 × Int32 => [(0, vR v.1), (1, vI v.2.1), (2, vI v.2.2.1), (3, vI v.2.2.2.1), (5, vI v.2.2.2.2.1), (6, vI v.2.2.2.2.2.1), (7, vI v.2.2.2.2.2.2.1), (8, vI v.2.2.2.2.2.2.2)]) (fun k hk v w => wpb6_kinds_50 X w0  k hk v w)
noncomputable def f6_kinds (x0 : Nat) (x1 : Int32) (x2 : Int32) (x3 : Int32) (w : Wd) : Option (Int32 × Wd) :=
  ck (tg w x0 = 6) ((f6_toldWrong x0 x1 x2 w).bind fun z2 => (if z2.1 = (0 : Int32) then ((f6_in x3 (0 : Int32) (1 : Int32) z2.2).bind fun z6 => (if z6.1 = (0 : Int32) then (some ((-7 : Int32), z6.2)) else (ck (tg z6.2 (wr z6.2 x0 1) = 20 ∧ vp_in x2 (ln z6.2 (wr z6.2 x0 1))) (ck (tg z6.2 (wr z6.2 x0 2) = 20 ∧ vp_in x2 (ln z6.2 (wr z6.2 x0 2))) (loopF (b6_kinds_50) FU (x0, x1, x2, x3, (wi z6.2 (wr z6.2 x0 1) (x2).toNatClampNeg), (wi z6.2 (wr z6.2 x0 2) (x2).toNatClampNeg), (0 : Int32), (0 : Int32)) z6.2))))) else (some (z2.1, z2.2))))
theorem wpf6_kinds (X : CX) (w0 : Wd) (x0 : Nat) (x1 : Int32) (x2 : Int32) (x3 : Int32) (w : Wd) : WPe rtI X (mX6_kinds, 8, 0, 0, w0) 0 0 (f6_kinds x0 x1 x2 x3 w) 0 [(0, vR x0), (1, vI x1), (2, vI x2), (3, vI x3)] [] w := by
  unfold f6_kinds
  refine WPe_aload_n (pc := 0) 0 (dd dtX6_kinds 0 rfl) rfl ?_
  refine WPe_iload_n (pc := 1) 1 (dd dtX6_kinds 1 rfl) rfl ?_
  refine WPe_iload_n (pc := 2) 2 (dd dtX6_kinds 2 rfl) rfl ?_
  refine WPe_ck fun h1 => ?_
  refine WPe_callV (pc := 3) (rtc := rtI) (Mc := mX6_toldWrong) (d' := 3) (mc' := 0) (ms' := 0) [vI x1, vI x2] [] rfl (dd dtX6_kinds 3 rfl) (okf6_toldWrong x0 x1 x2 w) moX6_toldWrong miX6_toldWrong (bw_mem5 104 rfl rfl) (Or.inl ⟨_, _, _, _, (shE h1), rfl⟩) rfl (Nat.le_of_ble_eq_true rfl) ⟨(Nat.le_of_ble_eq_true rfl), (Nat.le_of_ble_eq_true rfl)⟩ ⟨(Nat.le_of_ble_eq_true rfl), (Nat.le_of_ble_eq_true rfl)⟩ (fun z2 h3 e4 => ?_)
  refine WPe_st (st2 := [vI z2.1]) rfl ?_
  refine WPe_istore (pc := 6) (ls' := [(4, vI z2.1), (0, vR x0), (1, vI x1), (2, vI x2), (3, vI x3)]) (dd dtX6_kinds 4 rfl) (Nat.le_of_ble_eq_true rfl) rfl ?_
  refine WPe_iload (pc := 8) 0 (dd dtX6_kinds 5 rfl) rfl ?_
  refine WPe_if_eq (pc := 10) 16 (dd dtX6_kinds 6 rfl) (by decide) (fun h5 => ?_) (fun h5 => ?_)
  · refine WPe_iload_n (pc := 16) 4 (dd dtX6_kinds 9 rfl) rfl ?_
    refine WPe_iconst (pc := 17) (0 : Int32) (dd dtX6_kinds 10 rfl) (by decide) ?_
    refine WPe_iconst (pc := 18) (1 : Int32) (dd dtX6_kinds 11 rfl) (by decide) ?_
    refine WPe_callS (pc := 19) (rtc := rtI) (Mc := mX6_in) (d' := 1) (mc' := 0) (ms' := 0) [vI x3, vI (0 : Int32), vI (1 : Int32)] [] rfl (dd dtX6_kinds 12 rfl) (okf6_in x3 (0 : Int32) (1 : Int32) z2.2) moX6_in msX6_in (bw_mem4 14 rfl rfl) rfl (Nat.le_of_ble_eq_true rfl) ⟨(Nat.le_of_ble_eq_true rfl), (Nat.le_of_ble_eq_true rfl)⟩ ⟨(Nat.le_of_ble_eq_true rfl), (Nat.le_of_ble_eq_true rfl)⟩ (fun z6 h7 e8 => ?_)
    refine WPe_st (st2 := [vI z6.1]) rfl ?_
    refine WPe_if_ne (pc := 22) 28 (dd dtX6_kinds 13 rfl) (by decide) (fun h9 => ?_) (fun h9 => ?_)
    · refine WPe_bipush (pc := 25) (-7 : Int32) (dd dtX6_kinds 14 rfl) (by decide) ?_
      exact WPe_ireturn (pc := 27) (dd dtX6_kinds 15 rfl) rfl rfl ⟨(Nat.le_of_ble_eq_true rfl), (Nat.le_of_ble_eq_true rfl)⟩
    · refine WPe_aload_n (pc := 28) 1 (dd dtX6_kinds 16 rfl) rfl ?_
      refine WPe_getR (pc := 29) (t := 6) (C := RX6) (T := TX6) 1 (dd dtX6_kinds 17 rfl) (e8.at (e4.at (shE h1) (by decide)) (by decide)) rfl (Nat.le_of_ble_eq_true rfl) rfl (bw_mem4 54 rfl rfl) ?_
      refine WPe_iload_n (pc := 32) 3 (dd dtX6_kinds 18 rfl) rfl ?_
      refine WPe_ck fun h10 => ?_
      refine WPe_iald (pc := 33) (dd dtX6_kinds 19 rfl) (shE h10.1) h10.2 ?_
      refine WPe_istore (pc := 34) (ls' := [(5, vI (wi z6.2 (wr z6.2 x0 1) (x2).toNatClampNeg)), (4, vI z2.1), (0, vR x0), (1, vI x1), (2, vI x2), (3, vI x3)]) (dd dtX6_kinds 20 rfl) (Nat.le_of_ble_eq_true rfl) rfl ?_
      refine WPe_aload_n (pc := 36) 2 (dd dtX6_kinds 21 rfl) rfl ?_
      refine WPe_getR (pc := 37) (t := 6) (C := RX6) (T := TX6) 2 (dd dtX6_kinds 22 rfl) (e8.at (e4.at (shE h1) (by decide)) (by decide)) rfl (Nat.le_of_ble_eq_true rfl) rfl (bw_mem4 55 rfl rfl) ?_
      refine WPe_iload_n (pc := 40) 4 (dd dtX6_kinds 23 rfl) rfl ?_
      refine WPe_ck fun h11 => ?_
      refine WPe_iald (pc := 41) (dd dtX6_kinds 24 rfl) (shE h11.1) h11.2 ?_
      refine WPe_istore (pc := 42) (ls' := [(6, vI (wi z6.2 (wr z6.2 x0 2) (x2).toNatClampNeg)), (5, vI (wi z6.2 (wr z6.2 x0 1) (x2).toNatClampNeg)), (4, vI z2.1), (0, vR x0), (1, vI x1), (2, vI x2), (3, vI x3)]) (dd dtX6_kinds 25 rfl) (Nat.le_of_ble_eq_true rfl) rfl ?_
      refine WPe_iconst (pc := 44) (0 : Int32) (dd dtX6_kinds 26 rfl) (by decide) ?_
      refine WPe_istore (pc := 45) (ls' := [(7, vI (0 : Int32)), (6, vI (wi z6.2 (wr z6.2 x0 2) (x2).toNatClampNeg)), (5, vI (wi z6.2 (wr z6.2 x0 1) (x2).toNatClampNeg)), (4, vI z2.1), (0, vR x0), (1, vI x1), (2, vI x2), (3, vI x3)]) (dd dtX6_kinds 27 rfl) (Nat.le_of_ble_eq_true rfl) rfl ?_
      refine WPe_iconst (pc := 47) (0 : Int32) (dd dtX6_kinds 28 rfl) (by decide) ?_
      refine WPe_istore (pc := 48) (ls' := [(8, vI (0 : Int32)), (7, vI (0 : Int32)), (6, vI (wi z6.2 (wr z6.2 x0 2) (x2).toNatClampNeg)), (5, vI (wi z6.2 (wr z6.2 x0 1) (x2).toNatClampNeg)), (4, vI z2.1), (0, vR x0), (1, vI x1), (2, vI x2), (3, vI x3)]) (dd dtX6_kinds 29 rfl) (Nat.le_of_ble_eq_true rfl) rfl ?_
      refine WPe_sub [5, 6, 7, 8, 3, 2, 1, 0] rfl ?_
      exact wplb6_kinds_50 X w0  FU _ _
  · refine WPe_iload (pc := 13) 0 (dd dtX6_kinds 7 rfl) rfl ?_
    exact WPe_ireturn (pc := 15) (dd dtX6_kinds 8 rfl) rfl rfl ⟨(Nat.le_of_ble_eq_true rfl), (Nat.le_of_ble_eq_true rfl)⟩
theorem okf6_kinds (x0 : Nat) (x1 : Int32) (x2 : Int32) (x3 : Int32) (w : Wd) : ∀ z, f6_kinds x0 x1 x2 x3 w = some z → OkM mX6_kinds 8 0 0 [vR x0, vI x1, vI x2, vI x3] w (rtI z.1) z.2 :=
  OkM.of (rt := rtI) moX6_kinds (Nat.le_of_ble_eq_true rfl) (fun X => wpf6_kinds X w x0 x1 x2 x3 w)
def tbX6_benchesBy : List (Nat × Instr × Nat) := [(0, .aload_n 0, 1), (1, .getfield 16, 3), (4, .iconst 3, 1), (5, .iload_n 2, 1), (6, .imul, 1), (7, .iaload, 1), (8, .istore_n 3, 1), (9, .iconst 0, 1), (10, .istore 4, 2), (12, .iconst 0, 1), (13, .istore 5, 2), (15, .iload 5, 2), (17, .iconst 3, 1), (18, .if_icmp .gt 42, 3), (21, .aload_n 0, 1), (22, .getfield 16, 3), (25, .iconst 3, 1), (26, .iload_n 2, 1), (27, .imul, 1), (28, .iload 5, 2), (30, .iastore, 1), (31, .iload 4, 2), (33, .aload_n 0, 1), (34, .iload_n 1, 1), (35, .iload_n 2, 1), (36, .invokevirtual 230, 3), (39, .iconst (-1), 1), (40, .if_icmp .ne 10, 3), (43, .iconst 1, 1), (44, .iload 5, 2), (46, .ishl, 1), (47, .goto 4, 3), (50, .iconst 0, 1), (51, .ior, 1), (52, .istore 4, 2), (54, .iinc 5 1, 3), (57, .goto (-42), 3), (60, .aload_n 0, 1), (61, .getfield 16, 3), (64, .iconst 3, 1), (65, .iload_n 2, 1), (66, .imul, 1), (67, .iload_n 3, 1), (68, .iastore, 1), (69, .iload 4, 2), (71, .ireturn, 1)]
set_option maxRecDepth 20000 in
theorem dtX6_benchesBy : ∀ x ∈ tbX6_benchesBy, decode cX6_benchesBy x.1 = .ok x.2 := by decide +kernel
noncomputable def j6_benchesBy_51 (k15 : Nat × Int32 × Int32 × Int32 × Int32 × Int32 → Wd → Option (Int32 × Wd)) (x0 : Nat) (x1 : Int32) (x2 : Int32) (x3 : Int32) (x5 : Int32) (s0 : Int32) (s1 : Int32) (w : Wd) : Option (Int32 × Wd) :=
  k15 (x0, x1, x2, x3, (s1 ||| s0), (x5 + (1 : Int32))) w
theorem wpj6_benchesBy_51 (X : CX) (w0 : Wd) (k15 : Nat × Int32 × Int32 × Int32 × Int32 × Int32 → Wd → Option (Int32 × Wd)) (hk15 : ∀ (v : Nat × Int32 × Int32 × Int32 × Int32 × Int32) (w : Wd), WPe rtI X (mX6_benchesBy, 8, 0, 0, w0) 0 0 (k15 v w) 15 [(0, vR v.1), (1, vI v.2.1), (2, vI v.2.2.1), (3, vI v.2.2.2.1), (4, vI v.2.2.2.2.1), (5, vI v.2.2.2.2.2)] [] w) (x0 : Nat) (x1 : Int32) (x2 : Int32) (x3 : Int32) (x5 : Int32) (s0 : Int32) (s1 : Int32) (w : Wd) : WPe rtI X (mX6_benchesBy, 8, 0, 0, w0) 0 0 (j6_benchesBy_51 k15 x0 x1 x2 x3 x5 s0 s1 w) 51 [(0, vR x0), (1, vI x1), (2, vI x2), (3, vI x3), (5, vI x5)] [vI s0, vI s1] w := by
  unfold j6_benchesBy_51
  refine WPe_ior (pc := 51) (dd dtX6_benchesBy 33 rfl) ?_
  refine WPe_istore (pc := 52) (ls' := [(4, vI (s1 ||| s0)), (0, vR x0), (1, vI x1), (2, vI x2), (3, vI x3), (5, vI x5)]) (dd dtX6_benchesBy 34 rfl) (Nat.le_of_ble_eq_true rfl) rfl ?_
  refine WPe_iinc (pc := 54) (ls' := [(5, vI (x5 + (1 : Int32))), (4, vI (s1 ||| s0)), (0, vR x0), (1, vI x1), (2, vI x2), (3, vI x3)]) 5 (x5 + (1 : Int32)) (dd dtX6_benchesBy 35 rfl) rfl (congrArg (HAdd.hAdd _) (by decide : Int32.ofInt (1) = (1 : Int32))) (Nat.le_of_ble_eq_true rfl) rfl ?_
  refine WPe_goto (pc := 57) 15 (dd dtX6_benchesBy 36 rfl) (by decide) ?_
  refine WPe_sub [2, 3, 4, 5, 1, 0] rfl ?_
  exact hk15 (x0, x1, x2, x3, (s1 ||| s0), (x5 + (1 : Int32))) w
noncomputable def b6_benchesBy_15 (k15 : Nat × Int32 × Int32 × Int32 × Int32 × Int32 → Wd → Option (Int32 × Wd)) (v : Nat × Int32 × Int32 × Int32 × Int32 × Int32) (w : Wd) : Option (Int32 × Wd) :=
  if (3 : Int32) < v.2.2.2.2.2 then (ck (tg w v.1 = 6) (ck (tg w (wr w v.1 3) = 20 ∧ vp_in ((3 : Int32) * v.2.2.1) (ln w (wr w v.1 3))) (lw (sI w (wr w v.1 3) (((3 : Int32) * v.2.2.1)).toNatClampNeg v.2.2.2.1) fun w6 => (some (v.2.2.2.2.1, w6))))) else (ck (tg w v.1 = 6) (ck (tg w (wr w v.1 3) = 20 ∧ vp_in ((3 : Int32) * v.2.2.1) (ln w (wr w v.1 3))) (lw (sI w (wr w v.1 3) (((3 : Int32) * v.2.2.1)).toNatClampNeg v.2.2.2.2.2) fun w10 => ((f6_unlike v.1 v.2.1 v.2.2.1 w10).bind fun z12 => (if z12.1 = (-1 : Int32) then (j6_benchesBy_51 k15 v.1 v.2.1 v.2.2.1 v.2.2.2.1 v.2.2.2.2.2 ((1 : Int32) <<< (v.2.2.2.2.2 &&& 31)) v.2.2.2.2.1 z12.2) else (j6_benchesBy_51 k15 v.1 v.2.1 v.2.2.1 v.2.2.2.1 v.2.2.2.2.2 (0 : Int32) v.2.2.2.2.1 z12.2))))))
theorem wpb6_benchesBy_15 (X : CX) (w0 : Wd) (k15 : Nat × Int32 × Int32 × Int32 × Int32 × Int32 → Wd → Option (Int32 × Wd)) (hk15 : ∀ (v : Nat × Int32 × Int32 × Int32 × Int32 × Int32) (w : Wd), WPe rtI X (mX6_benchesBy, 8, 0, 0, w0) 0 0 (k15 v w) 15 [(0, vR v.1), (1, vI v.2.1), (2, vI v.2.2.1), (3, vI v.2.2.2.1), (4, vI v.2.2.2.2.1), (5, vI v.2.2.2.2.2)] [] w) (v : Nat × Int32 × Int32 × Int32 × Int32 × Int32) (w : Wd) : WPe rtI X (mX6_benchesBy, 8, 0, 0, w0) 0 0 (b6_benchesBy_15 k15 v w) 15 [(0, vR v.1), (1, vI v.2.1), (2, vI v.2.2.1), (3, vI v.2.2.2.1), (4, vI v.2.2.2.2.1), (5, vI v.2.2.2.2.2)] [] w := by
  unfold b6_benchesBy_15
  refine WPe_iload (pc := 15) 5 (dd dtX6_benchesBy 11 rfl) rfl ?_
  refine WPe_iconst (pc := 17) (3 : Int32) (dd dtX6_benchesBy 12 rfl) (by decide) ?_
  refine WPe_icmp_gt (pc := 18) 60 (dd dtX6_benchesBy 13 rfl) (by decide) (fun h3 => ?_) (fun h3 => ?_)
  · refine WPe_aload_n (pc := 60) 0 (dd dtX6_benchesBy 37 rfl) rfl ?_
    refine WPe_ck fun h4 => ?_
    refine WPe_getR (pc := 61) (t := 6) (C := RX6) (T := TX6) 3 (dd dtX6_benchesBy 38 rfl) (shE h4) rfl (Nat.le_of_ble_eq_true rfl) rfl (bw_mem4 56 rfl rfl) ?_
    refine WPe_iconst (pc := 64) (3 : Int32) (dd dtX6_benchesBy 39 rfl) (by decide) ?_
    refine WPe_iload_n (pc := 65) 2 (dd dtX6_benchesBy 40 rfl) rfl ?_
    refine WPe_imul (pc := 66) (dd dtX6_benchesBy 41 rfl) ?_
    refine WPe_iload_n (pc := 67) 3 (dd dtX6_benchesBy 42 rfl) rfl ?_
    refine WPe_ck fun h5 => ?_
    refine WPe_iast (pc := 68) (dd dtX6_benchesBy 43 rfl) (shE h5.1) h5.2 ?_
    refine WPe_lw fun w6 e7 => ?_
    refine WPe_iload (pc := 69) 4 (dd dtX6_benchesBy 44 rfl) rfl ?_
    exact WPe_ireturn (pc := 71) (dd dtX6_benchesBy 45 rfl) rfl rfl ⟨(Nat.le_of_ble_eq_true rfl), (Nat.le_of_ble_eq_true rfl)⟩
  · refine WPe_aload_n (pc := 21) 0 (dd dtX6_benchesBy 14 rfl) rfl ?_
    refine WPe_ck fun h8 => ?_
    refine WPe_getR (pc := 22) (t := 6) (C := RX6) (T := TX6) 3 (dd dtX6_benchesBy 15 rfl) (shE h8) rfl (Nat.le_of_ble_eq_true rfl) rfl (bw_mem4 56 rfl rfl) ?_
    refine WPe_iconst (pc := 25) (3 : Int32) (dd dtX6_benchesBy 16 rfl) (by decide) ?_
    refine WPe_iload_n (pc := 26) 2 (dd dtX6_benchesBy 17 rfl) rfl ?_
    refine WPe_imul (pc := 27) (dd dtX6_benchesBy 18 rfl) ?_
    refine WPe_iload (pc := 28) 5 (dd dtX6_benchesBy 19 rfl) rfl ?_
    refine WPe_ck fun h9 => ?_
    refine WPe_iast (pc := 30) (dd dtX6_benchesBy 20 rfl) (shE h9.1) h9.2 ?_
    refine WPe_lw fun w10 e11 => ?_
    refine WPe_iload (pc := 31) 4 (dd dtX6_benchesBy 21 rfl) rfl ?_
    refine WPe_aload_n (pc := 33) 0 (dd dtX6_benchesBy 22 rfl) rfl ?_
    refine WPe_iload_n (pc := 34) 1 (dd dtX6_benchesBy 23 rfl) rfl ?_
    refine WPe_iload_n (pc := 35) 2 (dd dtX6_benchesBy 24 rfl) rfl ?_
    refine WPe_callV (pc := 36) (rtc := rtI) (Mc := mX6_unlike) (d' := 7) (mc' := 0) (ms' := 0) [vI v.2.1, vI v.2.2.1] [vI v.2.2.2.2.1] rfl (dd dtX6_benchesBy 25 rfl) (okf6_unlike v.1 v.2.1 v.2.2.1 w10) moX6_unlike miX6_unlike (bw_mem5 112 rfl rfl) (Or.inl ⟨_, _, _, _, (shI e11 (shE h8)), rfl⟩) rfl (Nat.le_of_ble_eq_true rfl) ⟨(Nat.le_of_ble_eq_true rfl), (Nat.le_of_ble_eq_true rfl)⟩ ⟨(Nat.le_of_ble_eq_true rfl), (Nat.le_of_ble_eq_true rfl)⟩ (fun z12 h13 e14 => ?_)
    refine WPe_st (st2 := [vI z12.1, vI v.2.2.2.2.1]) rfl ?_
    refine WPe_iconst (pc := 39) (-1 : Int32) (dd dtX6_benchesBy 26 rfl) (by decide) ?_
    refine WPe_icmp_ne (pc := 40) 50 (dd dtX6_benchesBy 27 rfl) (by decide) (fun h15 => ?_) (fun h15 => ?_)
    · refine WPe_iconst (pc := 43) (1 : Int32) (dd dtX6_benchesBy 28 rfl) (by decide) ?_
      refine WPe_iload (pc := 44) 5 (dd dtX6_benchesBy 29 rfl) rfl ?_
      refine WPe_ishl (pc := 46) (dd dtX6_benchesBy 30 rfl) ?_
      refine WPe_goto (pc := 47) 51 (dd dtX6_benchesBy 31 rfl) (by decide) ?_
      refine WPe_sub [0, 1, 2, 3, 5] rfl ?_
      exact wpj6_benchesBy_51 X w0 k15 hk15 v.1 v.2.1 v.2.2.1 v.2.2.2.1 v.2.2.2.2.2 ((1 : Int32) <<< (v.2.2.2.2.2 &&& 31)) v.2.2.2.2.1 z12.2
    · refine WPe_iconst (pc := 50) (0 : Int32) (dd dtX6_benchesBy 32 rfl) (by decide) ?_
      refine WPe_sub [0, 1, 2, 3, 5] rfl ?_
      exact wpj6_benchesBy_51 X w0 k15 hk15 v.1 v.2.1 v.2.2.1 v.2.2.2.1 v.2.2.2.2.2 (0 : Int32) v.2.2.2.2.1 z12.2
theorem wplb6_benchesBy_15 (X : CX) (w0 : Wd)  : ∀ (n9 : Nat) (v : Nat × Int32 × Int32 × Int32 × Int32 × Int32) (w : Wd), WPe rtI X (mX6_benchesBy, 8, 0, 0, w0) 0 0 (loopF (b6_benchesBy_15 ) n9 v w) 15 [(0, vR v.1), (1, vI v.2.1), (2, vI v.2.2.1), (3, vI v.2.2.2.1), (4, vI v.2.2.2.2.1), (5, vI v.2.2.2.2.2)] [] w :=
  WPe_loop (rt := rtI) (X := X) (M := (mX6_benchesBy, 8, 0, 0, w0)) (fun v : Nat × Int32 × Int32 × Int32 × Int32 × Int32 => [(0, vR v.1), (1, vI v.2.1), (2, vI v.2.2.1), (3, vI v.2.2.2.1), (4, vI v.2.2.2.2.1), (5, vI v.2.2.2.2.2)]) (fun k hk v w => wpb6_benchesBy_15 X w0  k hk v w)
noncomputable def f6_benchesBy (x0 : Nat) (x1 : Int32) (x2 : Int32) (w : Wd) : Option (Int32 × Wd) :=
  ck (tg w x0 = 6) (ck (tg w (wr w x0 3) = 20 ∧ vp_in ((3 : Int32) * x2) (ln w (wr w x0 3))) (loopF (b6_benchesBy_15) FU (x0, x1, x2, (wi w (wr w x0 3) (((3 : Int32) * x2)).toNatClampNeg), (0 : Int32), (0 : Int32)) w))
theorem wpf6_benchesBy (X : CX) (w0 : Wd) (x0 : Nat) (x1 : Int32) (x2 : Int32) (w : Wd) : WPe rtI X (mX6_benchesBy, 8, 0, 0, w0) 0 0 (f6_benchesBy x0 x1 x2 w) 0 [(0, vR x0), (1, vI x1), (2, vI x2)] [] w := by
  unfold f6_benchesBy
  refine WPe_aload_n (pc := 0) 0 (dd dtX6_benchesBy 0 rfl) rfl ?_
  refine WPe_ck fun h1 => ?_
  refine WPe_getR (pc := 1) (t := 6) (C := RX6) (T := TX6) 3 (dd dtX6_benchesBy 1 rfl) (shE h1) rfl (Nat.le_of_ble_eq_true rfl) rfl (bw_mem4 56 rfl rfl) ?_
  refine WPe_iconst (pc := 4) (3 : Int32) (dd dtX6_benchesBy 2 rfl) (by decide) ?_
  refine WPe_iload_n (pc := 5) 2 (dd dtX6_benchesBy 3 rfl) rfl ?_
  refine WPe_imul (pc := 6) (dd dtX6_benchesBy 4 rfl) ?_
  refine WPe_ck fun h2 => ?_
  refine WPe_iald (pc := 7) (dd dtX6_benchesBy 5 rfl) (shE h2.1) h2.2 ?_
  refine WPe_istore_n (pc := 8) (ls' := [(3, vI (wi w (wr w x0 3) (((3 : Int32) * x2)).toNatClampNeg)), (0, vR x0), (1, vI x1), (2, vI x2)]) (dd dtX6_benchesBy 6 rfl) (Nat.le_of_ble_eq_true rfl) rfl ?_
  refine WPe_iconst (pc := 9) (0 : Int32) (dd dtX6_benchesBy 7 rfl) (by decide) ?_
  refine WPe_istore (pc := 10) (ls' := [(4, vI (0 : Int32)), (3, vI (wi w (wr w x0 3) (((3 : Int32) * x2)).toNatClampNeg)), (0, vR x0), (1, vI x1), (2, vI x2)]) (dd dtX6_benchesBy 8 rfl) (Nat.le_of_ble_eq_true rfl) rfl ?_
  refine WPe_iconst (pc := 12) (0 : Int32) (dd dtX6_benchesBy 9 rfl) (by decide) ?_
  refine WPe_istore (pc := 13) (ls' := [(5, vI (0 : Int32)), (4, vI (0 : Int32)), (3, vI (wi w (wr w x0 3) (((3 : Int32) * x2)).toNatClampNeg)), (0, vR x0), (1, vI x1), (2, vI x2)]) (dd dtX6_benchesBy 10 rfl) (Nat.le_of_ble_eq_true rfl) rfl ?_
  refine WPe_sub [3, 4, 5, 2, 1, 0] rfl ?_
  exact wplb6_benchesBy_15 X w0  FU _ _
theorem okf6_benchesBy (x0 : Nat) (x1 : Int32) (x2 : Int32) (w : Wd) : ∀ z, f6_benchesBy x0 x1 x2 w = some z → OkM mX6_benchesBy 8 0 0 [vR x0, vI x1, vI x2] w (rtI z.1) z.2 :=
  OkM.of (rt := rtI) moX6_benchesBy (Nat.le_of_ble_eq_true rfl) (fun X => wpf6_benchesBy X w x0 x1 x2 w)
def tbX6_states : List (Nat × Instr × Nat) := [(0, .aload_n 0, 1), (1, .iload_n 1, 1), (2, .iload_n 2, 1), (3, .invokevirtual 227, 3), (6, .istore 4, 2), (8, .iload 4, 2), (10, .ifCond .eq 6, 3), (13, .iload 4, 2), (15, .ireturn, 1), (16, .iload_n 3, 1), (17, .iconst 0, 1), (18, .iconst 2, 1), (19, .invokestatic 75, 3), (22, .ifCond .ne 6, 3), (25, .bipush (-7), 2), (27, .ireturn, 1), (28, .iload_n 3, 1), (29, .ifCond .ne 10, 3), (32, .aload_n 0, 1), (33, .iload_n 1, 1), (34, .iload_n 2, 1), (35, .invokevirtual 233, 3), (38, .ireturn, 1), (39, .aload_n 0, 1), (40, .getfield 16, 3), (43, .iconst 3, 1), (44, .iload_n 2, 1), (45, .imul, 1), (46, .iconst 1, 1), (47, .iadd, 1), (48, .iaload, 1), (49, .istore 5, 2), (51, .iconst 0, 1), (52, .istore 6, 2), (54, .iconst (-1), 1), (55, .istore 7, 2), (57, .iconst 0, 1), (58, .istore 8, 2), (60, .iload 8, 2), (62, .sipush 299, 3), (65, .if_icmp .gt 73, 3), (68, .aload_n 0, 1), (69, .getfield 16, 3), (72, .iconst 3, 1), (73, .iload_n 2, 1), (74, .imul, 1), (75, .iconst 1, 1), (76, .iadd, 1), (77, .iload 8, 2), (79, .iastore, 1), (80, .aload_n 0, 1), (81, .iload_n 1, 1), (82, .iload_n 2, 1), (83, .invokevirtual 230, 3), (86, .iconst (-1), 1), (87, .if_icmp .ne 7, 3), (90, .iconst 1, 1), (91, .goto 4, 3), (94, .iconst 0, 1), (95, .istore 9, 2), (97, .iload 6, 2), (99, .iload 9, 2), (101, .ifCond .eq 7, 3), (104, .iconst 1, 1), (105, .goto 4, 3), (108, .iconst 0, 1), (109, .iadd, 1), (110, .istore 6, 2), (112, .iload 9, 2), (114, .ifCond .eq 14, 3), (117, .iload 7, 2), (119, .iconst (-1), 1), (120, .if_icmp .ne 8, 3), (123, .iload 8, 2), (125, .goto 5, 3), (128, .iload 7, 2), (130, .istore 7, 2), (132, .iinc 8 1, 3), (135, .goto (-75), 3), (138, .aload_n 0, 1), (139, .getfield 16, 3), (142, .iconst 3, 1), (143, .iload_n 2, 1), (144, .imul, 1), (145, .iconst 1, 1), (146, .iadd, 1), (147, .iload 5, 2), (149, .iastore, 1), (150, .iload_n 3, 1), (151, .iconst 1, 1), (152, .if_icmp .ne 8, 3), (155, .iload 6, 2), (157, .goto 5, 3), (160, .iload 7, 2), (162, .ireturn, 1)]
set_option maxRecDepth 20000 in
theorem dtX6_states : ∀ x ∈ tbX6_states, decode cX6_states x.1 = .ok x.2 := by decide +kernel
noncomputable def j6_states_130 (k60 : Nat × Int32 × Int32 × Int32 × Int32 × Int32 × Int32 × Int32 → Wd → Option (Int32 × Wd)) (x0 : Nat) (x1 : Int32) (x2 : Int32) (x3 : Int32) (x5 : Int32) (x6 : Int32) (x8 : Int32) (s0 : Int32) (w : Wd) : Option (Int32 × Wd) :=
  k60 (x0, x1, x2, x3, x5, x6, s0, (x8 + (1 : Int32))) w
theorem wpj6_states_130 (X : CX) (w0 : Wd) (k60 : Nat × Int32 × Int32 × Int32 × Int32 × Int32 × Int32 × Int32 → Wd → Option (Int32 × Wd)) (hk60 : ∀ (v : Nat × Int32 × Int32 × Int32 × Int32 × Int32 × Int32 × Int32) (w : Wd), WPe rtI X (mX6_states, 9, 0, 0, w0) 0 0 (k60 v w) 60 [(0, vR v.1), (1, vI v.2.1), (2, vI v.2.2.1), (3, vI v.2.2.2.1), (5, vI v.2.2.2.2.1), (6, vI v.2.2.2.2.2.1), (7, vI v.2.2.2.2.2.2.1), (8, vI v.2.2.2.2.2.2.2)] [] w) (x0 : Nat) (x1 : Int32) (x2 : Int32) (x3 : Int32) (x5 : Int32) (x6 : Int32) (x8 : Int32) (s0 : Int32) (w : Wd) : WPe rtI X (mX6_states, 9, 0, 0, w0) 0 0 (j6_states_130 k60 x0 x1 x2 x3 x5 x6 x8 s0 w) 130 [(0, vR x0), (1, vI x1), (2, vI x2), (3, vI x3), (5, vI x5), (6, vI x6), (8, vI x8)] [vI s0] w := by
  unfold j6_states_130
  refine WPe_istore (pc := 130) (ls' := [(7, vI s0), (0, vR x0), (1, vI x1), (2, vI x2), (3, vI x3), (5, vI x5), (6, vI x6), (8, vI x8)]) (dd dtX6_states 76 rfl) (Nat.le_of_ble_eq_true rfl) rfl ?_
  refine WPe_iinc (pc := 132) (ls' := [(8, vI (x8 + (1 : Int32))), (7, vI s0), (0, vR x0), (1, vI x1), (2, vI x2), (3, vI x3), (5, vI x5), (6, vI x6)]) 7 (x8 + (1 : Int32)) (dd dtX6_states 77 rfl) rfl (congrArg (HAdd.hAdd _) (by decide : Int32.ofInt (1) = (1 : Int32))) (Nat.le_of_ble_eq_true rfl) rfl ?_
  refine WPe_goto (pc := 135) 60 (dd dtX6_states 78 rfl) (by decide) ?_
  refine WPe_sub [2, 3, 4, 5, 6, 7, 1, 0] rfl ?_
  exact hk60 (x0, x1, x2, x3, x5, x6, s0, (x8 + (1 : Int32))) w
noncomputable def j6_states_128 (k60 : Nat × Int32 × Int32 × Int32 × Int32 × Int32 × Int32 × Int32 → Wd → Option (Int32 × Wd)) (x0 : Nat) (x1 : Int32) (x2 : Int32) (x3 : Int32) (x5 : Int32) (x6 : Int32) (x7 : Int32) (x8 : Int32) (w : Wd) : Option (Int32 × Wd) :=
  j6_states_130 k60 x0 x1 x2 x3 x5 x6 x8 x7 w
theorem wpj6_states_128 (X : CX) (w0 : Wd) (k60 : Nat × Int32 × Int32 × Int32 × Int32 × Int32 × Int32 × Int32 → Wd → Option (Int32 × Wd)) (hk60 : ∀ (v : Nat × Int32 × Int32 × Int32 × Int32 × Int32 × Int32 × Int32) (w : Wd), WPe rtI X (mX6_states, 9, 0, 0, w0) 0 0 (k60 v w) 60 [(0, vR v.1), (1, vI v.2.1), (2, vI v.2.2.1), (3, vI v.2.2.2.1), (5, vI v.2.2.2.2.1), (6, vI v.2.2.2.2.2.1), (7, vI v.2.2.2.2.2.2.1), (8, vI v.2.2.2.2.2.2.2)] [] w) (x0 : Nat) (x1 : Int32) (x2 : Int32) (x3 : Int32) (x5 : Int32) (x6 : Int32) (x7 : Int32) (x8 : Int32) (w : Wd) : WPe rtI X (mX6_states, 9, 0, 0, w0) 0 0 (j6_states_128 k60 x0 x1 x2 x3 x5 x6 x7 x8 w) 128 [(0, vR x0), (1, vI x1), (2, vI x2), (3, vI x3), (5, vI x5), (6, vI x6), (7, vI x7), (8, vI x8)] [] w := by
  unfold j6_states_128
  refine WPe_iload (pc := 128) 6 (dd dtX6_states 75 rfl) rfl ?_
  refine WPe_sub [0, 1, 2, 3, 4, 5, 7] rfl ?_
  exact wpj6_states_130 X w0 k60 hk60 x0 x1 x2 x3 x5 x6 x8 x7 w
noncomputable def j6_states_109 (k60 : Nat × Int32 × Int32 × Int32 × Int32 × Int32 × Int32 × Int32 → Wd → Option (Int32 × Wd)) (x0 : Nat) (x1 : Int32) (x2 : Int32) (x3 : Int32) (x5 : Int32) (x7 : Int32) (x8 : Int32) (x9 : Int32) (s0 : Int32) (s1 : Int32) (w : Wd) : Option (Int32 × Wd) :=
  if x9 = (0 : Int32) then (j6_states_128 k60 x0 x1 x2 x3 x5 (s1 + s0) x7 x8 w) else (if x7 = (-1 : Int32) then (j6_states_130 k60 x0 x1 x2 x3 x5 (s1 + s0) x8 x8 w) else (j6_states_128 k60 x0 x1 x2 x3 x5 (s1 + s0) x7 x8 w))
theorem wpj6_states_109 (X : CX) (w0 : Wd) (k60 : Nat × Int32 × Int32 × Int32 × Int32 × Int32 × Int32 × Int32 → Wd → Option (Int32 × Wd)) (hk60 : ∀ (v : Nat × Int32 × Int32 × Int32 × Int32 × Int32 × Int32 × Int32) (w : Wd), WPe rtI X (mX6_states, 9, 0, 0, w0) 0 0 (k60 v w) 60 [(0, vR v.1), (1, vI v.2.1), (2, vI v.2.2.1), (3, vI v.2.2.2.1), (5, vI v.2.2.2.2.1), (6, vI v.2.2.2.2.2.1), (7, vI v.2.2.2.2.2.2.1), (8, vI v.2.2.2.2.2.2.2)] [] w) (x0 : Nat) (x1 : Int32) (x2 : Int32) (x3 : Int32) (x5 : Int32) (x7 : Int32) (x8 : Int32) (x9 : Int32) (s0 : Int32) (s1 : Int32) (w : Wd) : WPe rtI X (mX6_states, 9, 0, 0, w0) 0 0 (j6_states_109 k60 x0 x1 x2 x3 x5 x7 x8 x9 s0 s1 w) 109 [(0, vR x0), (1, vI x1), (2, vI x2), (3, vI x3), (5, vI x5), (7, vI x7), (8, vI x8), (9, vI x9)] [vI s0, vI s1] w := by
  unfold j6_states_109
  refine WPe_iadd (pc := 109) (dd dtX6_states 66 rfl) ?_
  refine WPe_istore (pc := 110) (ls' := [(6, vI (s1 + s0)), (0, vR x0), (1, vI x1), (2, vI x2), (3, vI x3), (5, vI x5), (7, vI x7), (8, vI x8), (9, vI x9)]) (dd dtX6_states 67 rfl) (Nat.le_of_ble_eq_true rfl) rfl ?_
  refine WPe_iload (pc := 112) 8 (dd dtX6_states 68 rfl) rfl ?_
  refine WPe_if_eq (pc := 114) 128 (dd dtX6_states 69 rfl) (by decide) (fun h30 => ?_) (fun h30 => ?_)
  · refine WPe_sub [1, 2, 3, 4, 5, 0, 6, 7] rfl ?_
    exact wpj6_states_128 X w0 k60 hk60 x0 x1 x2 x3 x5 (s1 + s0) x7 x8 w
  · refine WPe_iload (pc := 117) 6 (dd dtX6_states 70 rfl) rfl ?_
    refine WPe_iconst (pc := 119) (-1 : Int32) (dd dtX6_states 71 rfl) (by decide) ?_
    refine WPe_icmp_ne (pc := 120) 128 (dd dtX6_states 72 rfl) (by decide) (fun h31 => ?_) (fun h31 => ?_)
    · refine WPe_iload (pc := 123) 7 (dd dtX6_states 73 rfl) rfl ?_
      refine WPe_goto (pc := 125) 130 (dd dtX6_states 74 rfl) (by decide) ?_
      refine WPe_sub [1, 2, 3, 4, 5, 0, 7] rfl ?_
      exact wpj6_states_130 X w0 k60 hk60 x0 x1 x2 x3 x5 (s1 + s0) x8 x8 w
    · refine WPe_sub [1, 2, 3, 4, 5, 0, 6, 7] rfl ?_
      exact wpj6_states_128 X w0 k60 hk60 x0 x1 x2 x3 x5 (s1 + s0) x7 x8 w
noncomputable def j6_states_95 (k60 : Nat × Int32 × Int32 × Int32 × Int32 × Int32 × Int32 × Int32 → Wd → Option (Int32 × Wd)) (x0 : Nat) (x1 : Int32) (x2 : Int32) (x3 : Int32) (x5 : Int32) (x6 : Int32) (x7 : Int32) (x8 : Int32) (s0 : Int32) (w : Wd) : Option (Int32 × Wd) :=
  if s0 = (0 : Int32) then (j6_states_109 k60 x0 x1 x2 x3 x5 x7 x8 s0 (0 : Int32) x6 w) else (j6_states_109 k60 x0 x1 x2 x3 x5 x7 x8 s0 (1 : Int32) x6 w)
theorem wpj6_states_95 (X : CX) (w0 : Wd) (k60 : Nat × Int32 × Int32 × Int32 × Int32 × Int32 × Int32 × Int32 → Wd → Option (Int32 × Wd)) (hk60 : ∀ (v : Nat × Int32 × Int32 × Int32 × Int32 × Int32 × Int32 × Int32) (w : Wd), WPe rtI X (mX6_states, 9, 0, 0, w0) 0 0 (k60 v w) 60 [(0, vR v.1), (1, vI v.2.1), (2, vI v.2.2.1), (3, vI v.2.2.2.1), (5, vI v.2.2.2.2.1), (6, vI v.2.2.2.2.2.1), (7, vI v.2.2.2.2.2.2.1), (8, vI v.2.2.2.2.2.2.2)] [] w) (x0 : Nat) (x1 : Int32) (x2 : Int32) (x3 : Int32) (x5 : Int32) (x6 : Int32) (x7 : Int32) (x8 : Int32) (s0 : Int32) (w : Wd) : WPe rtI X (mX6_states, 9, 0, 0, w0) 0 0 (j6_states_95 k60 x0 x1 x2 x3 x5 x6 x7 x8 s0 w) 95 [(0, vR x0), (1, vI x1), (2, vI x2), (3, vI x3), (5, vI x5), (6, vI x6), (7, vI x7), (8, vI x8)] [vI s0] w := by
  unfold j6_states_95
  refine WPe_istore (pc := 95) (ls' := [(9, vI s0), (0, vR x0), (1, vI x1), (2, vI x2), (3, vI x3), (5, vI x5), (6, vI x6), (7, vI x7), (8, vI x8)]) (dd dtX6_states 59 rfl) (Nat.le_of_ble_eq_true rfl) rfl ?_
  refine WPe_iload (pc := 97) 6 (dd dtX6_states 60 rfl) rfl ?_
  refine WPe_iload (pc := 99) 0 (dd dtX6_states 61 rfl) rfl ?_
  refine WPe_if_eq (pc := 101) 108 (dd dtX6_states 62 rfl) (by decide) (fun h29 => ?_) (fun h29 => ?_)
  · refine WPe_iconst (pc := 108) (0 : Int32) (dd dtX6_states 65 rfl) (by decide) ?_
    refine WPe_sub [1, 2, 3, 4, 5, 7, 8, 0] rfl ?_
    exact wpj6_states_109 X w0 k60 hk60 x0 x1 x2 x3 x5 x7 x8 s0 (0 : Int32) x6 w
  · refine WPe_iconst (pc := 104) (1 : Int32) (dd dtX6_states 63 rfl) (by decide) ?_
    refine WPe_goto (pc := 105) 109 (dd dtX6_states 64 rfl) (by decide) ?_
    refine WPe_sub [1, 2, 3, 4, 5, 7, 8, 0] rfl ?_
    exact wpj6_states_109 X w0 k60 hk60 x0 x1 x2 x3 x5 x7 x8 s0 (1 : Int32) x6 w
noncomputable def b6_states_60 (k60 : Nat × Int32 × Int32 × Int32 × Int32 × Int32 × Int32 × Int32 → Wd → Option (Int32 × Wd)) (v : Nat × Int32 × Int32 × Int32 × Int32 × Int32 × Int32 × Int32) (w : Wd) : Option (Int32 × Wd) :=
  if (299 : Int32) < v.2.2.2.2.2.2.2 then (ck (tg w v.1 = 6) (ck (tg w (wr w v.1 3) = 20 ∧ vp_in (((3 : Int32) * v.2.2.1) + (1 : Int32)) (ln w (wr w v.1 3))) (lw (sI w (wr w v.1 3) ((((3 : Int32) * v.2.2.1) + (1 : Int32))).toNatClampNeg v.2.2.2.2.1) fun w18 => (if v.2.2.2.1 = (1 : Int32) then (some (v.2.2.2.2.2.1, w18)) else (some (v.2.2.2.2.2.2.1, w18)))))) else (ck (tg w v.1 = 6) (ck (tg w (wr w v.1 3) = 20 ∧ vp_in (((3 : Int32) * v.2.2.1) + (1 : Int32)) (ln w (wr w v.1 3))) (lw (sI w (wr w v.1 3) ((((3 : Int32) * v.2.2.1) + (1 : Int32))).toNatClampNeg v.2.2.2.2.2.2.2) fun w23 => ((f6_unlike v.1 v.2.1 v.2.2.1 w23).bind fun z25 => (if z25.1 = (-1 : Int32) then (j6_states_95 k60 v.1 v.2.1 v.2.2.1 v.2.2.2.1 v.2.2.2.2.1 v.2.2.2.2.2.1 v.2.2.2.2.2.2.1 v.2.2.2.2.2.2.2 (1 : Int32) z25.2) else (j6_states_95 k60 v.1 v.2.1 v.2.2.1 v.2.2.2.1 v.2.2.2.2.1 v.2.2.2.2.2.1 v.2.2.2.2.2.2.1 v.2.2.2.2.2.2.2 (0 : Int32) z25.2))))))
theorem wpb6_states_60 (X : CX) (w0 : Wd) (k60 : Nat × Int32 × Int32 × Int32 × Int32 × Int32 × Int32 × Int32 → Wd → Option (Int32 × Wd)) (hk60 : ∀ (v : Nat × Int32 × Int32 × Int32 × Int32 × Int32 × Int32 × Int32) (w : Wd), WPe rtI X (mX6_states, 9, 0, 0, w0) 0 0 (k60 v w) 60 [(0, vR v.1), (1, vI v.2.1), (2, vI v.2.2.1), (3, vI v.2.2.2.1), (5, vI v.2.2.2.2.1), (6, vI v.2.2.2.2.2.1), (7, vI v.2.2.2.2.2.2.1), (8, vI v.2.2.2.2.2.2.2)] [] w) (v : Nat × Int32 × Int32 × Int32 × Int32 × Int32 × Int32 × Int32) (w : Wd) : WPe rtI X (mX6_states, 9, 0, 0, w0) 0 0 (b6_states_60 k60 v w) 60 [(0, vR v.1), (1, vI v.2.1), (2, vI v.2.2.1), (3, vI v.2.2.2.1), (5, vI v.2.2.2.2.1), (6, vI v.2.2.2.2.2.1), (7, vI v.2.2.2.2.2.2.1), (8, vI v.2.2.2.2.2.2.2)] [] w := by
  unfold b6_states_60
  refine WPe_iload (pc := 60) 7 (dd dtX6_states 38 rfl) rfl ?_
  refine WPe_sipush (pc := 62) (299 : Int32) (dd dtX6_states 39 rfl) (by decide) ?_
  refine WPe_icmp_gt (pc := 65) 138 (dd dtX6_states 40 rfl) (by decide) (fun h15 => ?_) (fun h15 => ?_)
  · refine WPe_aload_n (pc := 138) 0 (dd dtX6_states 79 rfl) rfl ?_
    refine WPe_ck fun h16 => ?_
    refine WPe_getR (pc := 139) (t := 6) (C := RX6) (T := TX6) 3 (dd dtX6_states 80 rfl) (shE h16) rfl (Nat.le_of_ble_eq_true rfl) rfl (bw_mem4 56 rfl rfl) ?_
    refine WPe_iconst (pc := 142) (3 : Int32) (dd dtX6_states 81 rfl) (by decide) ?_
    refine WPe_iload_n (pc := 143) 2 (dd dtX6_states 82 rfl) rfl ?_
    refine WPe_imul (pc := 144) (dd dtX6_states 83 rfl) ?_
    refine WPe_iconst (pc := 145) (1 : Int32) (dd dtX6_states 84 rfl) (by decide) ?_
    refine WPe_iadd (pc := 146) (dd dtX6_states 85 rfl) ?_
    refine WPe_iload (pc := 147) 4 (dd dtX6_states 86 rfl) rfl ?_
    refine WPe_ck fun h17 => ?_
    refine WPe_iast (pc := 149) (dd dtX6_states 87 rfl) (shE h17.1) h17.2 ?_
    refine WPe_lw fun w18 e19 => ?_
    refine WPe_iload_n (pc := 150) 3 (dd dtX6_states 88 rfl) rfl ?_
    refine WPe_iconst (pc := 151) (1 : Int32) (dd dtX6_states 89 rfl) (by decide) ?_
    refine WPe_icmp_ne (pc := 152) 160 (dd dtX6_states 90 rfl) (by decide) (fun h20 => ?_) (fun h20 => ?_)
    · refine WPe_iload (pc := 155) 5 (dd dtX6_states 91 rfl) rfl ?_
      refine WPe_goto (pc := 157) 162 (dd dtX6_states 92 rfl) (by decide) ?_
      exact WPe_ireturn (pc := 162) (dd dtX6_states 94 rfl) rfl rfl ⟨(Nat.le_of_ble_eq_true rfl), (Nat.le_of_ble_eq_true rfl)⟩
    · refine WPe_iload (pc := 160) 6 (dd dtX6_states 93 rfl) rfl ?_
      exact WPe_ireturn (pc := 162) (dd dtX6_states 94 rfl) rfl rfl ⟨(Nat.le_of_ble_eq_true rfl), (Nat.le_of_ble_eq_true rfl)⟩
  · refine WPe_aload_n (pc := 68) 0 (dd dtX6_states 41 rfl) rfl ?_
    refine WPe_ck fun h21 => ?_
    refine WPe_getR (pc := 69) (t := 6) (C := RX6) (T := TX6) 3 (dd dtX6_states 42 rfl) (shE h21) rfl (Nat.le_of_ble_eq_true rfl) rfl (bw_mem4 56 rfl rfl) ?_
    refine WPe_iconst (pc := 72) (3 : Int32) (dd dtX6_states 43 rfl) (by decide) ?_
    refine WPe_iload_n (pc := 73) 2 (dd dtX6_states 44 rfl) rfl ?_
    refine WPe_imul (pc := 74) (dd dtX6_states 45 rfl) ?_
    refine WPe_iconst (pc := 75) (1 : Int32) (dd dtX6_states 46 rfl) (by decide) ?_
    refine WPe_iadd (pc := 76) (dd dtX6_states 47 rfl) ?_
    refine WPe_iload (pc := 77) 7 (dd dtX6_states 48 rfl) rfl ?_
    refine WPe_ck fun h22 => ?_
    refine WPe_iast (pc := 79) (dd dtX6_states 49 rfl) (shE h22.1) h22.2 ?_
    refine WPe_lw fun w23 e24 => ?_
    refine WPe_aload_n (pc := 80) 0 (dd dtX6_states 50 rfl) rfl ?_
    refine WPe_iload_n (pc := 81) 1 (dd dtX6_states 51 rfl) rfl ?_
    refine WPe_iload_n (pc := 82) 2 (dd dtX6_states 52 rfl) rfl ?_
    refine WPe_callV (pc := 83) (rtc := rtI) (Mc := mX6_unlike) (d' := 7) (mc' := 0) (ms' := 0) [vI v.2.1, vI v.2.2.1] [] rfl (dd dtX6_states 53 rfl) (okf6_unlike v.1 v.2.1 v.2.2.1 w23) moX6_unlike miX6_unlike (bw_mem5 112 rfl rfl) (Or.inl ⟨_, _, _, _, (shI e24 (shE h21)), rfl⟩) rfl (Nat.le_of_ble_eq_true rfl) ⟨(Nat.le_of_ble_eq_true rfl), (Nat.le_of_ble_eq_true rfl)⟩ ⟨(Nat.le_of_ble_eq_true rfl), (Nat.le_of_ble_eq_true rfl)⟩ (fun z25 h26 e27 => ?_)
    refine WPe_st (st2 := [vI z25.1]) rfl ?_
    refine WPe_iconst (pc := 86) (-1 : Int32) (dd dtX6_states 54 rfl) (by decide) ?_
    refine WPe_icmp_ne (pc := 87) 94 (dd dtX6_states 55 rfl) (by decide) (fun h28 => ?_) (fun h28 => ?_)
    · refine WPe_iconst (pc := 90) (1 : Int32) (dd dtX6_states 56 rfl) (by decide) ?_
      refine WPe_goto (pc := 91) 95 (dd dtX6_states 57 rfl) (by decide) ?_
      refine WPe_sub [0, 1, 2, 3, 4, 5, 6, 7] rfl ?_
      exact wpj6_states_95 X w0 k60 hk60 v.1 v.2.1 v.2.2.1 v.2.2.2.1 v.2.2.2.2.1 v.2.2.2.2.2.1 v.2.2.2.2.2.2.1 v.2.2.2.2.2.2.2 (1 : Int32) z25.2
    · refine WPe_iconst (pc := 94) (0 : Int32) (dd dtX6_states 58 rfl) (by decide) ?_
      refine WPe_sub [0, 1, 2, 3, 4, 5, 6, 7] rfl ?_
      exact wpj6_states_95 X w0 k60 hk60 v.1 v.2.1 v.2.2.1 v.2.2.2.1 v.2.2.2.2.1 v.2.2.2.2.2.1 v.2.2.2.2.2.2.1 v.2.2.2.2.2.2.2 (0 : Int32) z25.2
theorem wplb6_states_60 (X : CX) (w0 : Wd)  : ∀ (n9 : Nat) (v : Nat × Int32 × Int32 × Int32 × Int32 × Int32 × Int32 × Int32) (w : Wd), WPe rtI X (mX6_states, 9, 0, 0, w0) 0 0 (loopF (b6_states_60 ) n9 v w) 60 [(0, vR v.1), (1, vI v.2.1), (2, vI v.2.2.1), (3, vI v.2.2.2.1), (5, vI v.2.2.2.2.1), (6, vI v.2.2.2.2.2.1), (7, vI v.2.2.2.2.2.2.1), (8, vI v.2.2.2.2.2.2.2)] [] w :=
  WPe_loop (rt := rtI) (X := X) (M := (mX6_states, 9, 0, 0, w0)) (fun v : Nat × Int32 × Int32 × Int32 × Int32 × Int32 × Int32 × Int32 => [(0, vR v.1), (1, vI v.2.1), (2, vI v.2.2.1), (3, vI v.2.2.2.1), (5, vI v.2.2.2.2.1), (6, vI v.2.2.2.2.2.1), (7, vI v.2.2.2.2.2.2.1), (8, vI v.2.2.2.2.2.2.2)]) (fun k hk v w => wpb6_states_60 X w0  k hk v w)
noncomputable def f6_states (x0 : Nat) (x1 : Int32) (x2 : Int32) (x3 : Int32) (w : Wd) : Option (Int32 × Wd) :=
  ck (tg w x0 = 6) ((f6_toldWrong x0 x1 x2 w).bind fun z2 => (if z2.1 = (0 : Int32) then ((f6_in x3 (0 : Int32) (2 : Int32) z2.2).bind fun z6 => (if z6.1 = (0 : Int32) then (some ((-7 : Int32), z6.2)) else (if x3 = (0 : Int32) then ((f6_benchesBy x0 x1 x2 z6.2).bind fun z11 => (some (z11.1, z11.2))) else (ck (tg z6.2 (wr z6.2 x0 3) = 20 ∧ vp_in (((3 : Int32) * x2) + (1 : Int32)) (ln z6.2 (wr z6.2 x0 3))) (loopF (b6_states_60) FU (x0, x1, x2, x3, (wi z6.2 (wr z6.2 x0 3) ((((3 : Int32) * x2) + (1 : Int32))).toNatClampNeg), (0 : Int32), (-1 : Int32), (0 : Int32)) z6.2))))) else (some (z2.1, z2.2))))
theorem wpf6_states (X : CX) (w0 : Wd) (x0 : Nat) (x1 : Int32) (x2 : Int32) (x3 : Int32) (w : Wd) : WPe rtI X (mX6_states, 9, 0, 0, w0) 0 0 (f6_states x0 x1 x2 x3 w) 0 [(0, vR x0), (1, vI x1), (2, vI x2), (3, vI x3)] [] w := by
  unfold f6_states
  refine WPe_aload_n (pc := 0) 0 (dd dtX6_states 0 rfl) rfl ?_
  refine WPe_iload_n (pc := 1) 1 (dd dtX6_states 1 rfl) rfl ?_
  refine WPe_iload_n (pc := 2) 2 (dd dtX6_states 2 rfl) rfl ?_
  refine WPe_ck fun h1 => ?_
  refine WPe_callV (pc := 3) (rtc := rtI) (Mc := mX6_toldWrong) (d' := 3) (mc' := 0) (ms' := 0) [vI x1, vI x2] [] rfl (dd dtX6_states 3 rfl) (okf6_toldWrong x0 x1 x2 w) moX6_toldWrong miX6_toldWrong (bw_mem5 104 rfl rfl) (Or.inl ⟨_, _, _, _, (shE h1), rfl⟩) rfl (Nat.le_of_ble_eq_true rfl) ⟨(Nat.le_of_ble_eq_true rfl), (Nat.le_of_ble_eq_true rfl)⟩ ⟨(Nat.le_of_ble_eq_true rfl), (Nat.le_of_ble_eq_true rfl)⟩ (fun z2 h3 e4 => ?_)
  refine WPe_st (st2 := [vI z2.1]) rfl ?_
  refine WPe_istore (pc := 6) (ls' := [(4, vI z2.1), (0, vR x0), (1, vI x1), (2, vI x2), (3, vI x3)]) (dd dtX6_states 4 rfl) (Nat.le_of_ble_eq_true rfl) rfl ?_
  refine WPe_iload (pc := 8) 0 (dd dtX6_states 5 rfl) rfl ?_
  refine WPe_if_eq (pc := 10) 16 (dd dtX6_states 6 rfl) (by decide) (fun h5 => ?_) (fun h5 => ?_)
  · refine WPe_iload_n (pc := 16) 4 (dd dtX6_states 9 rfl) rfl ?_
    refine WPe_iconst (pc := 17) (0 : Int32) (dd dtX6_states 10 rfl) (by decide) ?_
    refine WPe_iconst (pc := 18) (2 : Int32) (dd dtX6_states 11 rfl) (by decide) ?_
    refine WPe_callS (pc := 19) (rtc := rtI) (Mc := mX6_in) (d' := 1) (mc' := 0) (ms' := 0) [vI x3, vI (0 : Int32), vI (2 : Int32)] [] rfl (dd dtX6_states 12 rfl) (okf6_in x3 (0 : Int32) (2 : Int32) z2.2) moX6_in msX6_in (bw_mem4 14 rfl rfl) rfl (Nat.le_of_ble_eq_true rfl) ⟨(Nat.le_of_ble_eq_true rfl), (Nat.le_of_ble_eq_true rfl)⟩ ⟨(Nat.le_of_ble_eq_true rfl), (Nat.le_of_ble_eq_true rfl)⟩ (fun z6 h7 e8 => ?_)
    refine WPe_st (st2 := [vI z6.1]) rfl ?_
    refine WPe_if_ne (pc := 22) 28 (dd dtX6_states 13 rfl) (by decide) (fun h9 => ?_) (fun h9 => ?_)
    · refine WPe_bipush (pc := 25) (-7 : Int32) (dd dtX6_states 14 rfl) (by decide) ?_
      exact WPe_ireturn (pc := 27) (dd dtX6_states 15 rfl) rfl rfl ⟨(Nat.le_of_ble_eq_true rfl), (Nat.le_of_ble_eq_true rfl)⟩
    · refine WPe_iload_n (pc := 28) 4 (dd dtX6_states 16 rfl) rfl ?_
      refine WPe_if_ne (pc := 29) 39 (dd dtX6_states 17 rfl) (by decide) (fun h10 => ?_) (fun h10 => ?_)
      · refine WPe_aload_n (pc := 32) 1 (dd dtX6_states 18 rfl) rfl ?_
        refine WPe_iload_n (pc := 33) 2 (dd dtX6_states 19 rfl) rfl ?_
        refine WPe_iload_n (pc := 34) 3 (dd dtX6_states 20 rfl) rfl ?_
        refine WPe_callV (pc := 35) (rtc := rtI) (Mc := mX6_benchesBy) (d' := 8) (mc' := 0) (ms' := 0) [vI x1, vI x2] [] rfl (dd dtX6_states 21 rfl) (okf6_benchesBy x0 x1 x2 z6.2) moX6_benchesBy miX6_benchesBy (bw_mem5 124 rfl rfl) (Or.inl ⟨_, _, _, _, (e8.at (e4.at (shE h1) (by decide)) (by decide)), rfl⟩) rfl (Nat.le_of_ble_eq_true rfl) ⟨(Nat.le_of_ble_eq_true rfl), (Nat.le_of_ble_eq_true rfl)⟩ ⟨(Nat.le_of_ble_eq_true rfl), (Nat.le_of_ble_eq_true rfl)⟩ (fun z11 h12 e13 => ?_)
        refine WPe_st (st2 := [vI z11.1]) rfl ?_
        exact WPe_ireturn (pc := 38) (dd dtX6_states 22 rfl) rfl rfl ⟨(Nat.le_of_ble_eq_true rfl), (Nat.le_of_ble_eq_true rfl)⟩
      · refine WPe_aload_n (pc := 39) 1 (dd dtX6_states 23 rfl) rfl ?_
        refine WPe_getR (pc := 40) (t := 6) (C := RX6) (T := TX6) 3 (dd dtX6_states 24 rfl) (e8.at (e4.at (shE h1) (by decide)) (by decide)) rfl (Nat.le_of_ble_eq_true rfl) rfl (bw_mem4 56 rfl rfl) ?_
        refine WPe_iconst (pc := 43) (3 : Int32) (dd dtX6_states 25 rfl) (by decide) ?_
        refine WPe_iload_n (pc := 44) 3 (dd dtX6_states 26 rfl) rfl ?_
        refine WPe_imul (pc := 45) (dd dtX6_states 27 rfl) ?_
        refine WPe_iconst (pc := 46) (1 : Int32) (dd dtX6_states 28 rfl) (by decide) ?_
        refine WPe_iadd (pc := 47) (dd dtX6_states 29 rfl) ?_
        refine WPe_ck fun h14 => ?_
        refine WPe_iald (pc := 48) (dd dtX6_states 30 rfl) (shE h14.1) h14.2 ?_
        refine WPe_istore (pc := 49) (ls' := [(5, vI (wi z6.2 (wr z6.2 x0 3) ((((3 : Int32) * x2) + (1 : Int32))).toNatClampNeg)), (4, vI z2.1), (0, vR x0), (1, vI x1), (2, vI x2), (3, vI x3)]) (dd dtX6_states 31 rfl) (Nat.le_of_ble_eq_true rfl) rfl ?_
        refine WPe_iconst (pc := 51) (0 : Int32) (dd dtX6_states 32 rfl) (by decide) ?_
        refine WPe_istore (pc := 52) (ls' := [(6, vI (0 : Int32)), (5, vI (wi z6.2 (wr z6.2 x0 3) ((((3 : Int32) * x2) + (1 : Int32))).toNatClampNeg)), (4, vI z2.1), (0, vR x0), (1, vI x1), (2, vI x2), (3, vI x3)]) (dd dtX6_states 33 rfl) (Nat.le_of_ble_eq_true rfl) rfl ?_
        refine WPe_iconst (pc := 54) (-1 : Int32) (dd dtX6_states 34 rfl) (by decide) ?_
        refine WPe_istore (pc := 55) (ls' := [(7, vI (-1 : Int32)), (6, vI (0 : Int32)), (5, vI (wi z6.2 (wr z6.2 x0 3) ((((3 : Int32) * x2) + (1 : Int32))).toNatClampNeg)), (4, vI z2.1), (0, vR x0), (1, vI x1), (2, vI x2), (3, vI x3)]) (dd dtX6_states 35 rfl) (Nat.le_of_ble_eq_true rfl) rfl ?_
        refine WPe_iconst (pc := 57) (0 : Int32) (dd dtX6_states 36 rfl) (by decide) ?_
        refine WPe_istore (pc := 58) (ls' := [(8, vI (0 : Int32)), (7, vI (-1 : Int32)), (6, vI (0 : Int32)), (5, vI (wi z6.2 (wr z6.2 x0 3) ((((3 : Int32) * x2) + (1 : Int32))).toNatClampNeg)), (4, vI z2.1), (0, vR x0), (1, vI x1), (2, vI x2), (3, vI x3)]) (dd dtX6_states 37 rfl) (Nat.le_of_ble_eq_true rfl) rfl ?_
        refine WPe_sub [5, 6, 7, 8, 3, 2, 1, 0] rfl ?_
        exact wplb6_states_60 X w0  FU _ _
  · refine WPe_iload (pc := 13) 0 (dd dtX6_states 7 rfl) rfl ?_
    exact WPe_ireturn (pc := 15) (dd dtX6_states 8 rfl) rfl rfl ⟨(Nat.le_of_ble_eq_true rfl), (Nat.le_of_ble_eq_true rfl)⟩
theorem okf6_states (x0 : Nat) (x1 : Int32) (x2 : Int32) (x3 : Int32) (w : Wd) : ∀ z, f6_states x0 x1 x2 x3 w = some z → OkM mX6_states 9 0 0 [vR x0, vI x1, vI x2, vI x3] w (rtI z.1) z.2 :=
  OkM.of (rt := rtI) moX6_states (Nat.le_of_ble_eq_true rfl) (fun X => wpf6_states X w x0 x1 x2 x3 w)
def tbX6_steams : List (Nat × Instr × Nat) := [(0, .aload_n 0, 1), (1, .iload_n 1, 1), (2, .iload_n 2, 1), (3, .invokevirtual 227, 3), (6, .istore 4, 2), (8, .iload 4, 2), (10, .ifCond .eq 6, 3), (13, .iload 4, 2), (15, .ireturn, 1), (16, .iload_n 3, 1), (17, .iconst 0, 1), (18, .iconst 1, 1), (19, .invokestatic 75, 3), (22, .ifCond .ne 6, 3), (25, .bipush (-7), 2), (27, .ireturn, 1), (28, .aload_n 0, 1), (29, .getfield 19, 3), (32, .iconst 2, 1), (33, .iaload, 1), (34, .istore 5, 2), (36, .iconst 0, 1), (37, .istore 6, 2), (39, .iconst (-1), 1), (40, .istore 7, 2), (42, .iconst 0, 1), (43, .istore 8, 2), (45, .iload 8, 2), (47, .bipush 99, 2), (49, .if_icmp .gt 69, 3), (52, .aload_n 0, 1), (53, .getfield 19, 3), (56, .iconst 2, 1), (57, .iload 8, 2), (59, .iastore, 1), (60, .aload_n 0, 1), (61, .iload_n 1, 1), (62, .iload_n 2, 1), (63, .invokevirtual 230, 3), (66, .iconst (-1), 1), (67, .if_icmp .ne 7, 3), (70, .iconst 1, 1), (71, .goto 4, 3), (74, .iconst 0, 1), (75, .istore 9, 2), (77, .iload 6, 2), (79, .iload 9, 2), (81, .ifCond .eq 7, 3), (84, .iconst 1, 1), (85, .goto 4, 3), (88, .iconst 0, 1), (89, .iadd, 1), (90, .istore 6, 2), (92, .iload 9, 2), (94, .ifCond .eq 14, 3), (97, .iload 7, 2), (99, .iconst (-1), 1), (100, .if_icmp .ne 8, 3), (103, .iload 8, 2), (105, .goto 5, 3), (108, .iload 7, 2), (110, .istore 7, 2), (112, .iinc 8 1, 3), (115, .goto (-70), 3), (118, .aload_n 0, 1), (119, .getfield 19, 3), (122, .iconst 2, 1), (123, .iload 5, 2), (125, .iastore, 1), (126, .iload_n 3, 1), (127, .ifCond .ne 8, 3), (130, .iload 6, 2), (132, .goto 5, 3), (135, .iload 7, 2), (137, .ireturn, 1)]
set_option maxRecDepth 20000 in
theorem dtX6_steams : ∀ x ∈ tbX6_steams, decode cX6_steams x.1 = .ok x.2 := by decide +kernel
noncomputable def j6_steams_110 (k45 : Nat × Int32 × Int32 × Int32 × Int32 × Int32 × Int32 × Int32 → Wd → Option (Int32 × Wd)) (x0 : Nat) (x1 : Int32) (x2 : Int32) (x3 : Int32) (x5 : Int32) (x6 : Int32) (x8 : Int32) (s0 : Int32) (w : Wd) : Option (Int32 × Wd) :=
  k45 (x0, x1, x2, x3, x5, x6, s0, (x8 + (1 : Int32))) w
theorem wpj6_steams_110 (X : CX) (w0 : Wd) (k45 : Nat × Int32 × Int32 × Int32 × Int32 × Int32 × Int32 × Int32 → Wd → Option (Int32 × Wd)) (hk45 : ∀ (v : Nat × Int32 × Int32 × Int32 × Int32 × Int32 × Int32 × Int32) (w : Wd), WPe rtI X (mX6_steams, 8, 0, 0, w0) 0 0 (k45 v w) 45 [(0, vR v.1), (1, vI v.2.1), (2, vI v.2.2.1), (3, vI v.2.2.2.1), (5, vI v.2.2.2.2.1), (6, vI v.2.2.2.2.2.1), (7, vI v.2.2.2.2.2.2.1), (8, vI v.2.2.2.2.2.2.2)] [] w) (x0 : Nat) (x1 : Int32) (x2 : Int32) (x3 : Int32) (x5 : Int32) (x6 : Int32) (x8 : Int32) (s0 : Int32) (w : Wd) : WPe rtI X (mX6_steams, 8, 0, 0, w0) 0 0 (j6_steams_110 k45 x0 x1 x2 x3 x5 x6 x8 s0 w) 110 [(0, vR x0), (1, vI x1), (2, vI x2), (3, vI x3), (5, vI x5), (6, vI x6), (8, vI x8)] [vI s0] w := by
  unfold j6_steams_110
  refine WPe_istore (pc := 110) (ls' := [(7, vI s0), (0, vR x0), (1, vI x1), (2, vI x2), (3, vI x3), (5, vI x5), (6, vI x6), (8, vI x8)]) (dd dtX6_steams 61 rfl) (Nat.le_of_ble_eq_true rfl) rfl ?_
  refine WPe_iinc (pc := 112) (ls' := [(8, vI (x8 + (1 : Int32))), (7, vI s0), (0, vR x0), (1, vI x1), (2, vI x2), (3, vI x3), (5, vI x5), (6, vI x6)]) 7 (x8 + (1 : Int32)) (dd dtX6_steams 62 rfl) rfl (congrArg (HAdd.hAdd _) (by decide : Int32.ofInt (1) = (1 : Int32))) (Nat.le_of_ble_eq_true rfl) rfl ?_
  refine WPe_goto (pc := 115) 45 (dd dtX6_steams 63 rfl) (by decide) ?_
  refine WPe_sub [2, 3, 4, 5, 6, 7, 1, 0] rfl ?_
  exact hk45 (x0, x1, x2, x3, x5, x6, s0, (x8 + (1 : Int32))) w
noncomputable def j6_steams_108 (k45 : Nat × Int32 × Int32 × Int32 × Int32 × Int32 × Int32 × Int32 → Wd → Option (Int32 × Wd)) (x0 : Nat) (x1 : Int32) (x2 : Int32) (x3 : Int32) (x5 : Int32) (x6 : Int32) (x7 : Int32) (x8 : Int32) (w : Wd) : Option (Int32 × Wd) :=
  j6_steams_110 k45 x0 x1 x2 x3 x5 x6 x8 x7 w
theorem wpj6_steams_108 (X : CX) (w0 : Wd) (k45 : Nat × Int32 × Int32 × Int32 × Int32 × Int32 × Int32 × Int32 → Wd → Option (Int32 × Wd)) (hk45 : ∀ (v : Nat × Int32 × Int32 × Int32 × Int32 × Int32 × Int32 × Int32) (w : Wd), WPe rtI X (mX6_steams, 8, 0, 0, w0) 0 0 (k45 v w) 45 [(0, vR v.1), (1, vI v.2.1), (2, vI v.2.2.1), (3, vI v.2.2.2.1), (5, vI v.2.2.2.2.1), (6, vI v.2.2.2.2.2.1), (7, vI v.2.2.2.2.2.2.1), (8, vI v.2.2.2.2.2.2.2)] [] w) (x0 : Nat) (x1 : Int32) (x2 : Int32) (x3 : Int32) (x5 : Int32) (x6 : Int32) (x7 : Int32) (x8 : Int32) (w : Wd) : WPe rtI X (mX6_steams, 8, 0, 0, w0) 0 0 (j6_steams_108 k45 x0 x1 x2 x3 x5 x6 x7 x8 w) 108 [(0, vR x0), (1, vI x1), (2, vI x2), (3, vI x3), (5, vI x5), (6, vI x6), (7, vI x7), (8, vI x8)] [] w := by
  unfold j6_steams_108
  refine WPe_iload (pc := 108) 6 (dd dtX6_steams 60 rfl) rfl ?_
  refine WPe_sub [0, 1, 2, 3, 4, 5, 7] rfl ?_
  exact wpj6_steams_110 X w0 k45 hk45 x0 x1 x2 x3 x5 x6 x8 x7 w
noncomputable def j6_steams_89 (k45 : Nat × Int32 × Int32 × Int32 × Int32 × Int32 × Int32 × Int32 → Wd → Option (Int32 × Wd)) (x0 : Nat) (x1 : Int32) (x2 : Int32) (x3 : Int32) (x5 : Int32) (x7 : Int32) (x8 : Int32) (x9 : Int32) (s0 : Int32) (s1 : Int32) (w : Wd) : Option (Int32 × Wd) :=
  if x9 = (0 : Int32) then (j6_steams_108 k45 x0 x1 x2 x3 x5 (s1 + s0) x7 x8 w) else (if x7 = (-1 : Int32) then (j6_steams_110 k45 x0 x1 x2 x3 x5 (s1 + s0) x8 x8 w) else (j6_steams_108 k45 x0 x1 x2 x3 x5 (s1 + s0) x7 x8 w))
theorem wpj6_steams_89 (X : CX) (w0 : Wd) (k45 : Nat × Int32 × Int32 × Int32 × Int32 × Int32 × Int32 × Int32 → Wd → Option (Int32 × Wd)) (hk45 : ∀ (v : Nat × Int32 × Int32 × Int32 × Int32 × Int32 × Int32 × Int32) (w : Wd), WPe rtI X (mX6_steams, 8, 0, 0, w0) 0 0 (k45 v w) 45 [(0, vR v.1), (1, vI v.2.1), (2, vI v.2.2.1), (3, vI v.2.2.2.1), (5, vI v.2.2.2.2.1), (6, vI v.2.2.2.2.2.1), (7, vI v.2.2.2.2.2.2.1), (8, vI v.2.2.2.2.2.2.2)] [] w) (x0 : Nat) (x1 : Int32) (x2 : Int32) (x3 : Int32) (x5 : Int32) (x7 : Int32) (x8 : Int32) (x9 : Int32) (s0 : Int32) (s1 : Int32) (w : Wd) : WPe rtI X (mX6_steams, 8, 0, 0, w0) 0 0 (j6_steams_89 k45 x0 x1 x2 x3 x5 x7 x8 x9 s0 s1 w) 89 [(0, vR x0), (1, vI x1), (2, vI x2), (3, vI x3), (5, vI x5), (7, vI x7), (8, vI x8), (9, vI x9)] [vI s0, vI s1] w := by
  unfold j6_steams_89
  refine WPe_iadd (pc := 89) (dd dtX6_steams 51 rfl) ?_
  refine WPe_istore (pc := 90) (ls' := [(6, vI (s1 + s0)), (0, vR x0), (1, vI x1), (2, vI x2), (3, vI x3), (5, vI x5), (7, vI x7), (8, vI x8), (9, vI x9)]) (dd dtX6_steams 52 rfl) (Nat.le_of_ble_eq_true rfl) rfl ?_
  refine WPe_iload (pc := 92) 8 (dd dtX6_steams 53 rfl) rfl ?_
  refine WPe_if_eq (pc := 94) 108 (dd dtX6_steams 54 rfl) (by decide) (fun h26 => ?_) (fun h26 => ?_)
  · refine WPe_sub [1, 2, 3, 4, 5, 0, 6, 7] rfl ?_
    exact wpj6_steams_108 X w0 k45 hk45 x0 x1 x2 x3 x5 (s1 + s0) x7 x8 w
  · refine WPe_iload (pc := 97) 6 (dd dtX6_steams 55 rfl) rfl ?_
    refine WPe_iconst (pc := 99) (-1 : Int32) (dd dtX6_steams 56 rfl) (by decide) ?_
    refine WPe_icmp_ne (pc := 100) 108 (dd dtX6_steams 57 rfl) (by decide) (fun h27 => ?_) (fun h27 => ?_)
    · refine WPe_iload (pc := 103) 7 (dd dtX6_steams 58 rfl) rfl ?_
      refine WPe_goto (pc := 105) 110 (dd dtX6_steams 59 rfl) (by decide) ?_
      refine WPe_sub [1, 2, 3, 4, 5, 0, 7] rfl ?_
      exact wpj6_steams_110 X w0 k45 hk45 x0 x1 x2 x3 x5 (s1 + s0) x8 x8 w
    · refine WPe_sub [1, 2, 3, 4, 5, 0, 6, 7] rfl ?_
      exact wpj6_steams_108 X w0 k45 hk45 x0 x1 x2 x3 x5 (s1 + s0) x7 x8 w
noncomputable def j6_steams_75 (k45 : Nat × Int32 × Int32 × Int32 × Int32 × Int32 × Int32 × Int32 → Wd → Option (Int32 × Wd)) (x0 : Nat) (x1 : Int32) (x2 : Int32) (x3 : Int32) (x5 : Int32) (x6 : Int32) (x7 : Int32) (x8 : Int32) (s0 : Int32) (w : Wd) : Option (Int32 × Wd) :=
  if s0 = (0 : Int32) then (j6_steams_89 k45 x0 x1 x2 x3 x5 x7 x8 s0 (0 : Int32) x6 w) else (j6_steams_89 k45 x0 x1 x2 x3 x5 x7 x8 s0 (1 : Int32) x6 w)
theorem wpj6_steams_75 (X : CX) (w0 : Wd) (k45 : Nat × Int32 × Int32 × Int32 × Int32 × Int32 × Int32 × Int32 → Wd → Option (Int32 × Wd)) (hk45 : ∀ (v : Nat × Int32 × Int32 × Int32 × Int32 × Int32 × Int32 × Int32) (w : Wd), WPe rtI X (mX6_steams, 8, 0, 0, w0) 0 0 (k45 v w) 45 [(0, vR v.1), (1, vI v.2.1), (2, vI v.2.2.1), (3, vI v.2.2.2.1), (5, vI v.2.2.2.2.1), (6, vI v.2.2.2.2.2.1), (7, vI v.2.2.2.2.2.2.1), (8, vI v.2.2.2.2.2.2.2)] [] w) (x0 : Nat) (x1 : Int32) (x2 : Int32) (x3 : Int32) (x5 : Int32) (x6 : Int32) (x7 : Int32) (x8 : Int32) (s0 : Int32) (w : Wd) : WPe rtI X (mX6_steams, 8, 0, 0, w0) 0 0 (j6_steams_75 k45 x0 x1 x2 x3 x5 x6 x7 x8 s0 w) 75 [(0, vR x0), (1, vI x1), (2, vI x2), (3, vI x3), (5, vI x5), (6, vI x6), (7, vI x7), (8, vI x8)] [vI s0] w := by
  unfold j6_steams_75
  refine WPe_istore (pc := 75) (ls' := [(9, vI s0), (0, vR x0), (1, vI x1), (2, vI x2), (3, vI x3), (5, vI x5), (6, vI x6), (7, vI x7), (8, vI x8)]) (dd dtX6_steams 44 rfl) (Nat.le_of_ble_eq_true rfl) rfl ?_
  refine WPe_iload (pc := 77) 6 (dd dtX6_steams 45 rfl) rfl ?_
  refine WPe_iload (pc := 79) 0 (dd dtX6_steams 46 rfl) rfl ?_
  refine WPe_if_eq (pc := 81) 88 (dd dtX6_steams 47 rfl) (by decide) (fun h25 => ?_) (fun h25 => ?_)
  · refine WPe_iconst (pc := 88) (0 : Int32) (dd dtX6_steams 50 rfl) (by decide) ?_
    refine WPe_sub [1, 2, 3, 4, 5, 7, 8, 0] rfl ?_
    exact wpj6_steams_89 X w0 k45 hk45 x0 x1 x2 x3 x5 x7 x8 s0 (0 : Int32) x6 w
  · refine WPe_iconst (pc := 84) (1 : Int32) (dd dtX6_steams 48 rfl) (by decide) ?_
    refine WPe_goto (pc := 85) 89 (dd dtX6_steams 49 rfl) (by decide) ?_
    refine WPe_sub [1, 2, 3, 4, 5, 7, 8, 0] rfl ?_
    exact wpj6_steams_89 X w0 k45 hk45 x0 x1 x2 x3 x5 x7 x8 s0 (1 : Int32) x6 w
noncomputable def b6_steams_45 (k45 : Nat × Int32 × Int32 × Int32 × Int32 × Int32 × Int32 × Int32 → Wd → Option (Int32 × Wd)) (v : Nat × Int32 × Int32 × Int32 × Int32 × Int32 × Int32 × Int32) (w : Wd) : Option (Int32 × Wd) :=
  if (99 : Int32) < v.2.2.2.2.2.2.2 then (ck (tg w v.1 = 6) (ck (tg w (wr w v.1 4) = 20 ∧ vp_in (2 : Int32) (ln w (wr w v.1 4))) (lw (sI w (wr w v.1 4) ((2 : Int32)).toNatClampNeg v.2.2.2.2.1) fun w14 => (if v.2.2.2.1 = (0 : Int32) then (some (v.2.2.2.2.2.1, w14)) else (some (v.2.2.2.2.2.2.1, w14)))))) else (ck (tg w v.1 = 6) (ck (tg w (wr w v.1 4) = 20 ∧ vp_in (2 : Int32) (ln w (wr w v.1 4))) (lw (sI w (wr w v.1 4) ((2 : Int32)).toNatClampNeg v.2.2.2.2.2.2.2) fun w19 => ((f6_unlike v.1 v.2.1 v.2.2.1 w19).bind fun z21 => (if z21.1 = (-1 : Int32) then (j6_steams_75 k45 v.1 v.2.1 v.2.2.1 v.2.2.2.1 v.2.2.2.2.1 v.2.2.2.2.2.1 v.2.2.2.2.2.2.1 v.2.2.2.2.2.2.2 (1 : Int32) z21.2) else (j6_steams_75 k45 v.1 v.2.1 v.2.2.1 v.2.2.2.1 v.2.2.2.2.1 v.2.2.2.2.2.1 v.2.2.2.2.2.2.1 v.2.2.2.2.2.2.2 (0 : Int32) z21.2))))))
theorem wpb6_steams_45 (X : CX) (w0 : Wd) (k45 : Nat × Int32 × Int32 × Int32 × Int32 × Int32 × Int32 × Int32 → Wd → Option (Int32 × Wd)) (hk45 : ∀ (v : Nat × Int32 × Int32 × Int32 × Int32 × Int32 × Int32 × Int32) (w : Wd), WPe rtI X (mX6_steams, 8, 0, 0, w0) 0 0 (k45 v w) 45 [(0, vR v.1), (1, vI v.2.1), (2, vI v.2.2.1), (3, vI v.2.2.2.1), (5, vI v.2.2.2.2.1), (6, vI v.2.2.2.2.2.1), (7, vI v.2.2.2.2.2.2.1), (8, vI v.2.2.2.2.2.2.2)] [] w) (v : Nat × Int32 × Int32 × Int32 × Int32 × Int32 × Int32 × Int32) (w : Wd) : WPe rtI X (mX6_steams, 8, 0, 0, w0) 0 0 (b6_steams_45 k45 v w) 45 [(0, vR v.1), (1, vI v.2.1), (2, vI v.2.2.1), (3, vI v.2.2.2.1), (5, vI v.2.2.2.2.1), (6, vI v.2.2.2.2.2.1), (7, vI v.2.2.2.2.2.2.1), (8, vI v.2.2.2.2.2.2.2)] [] w := by
  unfold b6_steams_45
  refine WPe_iload (pc := 45) 7 (dd dtX6_steams 27 rfl) rfl ?_
  refine WPe_bipush (pc := 47) (99 : Int32) (dd dtX6_steams 28 rfl) (by decide) ?_
  refine WPe_icmp_gt (pc := 49) 118 (dd dtX6_steams 29 rfl) (by decide) (fun h11 => ?_) (fun h11 => ?_)
  · refine WPe_aload_n (pc := 118) 0 (dd dtX6_steams 64 rfl) rfl ?_
    refine WPe_ck fun h12 => ?_
    refine WPe_getR (pc := 119) (t := 6) (C := RX6) (T := TX6) 4 (dd dtX6_steams 65 rfl) (shE h12) rfl (Nat.le_of_ble_eq_true rfl) rfl (bw_mem4 57 rfl rfl) ?_
    refine WPe_iconst (pc := 122) (2 : Int32) (dd dtX6_steams 66 rfl) (by decide) ?_
    refine WPe_iload (pc := 123) 4 (dd dtX6_steams 67 rfl) rfl ?_
    refine WPe_ck fun h13 => ?_
    refine WPe_iast (pc := 125) (dd dtX6_steams 68 rfl) (shE h13.1) h13.2 ?_
    refine WPe_lw fun w14 e15 => ?_
    refine WPe_iload_n (pc := 126) 3 (dd dtX6_steams 69 rfl) rfl ?_
    refine WPe_if_ne (pc := 127) 135 (dd dtX6_steams 70 rfl) (by decide) (fun h16 => ?_) (fun h16 => ?_)
    · refine WPe_iload (pc := 130) 5 (dd dtX6_steams 71 rfl) rfl ?_
      refine WPe_goto (pc := 132) 137 (dd dtX6_steams 72 rfl) (by decide) ?_
      exact WPe_ireturn (pc := 137) (dd dtX6_steams 74 rfl) rfl rfl ⟨(Nat.le_of_ble_eq_true rfl), (Nat.le_of_ble_eq_true rfl)⟩
    · refine WPe_iload (pc := 135) 6 (dd dtX6_steams 73 rfl) rfl ?_
      exact WPe_ireturn (pc := 137) (dd dtX6_steams 74 rfl) rfl rfl ⟨(Nat.le_of_ble_eq_true rfl), (Nat.le_of_ble_eq_true rfl)⟩
  · refine WPe_aload_n (pc := 52) 0 (dd dtX6_steams 30 rfl) rfl ?_
    refine WPe_ck fun h17 => ?_
    refine WPe_getR (pc := 53) (t := 6) (C := RX6) (T := TX6) 4 (dd dtX6_steams 31 rfl) (shE h17) rfl (Nat.le_of_ble_eq_true rfl) rfl (bw_mem4 57 rfl rfl) ?_
    refine WPe_iconst (pc := 56) (2 : Int32) (dd dtX6_steams 32 rfl) (by decide) ?_
    refine WPe_iload (pc := 57) 7 (dd dtX6_steams 33 rfl) rfl ?_
    refine WPe_ck fun h18 => ?_
    refine WPe_iast (pc := 59) (dd dtX6_steams 34 rfl) (shE h18.1) h18.2 ?_
    refine WPe_lw fun w19 e20 => ?_
    refine WPe_aload_n (pc := 60) 0 (dd dtX6_steams 35 rfl) rfl ?_
    refine WPe_iload_n (pc := 61) 1 (dd dtX6_steams 36 rfl) rfl ?_
    refine WPe_iload_n (pc := 62) 2 (dd dtX6_steams 37 rfl) rfl ?_
    refine WPe_callV (pc := 63) (rtc := rtI) (Mc := mX6_unlike) (d' := 7) (mc' := 0) (ms' := 0) [vI v.2.1, vI v.2.2.1] [] rfl (dd dtX6_steams 38 rfl) (okf6_unlike v.1 v.2.1 v.2.2.1 w19) moX6_unlike miX6_unlike (bw_mem5 112 rfl rfl) (Or.inl ⟨_, _, _, _, (shI e20 (shE h17)), rfl⟩) rfl (Nat.le_of_ble_eq_true rfl) ⟨(Nat.le_of_ble_eq_true rfl), (Nat.le_of_ble_eq_true rfl)⟩ ⟨(Nat.le_of_ble_eq_true rfl), (Nat.le_of_ble_eq_true rfl)⟩ (fun z21 h22 e23 => ?_)
    refine WPe_st (st2 := [vI z21.1]) rfl ?_
    refine WPe_iconst (pc := 66) (-1 : Int32) (dd dtX6_steams 39 rfl) (by decide) ?_
    refine WPe_icmp_ne (pc := 67) 74 (dd dtX6_steams 40 rfl) (by decide) (fun h24 => ?_) (fun h24 => ?_)
    · refine WPe_iconst (pc := 70) (1 : Int32) (dd dtX6_steams 41 rfl) (by decide) ?_
      refine WPe_goto (pc := 71) 75 (dd dtX6_steams 42 rfl) (by decide) ?_
      refine WPe_sub [0, 1, 2, 3, 4, 5, 6, 7] rfl ?_
      exact wpj6_steams_75 X w0 k45 hk45 v.1 v.2.1 v.2.2.1 v.2.2.2.1 v.2.2.2.2.1 v.2.2.2.2.2.1 v.2.2.2.2.2.2.1 v.2.2.2.2.2.2.2 (1 : Int32) z21.2
    · refine WPe_iconst (pc := 74) (0 : Int32) (dd dtX6_steams 43 rfl) (by decide) ?_
      refine WPe_sub [0, 1, 2, 3, 4, 5, 6, 7] rfl ?_
      exact wpj6_steams_75 X w0 k45 hk45 v.1 v.2.1 v.2.2.1 v.2.2.2.1 v.2.2.2.2.1 v.2.2.2.2.2.1 v.2.2.2.2.2.2.1 v.2.2.2.2.2.2.2 (0 : Int32) z21.2
theorem wplb6_steams_45 (X : CX) (w0 : Wd)  : ∀ (n9 : Nat) (v : Nat × Int32 × Int32 × Int32 × Int32 × Int32 × Int32 × Int32) (w : Wd), WPe rtI X (mX6_steams, 8, 0, 0, w0) 0 0 (loopF (b6_steams_45 ) n9 v w) 45 [(0, vR v.1), (1, vI v.2.1), (2, vI v.2.2.1), (3, vI v.2.2.2.1), (5, vI v.2.2.2.2.1), (6, vI v.2.2.2.2.2.1), (7, vI v.2.2.2.2.2.2.1), (8, vI v.2.2.2.2.2.2.2)] [] w :=
  WPe_loop (rt := rtI) (X := X) (M := (mX6_steams, 8, 0, 0, w0)) (fun v : Nat × Int32 × Int32 × Int32 × Int32 × Int32 × Int32 × Int32 => [(0, vR v.1), (1, vI v.2.1), (2, vI v.2.2.1), (3, vI v.2.2.2.1), (5, vI v.2.2.2.2.1), (6, vI v.2.2.2.2.2.1), (7, vI v.2.2.2.2.2.2.1), (8, vI v.2.2.2.2.2.2.2)]) (fun k hk v w => wpb6_steams_45 X w0  k hk v w)
noncomputable def f6_steams (x0 : Nat) (x1 : Int32) (x2 : Int32) (x3 : Int32) (w : Wd) : Option (Int32 × Wd) :=
  ck (tg w x0 = 6) ((f6_toldWrong x0 x1 x2 w).bind fun z2 => (if z2.1 = (0 : Int32) then ((f6_in x3 (0 : Int32) (1 : Int32) z2.2).bind fun z6 => (if z6.1 = (0 : Int32) then (some ((-7 : Int32), z6.2)) else (ck (tg z6.2 (wr z6.2 x0 4) = 20 ∧ vp_in (2 : Int32) (ln z6.2 (wr z6.2 x0 4))) (loopF (b6_steams_45) FU (x0, x1, x2, x3, (wi z6.2 (wr z6.2 x0 4) ((2 : Int32)).toNatClampNeg), (0 : Int32), (-1 : Int32), (0 : Int32)) z6.2)))) else (some (z2.1, z2.2))))
theorem wpf6_steams (X : CX) (w0 : Wd) (x0 : Nat) (x1 : Int32) (x2 : Int32) (x3 : Int32) (w : Wd) : WPe rtI X (mX6_steams, 8, 0, 0, w0) 0 0 (f6_steams x0 x1 x2 x3 w) 0 [(0, vR x0), (1, vI x1), (2, vI x2), (3, vI x3)] [] w := by
  unfold f6_steams
  refine WPe_aload_n (pc := 0) 0 (dd dtX6_steams 0 rfl) rfl ?_
  refine WPe_iload_n (pc := 1) 1 (dd dtX6_steams 1 rfl) rfl ?_
  refine WPe_iload_n (pc := 2) 2 (dd dtX6_steams 2 rfl) rfl ?_
  refine WPe_ck fun h1 => ?_
  refine WPe_callV (pc := 3) (rtc := rtI) (Mc := mX6_toldWrong) (d' := 3) (mc' := 0) (ms' := 0) [vI x1, vI x2] [] rfl (dd dtX6_steams 3 rfl) (okf6_toldWrong x0 x1 x2 w) moX6_toldWrong miX6_toldWrong (bw_mem5 104 rfl rfl) (Or.inl ⟨_, _, _, _, (shE h1), rfl⟩) rfl (Nat.le_of_ble_eq_true rfl) ⟨(Nat.le_of_ble_eq_true rfl), (Nat.le_of_ble_eq_true rfl)⟩ ⟨(Nat.le_of_ble_eq_true rfl), (Nat.le_of_ble_eq_true rfl)⟩ (fun z2 h3 e4 => ?_)
  refine WPe_st (st2 := [vI z2.1]) rfl ?_
  refine WPe_istore (pc := 6) (ls' := [(4, vI z2.1), (0, vR x0), (1, vI x1), (2, vI x2), (3, vI x3)]) (dd dtX6_steams 4 rfl) (Nat.le_of_ble_eq_true rfl) rfl ?_
  refine WPe_iload (pc := 8) 0 (dd dtX6_steams 5 rfl) rfl ?_
  refine WPe_if_eq (pc := 10) 16 (dd dtX6_steams 6 rfl) (by decide) (fun h5 => ?_) (fun h5 => ?_)
  · refine WPe_iload_n (pc := 16) 4 (dd dtX6_steams 9 rfl) rfl ?_
    refine WPe_iconst (pc := 17) (0 : Int32) (dd dtX6_steams 10 rfl) (by decide) ?_
    refine WPe_iconst (pc := 18) (1 : Int32) (dd dtX6_steams 11 rfl) (by decide) ?_
    refine WPe_callS (pc := 19) (rtc := rtI) (Mc := mX6_in) (d' := 1) (mc' := 0) (ms' := 0) [vI x3, vI (0 : Int32), vI (1 : Int32)] [] rfl (dd dtX6_steams 12 rfl) (okf6_in x3 (0 : Int32) (1 : Int32) z2.2) moX6_in msX6_in (bw_mem4 14 rfl rfl) rfl (Nat.le_of_ble_eq_true rfl) ⟨(Nat.le_of_ble_eq_true rfl), (Nat.le_of_ble_eq_true rfl)⟩ ⟨(Nat.le_of_ble_eq_true rfl), (Nat.le_of_ble_eq_true rfl)⟩ (fun z6 h7 e8 => ?_)
    refine WPe_st (st2 := [vI z6.1]) rfl ?_
    refine WPe_if_ne (pc := 22) 28 (dd dtX6_steams 13 rfl) (by decide) (fun h9 => ?_) (fun h9 => ?_)
    · refine WPe_bipush (pc := 25) (-7 : Int32) (dd dtX6_steams 14 rfl) (by decide) ?_
      exact WPe_ireturn (pc := 27) (dd dtX6_steams 15 rfl) rfl rfl ⟨(Nat.le_of_ble_eq_true rfl), (Nat.le_of_ble_eq_true rfl)⟩
    · refine WPe_aload_n (pc := 28) 1 (dd dtX6_steams 16 rfl) rfl ?_
      refine WPe_getR (pc := 29) (t := 6) (C := RX6) (T := TX6) 4 (dd dtX6_steams 17 rfl) (e8.at (e4.at (shE h1) (by decide)) (by decide)) rfl (Nat.le_of_ble_eq_true rfl) rfl (bw_mem4 57 rfl rfl) ?_
      refine WPe_iconst (pc := 32) (2 : Int32) (dd dtX6_steams 18 rfl) (by decide) ?_
      refine WPe_ck fun h10 => ?_
      refine WPe_iald (pc := 33) (dd dtX6_steams 19 rfl) (shE h10.1) h10.2 ?_
      refine WPe_istore (pc := 34) (ls' := [(5, vI (wi z6.2 (wr z6.2 x0 4) ((2 : Int32)).toNatClampNeg)), (4, vI z2.1), (0, vR x0), (1, vI x1), (2, vI x2), (3, vI x3)]) (dd dtX6_steams 20 rfl) (Nat.le_of_ble_eq_true rfl) rfl ?_
      refine WPe_iconst (pc := 36) (0 : Int32) (dd dtX6_steams 21 rfl) (by decide) ?_
      refine WPe_istore (pc := 37) (ls' := [(6, vI (0 : Int32)), (5, vI (wi z6.2 (wr z6.2 x0 4) ((2 : Int32)).toNatClampNeg)), (4, vI z2.1), (0, vR x0), (1, vI x1), (2, vI x2), (3, vI x3)]) (dd dtX6_steams 22 rfl) (Nat.le_of_ble_eq_true rfl) rfl ?_
      refine WPe_iconst (pc := 39) (-1 : Int32) (dd dtX6_steams 23 rfl) (by decide) ?_
      refine WPe_istore (pc := 40) (ls' := [(7, vI (-1 : Int32)), (6, vI (0 : Int32)), (5, vI (wi z6.2 (wr z6.2 x0 4) ((2 : Int32)).toNatClampNeg)), (4, vI z2.1), (0, vR x0), (1, vI x1), (2, vI x2), (3, vI x3)]) (dd dtX6_steams 24 rfl) (Nat.le_of_ble_eq_true rfl) rfl ?_
      refine WPe_iconst (pc := 42) (0 : Int32) (dd dtX6_steams 25 rfl) (by decide) ?_
      refine WPe_istore (pc := 43) (ls' := [(8, vI (0 : Int32)), (7, vI (-1 : Int32)), (6, vI (0 : Int32)), (5, vI (wi z6.2 (wr z6.2 x0 4) ((2 : Int32)).toNatClampNeg)), (4, vI z2.1), (0, vR x0), (1, vI x1), (2, vI x2), (3, vI x3)]) (dd dtX6_steams 26 rfl) (Nat.le_of_ble_eq_true rfl) rfl ?_
      refine WPe_sub [5, 6, 7, 8, 3, 2, 1, 0] rfl ?_
      exact wplb6_steams_45 X w0  FU _ _
  · refine WPe_iload (pc := 13) 0 (dd dtX6_steams 7 rfl) rfl ?_
    exact WPe_ireturn (pc := 15) (dd dtX6_steams 8 rfl) rfl rfl ⟨(Nat.le_of_ble_eq_true rfl), (Nat.le_of_ble_eq_true rfl)⟩
theorem okf6_steams (x0 : Nat) (x1 : Int32) (x2 : Int32) (x3 : Int32) (w : Wd) : ∀ z, f6_steams x0 x1 x2 x3 w = some z → OkM mX6_steams 8 0 0 [vR x0, vI x1, vI x2, vI x3] w (rtI z.1) z.2 :=
  OkM.of (rt := rtI) moX6_steams (Nat.le_of_ble_eq_true rfl) (fun X => wpf6_steams X w x0 x1 x2 x3 w)
def tbX6_whose : List (Nat × Instr × Nat) := [(0, .aload_n 0, 1), (1, .iload_n 1, 1), (2, .invokevirtual 224, 3), (5, .istore_n 2, 1), (6, .iload_n 2, 1), (7, .ifCond .eq 5, 3), (10, .iload_n 2, 1), (11, .ireturn, 1), (12, .iconst 0, 1), (13, .istore_n 3, 1), (14, .iconst 0, 1), (15, .istore 4, 2), (17, .iload 4, 2), (19, .aload_n 0, 1), (20, .getfield 72, 3), (23, .if_icmp .ge 31, 3), (26, .iload_n 3, 1), (27, .aload_n 0, 1), (28, .iload_n 1, 1), (29, .iload 4, 2), (31, .invokevirtual 230, 3), (34, .iconst (-1), 1), (35, .if_icmp .ne 10, 3), (38, .iconst 1, 1), (39, .iload 4, 2), (41, .ishl, 1), (42, .goto 4, 3), (45, .iconst 0, 1), (46, .ior, 1), (47, .istore_n 3, 1), (48, .iinc 4 1, 3), (51, .goto (-34), 3), (54, .iload_n 3, 1), (55, .ireturn, 1)]
set_option maxRecDepth 20000 in
theorem dtX6_whose : ∀ x ∈ tbX6_whose, decode cX6_whose x.1 = .ok x.2 := by decide +kernel
noncomputable def j6_whose_46 (k17 : Nat × Int32 × Int32 × Int32 → Wd → Option (Int32 × Wd)) (x0 : Nat) (x1 : Int32) (x4 : Int32) (s0 : Int32) (s1 : Int32) (w : Wd) : Option (Int32 × Wd) :=
  k17 (x0, x1, (s1 ||| s0), (x4 + (1 : Int32))) w
theorem wpj6_whose_46 (X : CX) (w0 : Wd) (k17 : Nat × Int32 × Int32 × Int32 → Wd → Option (Int32 × Wd)) (hk17 : ∀ (v : Nat × Int32 × Int32 × Int32) (w : Wd), WPe rtI X (mX6_whose, 8, 0, 0, w0) 0 0 (k17 v w) 17 [(0, vR v.1), (1, vI v.2.1), (3, vI v.2.2.1), (4, vI v.2.2.2)] [] w) (x0 : Nat) (x1 : Int32) (x4 : Int32) (s0 : Int32) (s1 : Int32) (w : Wd) : WPe rtI X (mX6_whose, 8, 0, 0, w0) 0 0 (j6_whose_46 k17 x0 x1 x4 s0 s1 w) 46 [(0, vR x0), (1, vI x1), (4, vI x4)] [vI s0, vI s1] w := by
  unfold j6_whose_46
  refine WPe_ior (pc := 46) (dd dtX6_whose 28 rfl) ?_
  refine WPe_istore_n (pc := 47) (ls' := [(3, vI (s1 ||| s0)), (0, vR x0), (1, vI x1), (4, vI x4)]) (dd dtX6_whose 29 rfl) (Nat.le_of_ble_eq_true rfl) rfl ?_
  refine WPe_iinc (pc := 48) (ls' := [(4, vI (x4 + (1 : Int32))), (3, vI (s1 ||| s0)), (0, vR x0), (1, vI x1)]) 3 (x4 + (1 : Int32)) (dd dtX6_whose 30 rfl) rfl (congrArg (HAdd.hAdd _) (by decide : Int32.ofInt (1) = (1 : Int32))) (Nat.le_of_ble_eq_true rfl) rfl ?_
  refine WPe_goto (pc := 51) 17 (dd dtX6_whose 31 rfl) (by decide) ?_
  refine WPe_sub [2, 3, 1, 0] rfl ?_
  exact hk17 (x0, x1, (s1 ||| s0), (x4 + (1 : Int32))) w
noncomputable def b6_whose_17 (k17 : Nat × Int32 × Int32 × Int32 → Wd → Option (Int32 × Wd)) (v : Nat × Int32 × Int32 × Int32) (w : Wd) : Option (Int32 × Wd) :=
  ck (tg w v.1 = 6) (if (wi w v.1 0) ≤ v.2.2.2 then (some (v.2.2.1, w)) else ((f6_unlike v.1 v.2.1 v.2.2.2 w).bind fun z8 => (if z8.1 = (-1 : Int32) then (j6_whose_46 k17 v.1 v.2.1 v.2.2.2 ((1 : Int32) <<< (v.2.2.2 &&& 31)) v.2.2.1 z8.2) else (j6_whose_46 k17 v.1 v.2.1 v.2.2.2 (0 : Int32) v.2.2.1 z8.2))))
theorem wpb6_whose_17 (X : CX) (w0 : Wd) (k17 : Nat × Int32 × Int32 × Int32 → Wd → Option (Int32 × Wd)) (hk17 : ∀ (v : Nat × Int32 × Int32 × Int32) (w : Wd), WPe rtI X (mX6_whose, 8, 0, 0, w0) 0 0 (k17 v w) 17 [(0, vR v.1), (1, vI v.2.1), (3, vI v.2.2.1), (4, vI v.2.2.2)] [] w) (v : Nat × Int32 × Int32 × Int32) (w : Wd) : WPe rtI X (mX6_whose, 8, 0, 0, w0) 0 0 (b6_whose_17 k17 v w) 17 [(0, vR v.1), (1, vI v.2.1), (3, vI v.2.2.1), (4, vI v.2.2.2)] [] w := by
  unfold b6_whose_17
  refine WPe_iload (pc := 17) 3 (dd dtX6_whose 12 rfl) rfl ?_
  refine WPe_aload_n (pc := 19) 0 (dd dtX6_whose 13 rfl) rfl ?_
  refine WPe_ck fun h6 => ?_
  refine WPe_getI (pc := 20) (t := 6) (C := RX6) (T := TX6) 0 (dd dtX6_whose 14 rfl) (shE h6) rfl (Nat.le_of_ble_eq_true rfl) rfl (bw_mem4 53 rfl rfl) ?_
  refine WPe_icmp_ge (pc := 23) 54 (dd dtX6_whose 15 rfl) (by decide) (fun h7 => ?_) (fun h7 => ?_)
  · refine WPe_iload_n (pc := 54) 2 (dd dtX6_whose 32 rfl) rfl ?_
    exact WPe_ireturn (pc := 55) (dd dtX6_whose 33 rfl) rfl rfl ⟨(Nat.le_of_ble_eq_true rfl), (Nat.le_of_ble_eq_true rfl)⟩
  · refine WPe_iload_n (pc := 26) 2 (dd dtX6_whose 16 rfl) rfl ?_
    refine WPe_aload_n (pc := 27) 0 (dd dtX6_whose 17 rfl) rfl ?_
    refine WPe_iload_n (pc := 28) 1 (dd dtX6_whose 18 rfl) rfl ?_
    refine WPe_iload (pc := 29) 3 (dd dtX6_whose 19 rfl) rfl ?_
    refine WPe_callV (pc := 31) (rtc := rtI) (Mc := mX6_unlike) (d' := 7) (mc' := 0) (ms' := 0) [vI v.2.1, vI v.2.2.2] [vI v.2.2.1] rfl (dd dtX6_whose 20 rfl) (okf6_unlike v.1 v.2.1 v.2.2.2 w) moX6_unlike miX6_unlike (bw_mem5 112 rfl rfl) (Or.inl ⟨_, _, _, _, (shE h6), rfl⟩) rfl (Nat.le_of_ble_eq_true rfl) ⟨(Nat.le_of_ble_eq_true rfl), (Nat.le_of_ble_eq_true rfl)⟩ ⟨(Nat.le_of_ble_eq_true rfl), (Nat.le_of_ble_eq_true rfl)⟩ (fun z8 h9 e10 => ?_)
    refine WPe_st (st2 := [vI z8.1, vI v.2.2.1]) rfl ?_
    refine WPe_iconst (pc := 34) (-1 : Int32) (dd dtX6_whose 21 rfl) (by decide) ?_
    refine WPe_icmp_ne (pc := 35) 45 (dd dtX6_whose 22 rfl) (by decide) (fun h11 => ?_) (fun h11 => ?_)
    · refine WPe_iconst (pc := 38) (1 : Int32) (dd dtX6_whose 23 rfl) (by decide) ?_
      refine WPe_iload (pc := 39) 3 (dd dtX6_whose 24 rfl) rfl ?_
      refine WPe_ishl (pc := 41) (dd dtX6_whose 25 rfl) ?_
      refine WPe_goto (pc := 42) 46 (dd dtX6_whose 26 rfl) (by decide) ?_
      refine WPe_sub [0, 1, 3] rfl ?_
      exact wpj6_whose_46 X w0 k17 hk17 v.1 v.2.1 v.2.2.2 ((1 : Int32) <<< (v.2.2.2 &&& 31)) v.2.2.1 z8.2
    · refine WPe_iconst (pc := 45) (0 : Int32) (dd dtX6_whose 27 rfl) (by decide) ?_
      refine WPe_sub [0, 1, 3] rfl ?_
      exact wpj6_whose_46 X w0 k17 hk17 v.1 v.2.1 v.2.2.2 (0 : Int32) v.2.2.1 z8.2
theorem wplb6_whose_17 (X : CX) (w0 : Wd)  : ∀ (n9 : Nat) (v : Nat × Int32 × Int32 × Int32) (w : Wd), WPe rtI X (mX6_whose, 8, 0, 0, w0) 0 0 (loopF (b6_whose_17 ) n9 v w) 17 [(0, vR v.1), (1, vI v.2.1), (3, vI v.2.2.1), (4, vI v.2.2.2)] [] w :=
  WPe_loop (rt := rtI) (X := X) (M := (mX6_whose, 8, 0, 0, w0)) (fun v : Nat × Int32 × Int32 × Int32 => [(0, vR v.1), (1, vI v.2.1), (3, vI v.2.2.1), (4, vI v.2.2.2)]) (fun k hk v w => wpb6_whose_17 X w0  k hk v w)
noncomputable def f6_whose (x0 : Nat) (x1 : Int32) (w : Wd) : Option (Int32 × Wd) :=
  ck (tg w x0 = 6) ((f6_sheetWrong x0 x1 w).bind fun z2 => (if z2.1 = (0 : Int32) then (loopF (b6_whose_17) FU (x0, x1, (0 : Int32), (0 : Int32)) z2.2) else (some (z2.1, z2.2))))
theorem wpf6_whose (X : CX) (w0 : Wd) (x0 : Nat) (x1 : Int32) (w : Wd) : WPe rtI X (mX6_whose, 8, 0, 0, w0) 0 0 (f6_whose x0 x1 w) 0 [(0, vR x0), (1, vI x1)] [] w := by
  unfold f6_whose
  refine WPe_aload_n (pc := 0) 0 (dd dtX6_whose 0 rfl) rfl ?_
  refine WPe_iload_n (pc := 1) 1 (dd dtX6_whose 1 rfl) rfl ?_
  refine WPe_ck fun h1 => ?_
  refine WPe_callV (pc := 2) (rtc := rtI) (Mc := mX6_sheetWrong) (d' := 2) (mc' := 0) (ms' := 0) [vI x1] [] rfl (dd dtX6_whose 2 rfl) (okf6_sheetWrong x0 x1 w) moX6_sheetWrong miX6_sheetWrong (bw_mem5 108 rfl rfl) (Or.inl ⟨_, _, _, _, (shE h1), rfl⟩) rfl (Nat.le_of_ble_eq_true rfl) ⟨(Nat.le_of_ble_eq_true rfl), (Nat.le_of_ble_eq_true rfl)⟩ ⟨(Nat.le_of_ble_eq_true rfl), (Nat.le_of_ble_eq_true rfl)⟩ (fun z2 h3 e4 => ?_)
  refine WPe_st (st2 := [vI z2.1]) rfl ?_
  refine WPe_istore_n (pc := 5) (ls' := [(2, vI z2.1), (0, vR x0), (1, vI x1)]) (dd dtX6_whose 3 rfl) (Nat.le_of_ble_eq_true rfl) rfl ?_
  refine WPe_iload_n (pc := 6) 0 (dd dtX6_whose 4 rfl) rfl ?_
  refine WPe_if_eq (pc := 7) 12 (dd dtX6_whose 5 rfl) (by decide) (fun h5 => ?_) (fun h5 => ?_)
  · refine WPe_iconst (pc := 12) (0 : Int32) (dd dtX6_whose 8 rfl) (by decide) ?_
    refine WPe_istore_n (pc := 13) (ls' := [(3, vI (0 : Int32)), (2, vI z2.1), (0, vR x0), (1, vI x1)]) (dd dtX6_whose 9 rfl) (Nat.le_of_ble_eq_true rfl) rfl ?_
    refine WPe_iconst (pc := 14) (0 : Int32) (dd dtX6_whose 10 rfl) (by decide) ?_
    refine WPe_istore (pc := 15) (ls' := [(4, vI (0 : Int32)), (3, vI (0 : Int32)), (2, vI z2.1), (0, vR x0), (1, vI x1)]) (dd dtX6_whose 11 rfl) (Nat.le_of_ble_eq_true rfl) rfl ?_
    refine WPe_sub [3, 4, 1, 0] rfl ?_
    exact wplb6_whose_17 X w0  FU _ _
  · refine WPe_iload_n (pc := 10) 0 (dd dtX6_whose 6 rfl) rfl ?_
    exact WPe_ireturn (pc := 11) (dd dtX6_whose 7 rfl) rfl rfl ⟨(Nat.le_of_ble_eq_true rfl), (Nat.le_of_ble_eq_true rfl)⟩
theorem okf6_whose (x0 : Nat) (x1 : Int32) (w : Wd) : ∀ z, f6_whose x0 x1 w = some z → OkM mX6_whose 8 0 0 [vR x0, vI x1] w (rtI z.1) z.2 :=
  OkM.of (rt := rtI) moX6_whose (Nat.le_of_ble_eq_true rfl) (fun X => wpf6_whose X w x0 x1 w)
def tbX6_laws : List (Nat × Instr × Nat) := [(0, .aload_n 0, 1), (1, .iload_n 1, 1), (2, .iload_n 2, 1), (3, .invokevirtual 227, 3), (6, .istore_n 3, 1), (7, .iload_n 3, 1), (8, .ifCond .eq 5, 3), (11, .iload_n 3, 1), (12, .ireturn, 1), (13, .aload_n 0, 1), (14, .getfield 92, 3), (17, .istore 4, 2), (19, .iconst 0, 1), (20, .istore 5, 2), (22, .iconst 0, 1), (23, .istore 6, 2), (25, .iload 6, 2), (27, .aload_n 0, 1), (28, .getfield 89, 3), (31, .if_icmp .ge 38, 3), (34, .aload_n 0, 1), (35, .iload 6, 2), (37, .putfield 92, 3), (40, .iload 5, 2), (42, .aload_n 0, 1), (43, .iload_n 1, 1), (44, .iload_n 2, 1), (45, .invokevirtual 230, 3), (48, .iconst (-1), 1), (49, .if_icmp .ne 10, 3), (52, .iconst 1, 1), (53, .iload 6, 2), (55, .ishl, 1), (56, .goto 4, 3), (59, .iconst 0, 1), (60, .ior, 1), (61, .istore 5, 2), (63, .iinc 6 1, 3), (66, .goto (-41), 3), (69, .aload_n 0, 1), (70, .iload 4, 2), (72, .putfield 92, 3), (75, .iload 5, 2), (77, .ireturn, 1)]
set_option maxRecDepth 20000 in
theorem dtX6_laws : ∀ x ∈ tbX6_laws, decode cX6_laws x.1 = .ok x.2 := by decide +kernel
noncomputable def j6_laws_60 (k25 : Nat × Int32 × Int32 × Int32 × Int32 × Int32 → Wd → Option (Int32 × Wd)) (x0 : Nat) (x1 : Int32) (x2 : Int32) (x4 : Int32) (x6 : Int32) (s0 : Int32) (s1 : Int32) (w : Wd) : Option (Int32 × Wd) :=
  k25 (x0, x1, x2, x4, (s1 ||| s0), (x6 + (1 : Int32))) w
theorem wpj6_laws_60 (X : CX) (w0 : Wd) (k25 : Nat × Int32 × Int32 × Int32 × Int32 × Int32 → Wd → Option (Int32 × Wd)) (hk25 : ∀ (v : Nat × Int32 × Int32 × Int32 × Int32 × Int32) (w : Wd), WPe rtI X (mX6_laws, 8, 0, 0, w0) 0 0 (k25 v w) 25 [(0, vR v.1), (1, vI v.2.1), (2, vI v.2.2.1), (4, vI v.2.2.2.1), (5, vI v.2.2.2.2.1), (6, vI v.2.2.2.2.2)] [] w) (x0 : Nat) (x1 : Int32) (x2 : Int32) (x4 : Int32) (x6 : Int32) (s0 : Int32) (s1 : Int32) (w : Wd) : WPe rtI X (mX6_laws, 8, 0, 0, w0) 0 0 (j6_laws_60 k25 x0 x1 x2 x4 x6 s0 s1 w) 60 [(0, vR x0), (1, vI x1), (2, vI x2), (4, vI x4), (6, vI x6)] [vI s0, vI s1] w := by
  unfold j6_laws_60
  refine WPe_ior (pc := 60) (dd dtX6_laws 35 rfl) ?_
  refine WPe_istore (pc := 61) (ls' := [(5, vI (s1 ||| s0)), (0, vR x0), (1, vI x1), (2, vI x2), (4, vI x4), (6, vI x6)]) (dd dtX6_laws 36 rfl) (Nat.le_of_ble_eq_true rfl) rfl ?_
  refine WPe_iinc (pc := 63) (ls' := [(6, vI (x6 + (1 : Int32))), (5, vI (s1 ||| s0)), (0, vR x0), (1, vI x1), (2, vI x2), (4, vI x4)]) 5 (x6 + (1 : Int32)) (dd dtX6_laws 37 rfl) rfl (congrArg (HAdd.hAdd _) (by decide : Int32.ofInt (1) = (1 : Int32))) (Nat.le_of_ble_eq_true rfl) rfl ?_
  refine WPe_goto (pc := 66) 25 (dd dtX6_laws 38 rfl) (by decide) ?_
  refine WPe_sub [2, 3, 4, 5, 1, 0] rfl ?_
  exact hk25 (x0, x1, x2, x4, (s1 ||| s0), (x6 + (1 : Int32))) w
noncomputable def b6_laws_25 (k25 : Nat × Int32 × Int32 × Int32 × Int32 × Int32 → Wd → Option (Int32 × Wd)) (v : Nat × Int32 × Int32 × Int32 × Int32 × Int32) (w : Wd) : Option (Int32 × Wd) :=
  ck (tg w v.1 = 6) (if (wi w v.1 9) ≤ v.2.2.2.2.2 then (lw (sI w v.1 10 v.2.2.2.1) fun w8 => (some (v.2.2.2.2.1, w8))) else (lw (sI w v.1 10 v.2.2.2.2.2) fun w10 => ((f6_unlike v.1 v.2.1 v.2.2.1 w10).bind fun z12 => (if z12.1 = (-1 : Int32) then (j6_laws_60 k25 v.1 v.2.1 v.2.2.1 v.2.2.2.1 v.2.2.2.2.2 ((1 : Int32) <<< (v.2.2.2.2.2 &&& 31)) v.2.2.2.2.1 z12.2) else (j6_laws_60 k25 v.1 v.2.1 v.2.2.1 v.2.2.2.1 v.2.2.2.2.2 (0 : Int32) v.2.2.2.2.1 z12.2)))))
theorem wpb6_laws_25 (X : CX) (w0 : Wd) (k25 : Nat × Int32 × Int32 × Int32 × Int32 × Int32 → Wd → Option (Int32 × Wd)) (hk25 : ∀ (v : Nat × Int32 × Int32 × Int32 × Int32 × Int32) (w : Wd), WPe rtI X (mX6_laws, 8, 0, 0, w0) 0 0 (k25 v w) 25 [(0, vR v.1), (1, vI v.2.1), (2, vI v.2.2.1), (4, vI v.2.2.2.1), (5, vI v.2.2.2.2.1), (6, vI v.2.2.2.2.2)] [] w) (v : Nat × Int32 × Int32 × Int32 × Int32 × Int32) (w : Wd) : WPe rtI X (mX6_laws, 8, 0, 0, w0) 0 0 (b6_laws_25 k25 v w) 25 [(0, vR v.1), (1, vI v.2.1), (2, vI v.2.2.1), (4, vI v.2.2.2.1), (5, vI v.2.2.2.2.1), (6, vI v.2.2.2.2.2)] [] w := by
  unfold b6_laws_25
  refine WPe_iload (pc := 25) 5 (dd dtX6_laws 16 rfl) rfl ?_
  refine WPe_aload_n (pc := 27) 0 (dd dtX6_laws 17 rfl) rfl ?_
  refine WPe_ck fun h6 => ?_
  refine WPe_getI (pc := 28) (t := 6) (C := RX6) (T := TX6) 9 (dd dtX6_laws 18 rfl) (shE h6) rfl (Nat.le_of_ble_eq_true rfl) rfl (bw_mem4 62 rfl rfl) ?_
  refine WPe_icmp_ge (pc := 31) 69 (dd dtX6_laws 19 rfl) (by decide) (fun h7 => ?_) (fun h7 => ?_)
  · refine WPe_aload_n (pc := 69) 0 (dd dtX6_laws 39 rfl) rfl ?_
    refine WPe_iload (pc := 70) 3 (dd dtX6_laws 40 rfl) rfl ?_
    refine WPe_putI (pc := 72) (t := 6) (C := RX6) (T := TX6) 10 (dd dtX6_laws 41 rfl) (shE h6) rfl (Nat.le_of_ble_eq_true rfl) (bw_mem4 63 rfl rfl) (Or.inl rfl) rfl rfl rfl ?_
    refine WPe_lw fun w8 e9 => ?_
    refine WPe_iload (pc := 75) 4 (dd dtX6_laws 42 rfl) rfl ?_
    exact WPe_ireturn (pc := 77) (dd dtX6_laws 43 rfl) rfl rfl ⟨(Nat.le_of_ble_eq_true rfl), (Nat.le_of_ble_eq_true rfl)⟩
  · refine WPe_aload_n (pc := 34) 0 (dd dtX6_laws 20 rfl) rfl ?_
    refine WPe_iload (pc := 35) 5 (dd dtX6_laws 21 rfl) rfl ?_
    refine WPe_putI (pc := 37) (t := 6) (C := RX6) (T := TX6) 10 (dd dtX6_laws 22 rfl) (shE h6) rfl (Nat.le_of_ble_eq_true rfl) (bw_mem4 63 rfl rfl) (Or.inl rfl) rfl rfl rfl ?_
    refine WPe_lw fun w10 e11 => ?_
    refine WPe_iload (pc := 40) 4 (dd dtX6_laws 23 rfl) rfl ?_
    refine WPe_aload_n (pc := 42) 0 (dd dtX6_laws 24 rfl) rfl ?_
    refine WPe_iload_n (pc := 43) 1 (dd dtX6_laws 25 rfl) rfl ?_
    refine WPe_iload_n (pc := 44) 2 (dd dtX6_laws 26 rfl) rfl ?_
    refine WPe_callV (pc := 45) (rtc := rtI) (Mc := mX6_unlike) (d' := 7) (mc' := 0) (ms' := 0) [vI v.2.1, vI v.2.2.1] [vI v.2.2.2.2.1] rfl (dd dtX6_laws 27 rfl) (okf6_unlike v.1 v.2.1 v.2.2.1 w10) moX6_unlike miX6_unlike (bw_mem5 112 rfl rfl) (Or.inl ⟨_, _, _, _, (shI e11 (shE h6)), rfl⟩) rfl (Nat.le_of_ble_eq_true rfl) ⟨(Nat.le_of_ble_eq_true rfl), (Nat.le_of_ble_eq_true rfl)⟩ ⟨(Nat.le_of_ble_eq_true rfl), (Nat.le_of_ble_eq_true rfl)⟩ (fun z12 h13 e14 => ?_)
    refine WPe_st (st2 := [vI z12.1, vI v.2.2.2.2.1]) rfl ?_
    refine WPe_iconst (pc := 48) (-1 : Int32) (dd dtX6_laws 28 rfl) (by decide) ?_
    refine WPe_icmp_ne (pc := 49) 59 (dd dtX6_laws 29 rfl) (by decide) (fun h15 => ?_) (fun h15 => ?_)
    · refine WPe_iconst (pc := 52) (1 : Int32) (dd dtX6_laws 30 rfl) (by decide) ?_
      refine WPe_iload (pc := 53) 5 (dd dtX6_laws 31 rfl) rfl ?_
      refine WPe_ishl (pc := 55) (dd dtX6_laws 32 rfl) ?_
      refine WPe_goto (pc := 56) 60 (dd dtX6_laws 33 rfl) (by decide) ?_
      refine WPe_sub [0, 1, 2, 3, 5] rfl ?_
      exact wpj6_laws_60 X w0 k25 hk25 v.1 v.2.1 v.2.2.1 v.2.2.2.1 v.2.2.2.2.2 ((1 : Int32) <<< (v.2.2.2.2.2 &&& 31)) v.2.2.2.2.1 z12.2
    · refine WPe_iconst (pc := 59) (0 : Int32) (dd dtX6_laws 34 rfl) (by decide) ?_
      refine WPe_sub [0, 1, 2, 3, 5] rfl ?_
      exact wpj6_laws_60 X w0 k25 hk25 v.1 v.2.1 v.2.2.1 v.2.2.2.1 v.2.2.2.2.2 (0 : Int32) v.2.2.2.2.1 z12.2
theorem wplb6_laws_25 (X : CX) (w0 : Wd)  : ∀ (n9 : Nat) (v : Nat × Int32 × Int32 × Int32 × Int32 × Int32) (w : Wd), WPe rtI X (mX6_laws, 8, 0, 0, w0) 0 0 (loopF (b6_laws_25 ) n9 v w) 25 [(0, vR v.1), (1, vI v.2.1), (2, vI v.2.2.1), (4, vI v.2.2.2.1), (5, vI v.2.2.2.2.1), (6, vI v.2.2.2.2.2)] [] w :=
  WPe_loop (rt := rtI) (X := X) (M := (mX6_laws, 8, 0, 0, w0)) (fun v : Nat × Int32 × Int32 × Int32 × Int32 × Int32 => [(0, vR v.1), (1, vI v.2.1), (2, vI v.2.2.1), (4, vI v.2.2.2.1), (5, vI v.2.2.2.2.1), (6, vI v.2.2.2.2.2)]) (fun k hk v w => wpb6_laws_25 X w0  k hk v w)
noncomputable def f6_laws (x0 : Nat) (x1 : Int32) (x2 : Int32) (w : Wd) : Option (Int32 × Wd) :=
  ck (tg w x0 = 6) ((f6_toldWrong x0 x1 x2 w).bind fun z2 => (if z2.1 = (0 : Int32) then (loopF (b6_laws_25) FU (x0, x1, x2, (wi z2.2 x0 10), (0 : Int32), (0 : Int32)) z2.2) else (some (z2.1, z2.2))))
theorem wpf6_laws (X : CX) (w0 : Wd) (x0 : Nat) (x1 : Int32) (x2 : Int32) (w : Wd) : WPe rtI X (mX6_laws, 8, 0, 0, w0) 0 0 (f6_laws x0 x1 x2 w) 0 [(0, vR x0), (1, vI x1), (2, vI x2)] [] w := by
  unfold f6_laws
  refine WPe_aload_n (pc := 0) 0 (dd dtX6_laws 0 rfl) rfl ?_
  refine WPe_iload_n (pc := 1) 1 (dd dtX6_laws 1 rfl) rfl ?_
  refine WPe_iload_n (pc := 2) 2 (dd dtX6_laws 2 rfl) rfl ?_
  refine WPe_ck fun h1 => ?_
  refine WPe_callV (pc := 3) (rtc := rtI) (Mc := mX6_toldWrong) (d' := 3) (mc' := 0) (ms' := 0) [vI x1, vI x2] [] rfl (dd dtX6_laws 3 rfl) (okf6_toldWrong x0 x1 x2 w) moX6_toldWrong miX6_toldWrong (bw_mem5 104 rfl rfl) (Or.inl ⟨_, _, _, _, (shE h1), rfl⟩) rfl (Nat.le_of_ble_eq_true rfl) ⟨(Nat.le_of_ble_eq_true rfl), (Nat.le_of_ble_eq_true rfl)⟩ ⟨(Nat.le_of_ble_eq_true rfl), (Nat.le_of_ble_eq_true rfl)⟩ (fun z2 h3 e4 => ?_)
  refine WPe_st (st2 := [vI z2.1]) rfl ?_
  refine WPe_istore_n (pc := 6) (ls' := [(3, vI z2.1), (0, vR x0), (1, vI x1), (2, vI x2)]) (dd dtX6_laws 4 rfl) (Nat.le_of_ble_eq_true rfl) rfl ?_
  refine WPe_iload_n (pc := 7) 0 (dd dtX6_laws 5 rfl) rfl ?_
  refine WPe_if_eq (pc := 8) 13 (dd dtX6_laws 6 rfl) (by decide) (fun h5 => ?_) (fun h5 => ?_)
  · refine WPe_aload_n (pc := 13) 1 (dd dtX6_laws 9 rfl) rfl ?_
    refine WPe_getI (pc := 14) (t := 6) (C := RX6) (T := TX6) 10 (dd dtX6_laws 10 rfl) (e4.at (shE h1) (by decide)) rfl (Nat.le_of_ble_eq_true rfl) rfl (bw_mem4 63 rfl rfl) ?_
    refine WPe_istore (pc := 17) (ls' := [(4, vI (wi z2.2 x0 10)), (3, vI z2.1), (0, vR x0), (1, vI x1), (2, vI x2)]) (dd dtX6_laws 11 rfl) (Nat.le_of_ble_eq_true rfl) rfl ?_
    refine WPe_iconst (pc := 19) (0 : Int32) (dd dtX6_laws 12 rfl) (by decide) ?_
    refine WPe_istore (pc := 20) (ls' := [(5, vI (0 : Int32)), (4, vI (wi z2.2 x0 10)), (3, vI z2.1), (0, vR x0), (1, vI x1), (2, vI x2)]) (dd dtX6_laws 13 rfl) (Nat.le_of_ble_eq_true rfl) rfl ?_
    refine WPe_iconst (pc := 22) (0 : Int32) (dd dtX6_laws 14 rfl) (by decide) ?_
    refine WPe_istore (pc := 23) (ls' := [(6, vI (0 : Int32)), (5, vI (0 : Int32)), (4, vI (wi z2.2 x0 10)), (3, vI z2.1), (0, vR x0), (1, vI x1), (2, vI x2)]) (dd dtX6_laws 15 rfl) (Nat.le_of_ble_eq_true rfl) rfl ?_
    refine WPe_sub [4, 5, 6, 2, 1, 0] rfl ?_
    exact wplb6_laws_25 X w0  FU _ _
  · refine WPe_iload_n (pc := 11) 0 (dd dtX6_laws 7 rfl) rfl ?_
    exact WPe_ireturn (pc := 12) (dd dtX6_laws 8 rfl) rfl rfl ⟨(Nat.le_of_ble_eq_true rfl), (Nat.le_of_ble_eq_true rfl)⟩
theorem okf6_laws (x0 : Nat) (x1 : Int32) (x2 : Int32) (w : Wd) : ∀ z, f6_laws x0 x1 x2 w = some z → OkM mX6_laws 8 0 0 [vR x0, vI x1, vI x2] w (rtI z.1) z.2 :=
  OkM.of (rt := rtI) moX6_laws (Nat.le_of_ble_eq_true rfl) (fun X => wpf6_laws X w x0 x1 x2 w)
def tbX6_film : List (Nat × Instr × Nat) := [(0, .iload_n 1, 1), (1, .iconst 0, 1), (2, .iconst 3, 1), (3, .invokestatic 75, 3), (6, .ifCond .ne 6, 3), (9, .bipush (-2), 2), (11, .ireturn, 1), (12, .aload_n 0, 1), (13, .iload_n 2, 1), (14, .invokevirtual 164, 3), (17, .ifCond .ne 6, 3), (20, .bipush (-5), 2), (22, .ireturn, 1), (23, .iload_n 3, 1), (24, .iconst 0, 1), (25, .bipush 20, 2), (27, .invokestatic 75, 3), (30, .ifCond .ne 6, 3), (33, .bipush (-7), 2), (35, .ireturn, 1), (36, .aload_n 0, 1), (37, .getfield 37, 3), (40, .iload_n 1, 1), (41, .iconst 1, 1), (42, .iastore, 1), (43, .aload_n 0, 1), (44, .getfield 40, 3), (47, .iload_n 1, 1), (48, .iload_n 3, 1), (49, .iastore, 1), (50, .aload_n 0, 1), (51, .invokevirtual 197, 3), (54, .iconst 0, 1), (55, .istore 4, 2), (57, .iload 4, 2), (59, .bipush 40, 2), (61, .if_icmp .ge 55, 3), (64, .aload_n 0, 1), (65, .getfield 43, 3), (68, .bipush 40, 2), (70, .iload_n 1, 1), (71, .imul, 1), (72, .iload 4, 2), (74, .iadd, 1), (75, .iconst 0, 1), (76, .iastore, 1), (77, .iload 4, 2), (79, .iload_n 3, 1), (80, .if_icmp .ge 30, 3), (83, .aload_n 0, 1), (84, .invokevirtual 191, 3), (87, .pop, 1), (88, .aload_n 0, 1), (89, .getfield 43, 3), (92, .bipush 40, 2), (94, .iload_n 1, 1), (95, .imul, 1), (96, .iload 4, 2), (98, .iadd, 1), (99, .aload_n 0, 1), (100, .getfield 16, 3), (103, .iconst 3, 1), (104, .iload_n 2, 1), (105, .imul, 1), (106, .iconst 1, 1), (107, .iadd, 1), (108, .iaload, 1), (109, .iastore, 1), (110, .iinc 4 1, 3), (113, .goto (-56), 3), (116, .aload_n 0, 1), (117, .invokevirtual 206, 3), (120, .iload_n 3, 1), (121, .ireturn, 1)]
set_option maxRecDepth 20000 in
theorem dtX6_film : ∀ x ∈ tbX6_film, decode cX6_film x.1 = .ok x.2 := by decide +kernel
noncomputable def j6_film_110 (k57 : Nat × Int32 × Int32 × Int32 × Int32 → Wd → Option (Int32 × Wd)) (x0 : Nat) (x1 : Int32) (x2 : Int32) (x3 : Int32) (x4 : Int32) (w : Wd) : Option (Int32 × Wd) :=
  k57 (x0, x1, x2, x3, (x4 + (1 : Int32))) w
theorem wpj6_film_110 (X : CX) (w0 : Wd) (k57 : Nat × Int32 × Int32 × Int32 × Int32 → Wd → Option (Int32 × Wd)) (hk57 : ∀ (v : Nat × Int32 × Int32 × Int32 × Int32) (w : Wd), WPe rtI X (mX6_film, 7, 0, 0, w0) 0 0 (k57 v w) 57 [(0, vR v.1), (1, vI v.2.1), (2, vI v.2.2.1), (3, vI v.2.2.2.1), (4, vI v.2.2.2.2)] [] w) (x0 : Nat) (x1 : Int32) (x2 : Int32) (x3 : Int32) (x4 : Int32) (w : Wd) : WPe rtI X (mX6_film, 7, 0, 0, w0) 0 0 (j6_film_110 k57 x0 x1 x2 x3 x4 w) 110 [(0, vR x0), (1, vI x1), (2, vI x2), (3, vI x3), (4, vI x4)] [] w := by
  unfold j6_film_110
  refine WPe_iinc (pc := 110) (ls' := [(4, vI (x4 + (1 : Int32))), (0, vR x0), (1, vI x1), (2, vI x2), (3, vI x3)]) 4 (x4 + (1 : Int32)) (dd dtX6_film 68 rfl) rfl (congrArg (HAdd.hAdd _) (by decide : Int32.ofInt (1) = (1 : Int32))) (Nat.le_of_ble_eq_true rfl) rfl ?_
  refine WPe_goto (pc := 113) 57 (dd dtX6_film 69 rfl) (by decide) ?_
  refine WPe_sub [1, 2, 3, 4, 0] rfl ?_
  exact hk57 (x0, x1, x2, x3, (x4 + (1 : Int32))) w
noncomputable def b6_film_57 (k57 : Nat × Int32 × Int32 × Int32 × Int32 → Wd → Option (Int32 × Wd)) (v : Nat × Int32 × Int32 × Int32 × Int32) (w : Wd) : Option (Int32 × Wd) :=
  if (40 : Int32) ≤ v.2.2.2.2 then (ck (tg w v.1 = 6) ((f6_lays v.1 w).bind fun z25 => (some (v.2.2.2.1, z25.2)))) else (ck (tg w v.1 = 6) (ck (tg w (wr w v.1 16) = 20 ∧ vp_in (((40 : Int32) * v.2.1) + v.2.2.2.2) (ln w (wr w v.1 16))) (lw (sI w (wr w v.1 16) ((((40 : Int32) * v.2.1) + v.2.2.2.2)).toNatClampNeg (0 : Int32)) fun w30 => (if v.2.2.2.1 ≤ v.2.2.2.2 then (j6_film_110 k57 v.1 v.2.1 v.2.2.1 v.2.2.2.1 v.2.2.2.2 w30) else ((f6_minuteOf v.1 w30).bind fun z33 => (ck (tg z33.2 (wr z33.2 v.1 3) = 20 ∧ vp_in (((3 : Int32) * v.2.2.1) + (1 : Int32)) (ln z33.2 (wr z33.2 v.1 3))) (ck (tg z33.2 (wr z33.2 v.1 16) = 20 ∧ vp_in (((40 : Int32) * v.2.1) + v.2.2.2.2) (ln z33.2 (wr z33.2 v.1 16))) (lw (sI z33.2 (wr z33.2 v.1 16) ((((40 : Int32) * v.2.1) + v.2.2.2.2)).toNatClampNeg (wi z33.2 (wr z33.2 v.1 3) ((((3 : Int32) * v.2.2.1) + (1 : Int32))).toNatClampNeg)) fun w38 => (j6_film_110 k57 v.1 v.2.1 v.2.2.1 v.2.2.2.1 v.2.2.2.2 w38)))))))))
theorem wpb6_film_57 (X : CX) (w0 : Wd) (k57 : Nat × Int32 × Int32 × Int32 × Int32 → Wd → Option (Int32 × Wd)) (hk57 : ∀ (v : Nat × Int32 × Int32 × Int32 × Int32) (w : Wd), WPe rtI X (mX6_film, 7, 0, 0, w0) 0 0 (k57 v w) 57 [(0, vR v.1), (1, vI v.2.1), (2, vI v.2.2.1), (3, vI v.2.2.2.1), (4, vI v.2.2.2.2)] [] w) (v : Nat × Int32 × Int32 × Int32 × Int32) (w : Wd) : WPe rtI X (mX6_film, 7, 0, 0, w0) 0 0 (b6_film_57 k57 v w) 57 [(0, vR v.1), (1, vI v.2.1), (2, vI v.2.2.1), (3, vI v.2.2.2.1), (4, vI v.2.2.2.2)] [] w := by
  unfold b6_film_57
  refine WPe_iload (pc := 57) 4 (dd dtX6_film 34 rfl) rfl ?_
  refine WPe_bipush (pc := 59) (40 : Int32) (dd dtX6_film 35 rfl) (by decide) ?_
  refine WPe_icmp_ge (pc := 61) 116 (dd dtX6_film 36 rfl) (by decide) (fun h23 => ?_) (fun h23 => ?_)
  · refine WPe_aload_n (pc := 116) 0 (dd dtX6_film 70 rfl) rfl ?_
    refine WPe_ck fun h24 => ?_
    refine WPe_callV (pc := 117) (rtc := rtV) (Mc := mX6_lays) (d' := 1) (mc' := 0) (ms' := 0) [] [] rfl (dd dtX6_film 71 rfl) (okf6_lays v.1 w) moX6_lays miX6_lays (bw_mem5 48 rfl rfl) (Or.inl ⟨_, _, _, _, (shE h24), rfl⟩) rfl (Nat.le_of_ble_eq_true rfl) ⟨(Nat.le_of_ble_eq_true rfl), (Nat.le_of_ble_eq_true rfl)⟩ ⟨(Nat.le_of_ble_eq_true rfl), (Nat.le_of_ble_eq_true rfl)⟩ (fun z25 h26 e27 => ?_)
    refine WPe_st (st2 := []) rfl ?_
    refine WPe_iload_n (pc := 120) 3 (dd dtX6_film 72 rfl) rfl ?_
    exact WPe_ireturn (pc := 121) (dd dtX6_film 73 rfl) rfl rfl ⟨(Nat.le_of_ble_eq_true rfl), (Nat.le_of_ble_eq_true rfl)⟩
  · refine WPe_aload_n (pc := 64) 0 (dd dtX6_film 37 rfl) rfl ?_
    refine WPe_ck fun h28 => ?_
    refine WPe_getR (pc := 65) (t := 6) (C := RX6) (T := TX6) 16 (dd dtX6_film 38 rfl) (shE h28) rfl (Nat.le_of_ble_eq_true rfl) rfl (bw_mem4 69 rfl rfl) ?_
    refine WPe_bipush (pc := 68) (40 : Int32) (dd dtX6_film 39 rfl) (by decide) ?_
    refine WPe_iload_n (pc := 70) 1 (dd dtX6_film 40 rfl) rfl ?_
    refine WPe_imul (pc := 71) (dd dtX6_film 41 rfl) ?_
    refine WPe_iload (pc := 72) 4 (dd dtX6_film 42 rfl) rfl ?_
    refine WPe_iadd (pc := 74) (dd dtX6_film 43 rfl) ?_
    refine WPe_iconst (pc := 75) (0 : Int32) (dd dtX6_film 44 rfl) (by decide) ?_
    refine WPe_ck fun h29 => ?_
    refine WPe_iast (pc := 76) (dd dtX6_film 45 rfl) (shE h29.1) h29.2 ?_
    refine WPe_lw fun w30 e31 => ?_
    refine WPe_iload (pc := 77) 4 (dd dtX6_film 46 rfl) rfl ?_
    refine WPe_iload_n (pc := 79) 3 (dd dtX6_film 47 rfl) rfl ?_
    refine WPe_icmp_ge (pc := 80) 110 (dd dtX6_film 48 rfl) (by decide) (fun h32 => ?_) (fun h32 => ?_)
    · refine WPe_sub [0, 1, 2, 3, 4] rfl ?_
      exact wpj6_film_110 X w0 k57 hk57 v.1 v.2.1 v.2.2.1 v.2.2.2.1 v.2.2.2.2 w30
    · refine WPe_aload_n (pc := 83) 0 (dd dtX6_film 49 rfl) rfl ?_
      refine WPe_callV (pc := 84) (rtc := rtI) (Mc := mX6_minuteOf) (d' := 6) (mc' := 0) (ms' := 0) [] [] rfl (dd dtX6_film 50 rfl) (okf6_minuteOf v.1 w30) moX6_minuteOf miX6_minuteOf (bw_mem5 20 rfl rfl) (Or.inl ⟨_, _, _, _, (shI e31 (shE h28)), rfl⟩) rfl (Nat.le_of_ble_eq_true rfl) ⟨(Nat.le_of_ble_eq_true rfl), (Nat.le_of_ble_eq_true rfl)⟩ ⟨(Nat.le_of_ble_eq_true rfl), (Nat.le_of_ble_eq_true rfl)⟩ (fun z33 h34 e35 => ?_)
      refine WPe_st (st2 := [vI z33.1]) rfl ?_
      refine WPe_pop (pc := 87) (dd dtX6_film 51 rfl) rfl ?_
      refine WPe_aload_n (pc := 88) 0 (dd dtX6_film 52 rfl) rfl ?_
      refine WPe_getR (pc := 89) (t := 6) (C := RX6) (T := TX6) 16 (dd dtX6_film 53 rfl) (e35.at (shI e31 (shE h28)) (by decide)) rfl (Nat.le_of_ble_eq_true rfl) rfl (bw_mem4 69 rfl rfl) ?_
      refine WPe_bipush (pc := 92) (40 : Int32) (dd dtX6_film 54 rfl) (by decide) ?_
      refine WPe_iload_n (pc := 94) 1 (dd dtX6_film 55 rfl) rfl ?_
      refine WPe_imul (pc := 95) (dd dtX6_film 56 rfl) ?_
      refine WPe_iload (pc := 96) 4 (dd dtX6_film 57 rfl) rfl ?_
      refine WPe_iadd (pc := 98) (dd dtX6_film 58 rfl) ?_
      refine WPe_aload_n (pc := 99) 0 (dd dtX6_film 59 rfl) rfl ?_
      refine WPe_getR (pc := 100) (t := 6) (C := RX6) (T := TX6) 3 (dd dtX6_film 60 rfl) (e35.at (shI e31 (shE h28)) (by decide)) rfl (Nat.le_of_ble_eq_true rfl) rfl (bw_mem4 56 rfl rfl) ?_
      refine WPe_iconst (pc := 103) (3 : Int32) (dd dtX6_film 61 rfl) (by decide) ?_
      refine WPe_iload_n (pc := 104) 2 (dd dtX6_film 62 rfl) rfl ?_
      refine WPe_imul (pc := 105) (dd dtX6_film 63 rfl) ?_
      refine WPe_iconst (pc := 106) (1 : Int32) (dd dtX6_film 64 rfl) (by decide) ?_
      refine WPe_iadd (pc := 107) (dd dtX6_film 65 rfl) ?_
      refine WPe_ck fun h36 => ?_
      refine WPe_iald (pc := 108) (dd dtX6_film 66 rfl) (shE h36.1) h36.2 ?_
      refine WPe_ck fun h37 => ?_
      refine WPe_iast (pc := 109) (dd dtX6_film 67 rfl) (shE h37.1) h37.2 ?_
      refine WPe_lw fun w38 e39 => ?_
      refine WPe_sub [0, 1, 2, 3, 4] rfl ?_
      exact wpj6_film_110 X w0 k57 hk57 v.1 v.2.1 v.2.2.1 v.2.2.2.1 v.2.2.2.2 w38
theorem wplb6_film_57 (X : CX) (w0 : Wd)  : ∀ (n9 : Nat) (v : Nat × Int32 × Int32 × Int32 × Int32) (w : Wd), WPe rtI X (mX6_film, 7, 0, 0, w0) 0 0 (loopF (b6_film_57 ) n9 v w) 57 [(0, vR v.1), (1, vI v.2.1), (2, vI v.2.2.1), (3, vI v.2.2.2.1), (4, vI v.2.2.2.2)] [] w :=
  WPe_loop (rt := rtI) (X := X) (M := (mX6_film, 7, 0, 0, w0)) (fun v : Nat × Int32 × Int32 × Int32 × Int32 => [(0, vR v.1), (1, vI v.2.1), (2, vI v.2.2.1), (3, vI v.2.2.2.1), (4, vI v.2.2.2.2)]) (fun k hk v w => wpb6_film_57 X w0  k hk v w)
noncomputable def f6_film (x0 : Nat) (x1 : Int32) (x2 : Int32) (x3 : Int32) (w : Wd) : Option (Int32 × Wd) :=
  (f6_in x1 (0 : Int32) (3 : Int32) w).bind fun z1 => (if z1.1 = (0 : Int32) then (some ((-2 : Int32), z1.2)) else (ck (tg z1.2 x0 = 6) ((f6_isOne x0 x2 z1.2).bind fun z6 => (if z6.1 = (0 : Int32) then (some ((-5 : Int32), z6.2)) else ((f6_in x3 (0 : Int32) (20 : Int32) z6.2).bind fun z10 => (if z10.1 = (0 : Int32) then (some ((-7 : Int32), z10.2)) else (ck (tg z10.2 (wr z10.2 x0 14) = 20 ∧ vp_in x1 (ln z10.2 (wr z10.2 x0 14))) (lw (sI z10.2 (wr z10.2 x0 14) (x1).toNatClampNeg (1 : Int32)) fun w15 => (ck (tg w15 (wr w15 x0 15) = 20 ∧ vp_in x1 (ln w15 (wr w15 x0 15))) (lw (sI w15 (wr w15 x0 15) (x1).toNatClampNeg x3) fun w18 => ((f6_keeps x0 w18).bind fun z20 => (loopF (b6_film_57) FU (x0, x1, x2, x3, (0 : Int32)) z20.2))))))))))))
theorem wpf6_film (X : CX) (w0 : Wd) (x0 : Nat) (x1 : Int32) (x2 : Int32) (x3 : Int32) (w : Wd) : WPe rtI X (mX6_film, 7, 0, 0, w0) 0 0 (f6_film x0 x1 x2 x3 w) 0 [(0, vR x0), (1, vI x1), (2, vI x2), (3, vI x3)] [] w := by
  unfold f6_film
  refine WPe_iload_n (pc := 0) 1 (dd dtX6_film 0 rfl) rfl ?_
  refine WPe_iconst (pc := 1) (0 : Int32) (dd dtX6_film 1 rfl) (by decide) ?_
  refine WPe_iconst (pc := 2) (3 : Int32) (dd dtX6_film 2 rfl) (by decide) ?_
  refine WPe_callS (pc := 3) (rtc := rtI) (Mc := mX6_in) (d' := 1) (mc' := 0) (ms' := 0) [vI x1, vI (0 : Int32), vI (3 : Int32)] [] rfl (dd dtX6_film 3 rfl) (okf6_in x1 (0 : Int32) (3 : Int32) w) moX6_in msX6_in (bw_mem4 14 rfl rfl) rfl (Nat.le_of_ble_eq_true rfl) ⟨(Nat.le_of_ble_eq_true rfl), (Nat.le_of_ble_eq_true rfl)⟩ ⟨(Nat.le_of_ble_eq_true rfl), (Nat.le_of_ble_eq_true rfl)⟩ (fun z1 h2 e3 => ?_)
  refine WPe_st (st2 := [vI z1.1]) rfl ?_
  refine WPe_if_ne (pc := 6) 12 (dd dtX6_film 4 rfl) (by decide) (fun h4 => ?_) (fun h4 => ?_)
  · refine WPe_bipush (pc := 9) (-2 : Int32) (dd dtX6_film 5 rfl) (by decide) ?_
    exact WPe_ireturn (pc := 11) (dd dtX6_film 6 rfl) rfl rfl ⟨(Nat.le_of_ble_eq_true rfl), (Nat.le_of_ble_eq_true rfl)⟩
  · refine WPe_aload_n (pc := 12) 0 (dd dtX6_film 7 rfl) rfl ?_
    refine WPe_iload_n (pc := 13) 2 (dd dtX6_film 8 rfl) rfl ?_
    refine WPe_ck fun h5 => ?_
    refine WPe_callV (pc := 14) (rtc := rtI) (Mc := mX6_isOne) (d' := 2) (mc' := 0) (ms' := 0) [vI x2] [] rfl (dd dtX6_film 9 rfl) (okf6_isOne x0 x2 z1.2) moX6_isOne miX6_isOne (bw_mem4 190 rfl rfl) (Or.inl ⟨_, _, _, _, (shE h5), rfl⟩) rfl (Nat.le_of_ble_eq_true rfl) ⟨(Nat.le_of_ble_eq_true rfl), (Nat.le_of_ble_eq_true rfl)⟩ ⟨(Nat.le_of_ble_eq_true rfl), (Nat.le_of_ble_eq_true rfl)⟩ (fun z6 h7 e8 => ?_)
    refine WPe_st (st2 := [vI z6.1]) rfl ?_
    refine WPe_if_ne (pc := 17) 23 (dd dtX6_film 10 rfl) (by decide) (fun h9 => ?_) (fun h9 => ?_)
    · refine WPe_bipush (pc := 20) (-5 : Int32) (dd dtX6_film 11 rfl) (by decide) ?_
      exact WPe_ireturn (pc := 22) (dd dtX6_film 12 rfl) rfl rfl ⟨(Nat.le_of_ble_eq_true rfl), (Nat.le_of_ble_eq_true rfl)⟩
    · refine WPe_iload_n (pc := 23) 3 (dd dtX6_film 13 rfl) rfl ?_
      refine WPe_iconst (pc := 24) (0 : Int32) (dd dtX6_film 14 rfl) (by decide) ?_
      refine WPe_bipush (pc := 25) (20 : Int32) (dd dtX6_film 15 rfl) (by decide) ?_
      refine WPe_callS (pc := 27) (rtc := rtI) (Mc := mX6_in) (d' := 1) (mc' := 0) (ms' := 0) [vI x3, vI (0 : Int32), vI (20 : Int32)] [] rfl (dd dtX6_film 16 rfl) (okf6_in x3 (0 : Int32) (20 : Int32) z6.2) moX6_in msX6_in (bw_mem4 14 rfl rfl) rfl (Nat.le_of_ble_eq_true rfl) ⟨(Nat.le_of_ble_eq_true rfl), (Nat.le_of_ble_eq_true rfl)⟩ ⟨(Nat.le_of_ble_eq_true rfl), (Nat.le_of_ble_eq_true rfl)⟩ (fun z10 h11 e12 => ?_)
      refine WPe_st (st2 := [vI z10.1]) rfl ?_
      refine WPe_if_ne (pc := 30) 36 (dd dtX6_film 17 rfl) (by decide) (fun h13 => ?_) (fun h13 => ?_)
      · refine WPe_bipush (pc := 33) (-7 : Int32) (dd dtX6_film 18 rfl) (by decide) ?_
        exact WPe_ireturn (pc := 35) (dd dtX6_film 19 rfl) rfl rfl ⟨(Nat.le_of_ble_eq_true rfl), (Nat.le_of_ble_eq_true rfl)⟩
      · refine WPe_aload_n (pc := 36) 0 (dd dtX6_film 20 rfl) rfl ?_
        refine WPe_getR (pc := 37) (t := 6) (C := RX6) (T := TX6) 14 (dd dtX6_film 21 rfl) (e12.at (e8.at (shE h5) (by decide)) (by decide)) rfl (Nat.le_of_ble_eq_true rfl) rfl (bw_mem4 67 rfl rfl) ?_
        refine WPe_iload_n (pc := 40) 1 (dd dtX6_film 22 rfl) rfl ?_
        refine WPe_iconst (pc := 41) (1 : Int32) (dd dtX6_film 23 rfl) (by decide) ?_
        refine WPe_ck fun h14 => ?_
        refine WPe_iast (pc := 42) (dd dtX6_film 24 rfl) (shE h14.1) h14.2 ?_
        refine WPe_lw fun w15 e16 => ?_
        refine WPe_aload_n (pc := 43) 0 (dd dtX6_film 25 rfl) rfl ?_
        refine WPe_getR (pc := 44) (t := 6) (C := RX6) (T := TX6) 15 (dd dtX6_film 26 rfl) (shI e16 (e12.at (e8.at (shE h5) (by decide)) (by decide))) rfl (Nat.le_of_ble_eq_true rfl) rfl (bw_mem4 68 rfl rfl) ?_
        refine WPe_iload_n (pc := 47) 1 (dd dtX6_film 27 rfl) rfl ?_
        refine WPe_iload_n (pc := 48) 3 (dd dtX6_film 28 rfl) rfl ?_
        refine WPe_ck fun h17 => ?_
        refine WPe_iast (pc := 49) (dd dtX6_film 29 rfl) (shE h17.1) h17.2 ?_
        refine WPe_lw fun w18 e19 => ?_
        refine WPe_aload_n (pc := 50) 0 (dd dtX6_film 30 rfl) rfl ?_
        refine WPe_callV (pc := 51) (rtc := rtV) (Mc := mX6_keeps) (d' := 1) (mc' := 0) (ms' := 0) [] [] rfl (dd dtX6_film 31 rfl) (okf6_keeps x0 w18) moX6_keeps miX6_keeps (bw_mem5 32 rfl rfl) (Or.inl ⟨_, _, _, _, (shI e19 (shI e16 (e12.at (e8.at (shE h5) (by decide)) (by decide)))), rfl⟩) rfl (Nat.le_of_ble_eq_true rfl) ⟨(Nat.le_of_ble_eq_true rfl), (Nat.le_of_ble_eq_true rfl)⟩ ⟨(Nat.le_of_ble_eq_true rfl), (Nat.le_of_ble_eq_true rfl)⟩ (fun z20 h21 e22 => ?_)
        refine WPe_st (st2 := []) rfl ?_
        refine WPe_iconst (pc := 54) (0 : Int32) (dd dtX6_film 32 rfl) (by decide) ?_
        refine WPe_istore (pc := 55) (ls' := [(4, vI (0 : Int32)), (0, vR x0), (1, vI x1), (2, vI x2), (3, vI x3)]) (dd dtX6_film 33 rfl) (Nat.le_of_ble_eq_true rfl) rfl ?_
        refine WPe_sub [1, 2, 3, 4, 0] rfl ?_
        exact wplb6_film_57 X w0  FU _ _
theorem okf6_film (x0 : Nat) (x1 : Int32) (x2 : Int32) (x3 : Int32) (w : Wd) : ∀ z, f6_film x0 x1 x2 x3 w = some z → OkM mX6_film 7 0 0 [vR x0, vI x1, vI x2, vI x3] w (rtI z.1) z.2 :=
  OkM.of (rt := rtI) moX6_film (Nat.le_of_ble_eq_true rfl) (fun X => wpf6_film X w x0 x1 x2 x3 w)
def tbX6_pouring : List (Nat × Instr × Nat) := [(0, .iload_n 1, 1), (1, .i2l, 1), (2, .lconst 1, 1), (3, .ladd, 1), (4, .lstore_n 2, 1), (5, .aload_n 0, 1), (6, .invokevirtual 197, 3), (9, .iconst 0, 1), (10, .istore 4, 2), (12, .iload 4, 2), (14, .bipush 8, 2), (16, .if_icmp .ge 44, 3), (19, .lload_n 2, 1), (20, .ldc2_w 236, 3), (23, .lmul, 1), (24, .ldc2_w 238, 3), (27, .lrem, 1), (28, .lstore_n 2, 1), (29, .lload_n 2, 1), (30, .ldc2_w 240, 3), (33, .lrem, 1), (34, .l2i, 1), (35, .istore 5, 2), (37, .iload 5, 2), (39, .ifCond .le 10, 3), (42, .aload_n 0, 1), (43, .iload 5, 2), (45, .invokevirtual 179, 3), (48, .pop, 1), (49, .aload_n 0, 1), (50, .invokevirtual 191, 3), (53, .pop, 1), (54, .iinc 4 1, 3), (57, .goto (-45), 3), (60, .aload_n 0, 1), (61, .aload_n 0, 1), (62, .invokevirtual 86, 3), (65, .putfield 242, 3), (68, .aload_n 0, 1), (69, .aload_n 0, 1), (70, .invokevirtual 194, 3), (73, .putfield 245, 3), (76, .aload_n 0, 1), (77, .invokevirtual 206, 3), (80, .return_, 1)]
set_option maxRecDepth 20000 in
theorem dtX6_pouring : ∀ x ∈ tbX6_pouring, decode cX6_pouring x.1 = .ok x.2 := by decide +kernel
noncomputable def j6_pouring_49 (k12 : Nat × Int64 × Int32 → Wd → Option (Unit × Wd)) (x0 : Nat) (x2 : Int64) (x4 : Int32) (w : Wd) : Option (Unit × Wd) :=
  ck (tg w x0 = 6) ((f6_minuteOf x0 w).bind fun z22 => (k12 (x0, x2, (x4 + (1 : Int32))) z22.2))
theorem wpj6_pouring_49 (X : CX) (w0 : Wd) (k12 : Nat × Int64 × Int32 → Wd → Option (Unit × Wd)) (hk12 : ∀ (v : Nat × Int64 × Int32) (w : Wd), WPe rtV X (mX6_pouring, 7, 0, 0, w0) 0 0 (k12 v w) 12 [(0, vR v.1), (2, vJ v.2.1), (4, vI v.2.2)] [] w) (x0 : Nat) (x2 : Int64) (x4 : Int32) (w : Wd) : WPe rtV X (mX6_pouring, 7, 0, 0, w0) 0 0 (j6_pouring_49 k12 x0 x2 x4 w) 49 [(0, vR x0), (2, vJ x2), (4, vI x4)] [] w := by
  unfold j6_pouring_49
  refine WPe_aload_n (pc := 49) 0 (dd dtX6_pouring 29 rfl) rfl ?_
  refine WPe_ck fun h21 => ?_
  refine WPe_callV (pc := 50) (rtc := rtI) (Mc := mX6_minuteOf) (d' := 6) (mc' := 0) (ms' := 0) [] [] rfl (dd dtX6_pouring 30 rfl) (okf6_minuteOf x0 w) moX6_minuteOf miX6_minuteOf (bw_mem5 20 rfl rfl) (Or.inl ⟨_, _, _, _, (shE h21), rfl⟩) rfl (Nat.le_of_ble_eq_true rfl) ⟨(Nat.le_of_ble_eq_true rfl), (Nat.le_of_ble_eq_true rfl)⟩ ⟨(Nat.le_of_ble_eq_true rfl), (Nat.le_of_ble_eq_true rfl)⟩ (fun z22 h23 e24 => ?_)
  refine WPe_st (st2 := [vI z22.1]) rfl ?_
  refine WPe_pop (pc := 53) (dd dtX6_pouring 31 rfl) rfl ?_
  refine WPe_iinc (pc := 54) (ls' := [(4, vI (x4 + (1 : Int32))), (0, vR x0), (2, vJ x2)]) 2 (x4 + (1 : Int32)) (dd dtX6_pouring 32 rfl) rfl (congrArg (HAdd.hAdd _) (by decide : Int32.ofInt (1) = (1 : Int32))) (Nat.le_of_ble_eq_true rfl) rfl ?_
  refine WPe_goto (pc := 57) 12 (dd dtX6_pouring 33 rfl) (by decide) ?_
  refine WPe_sub [1, 2, 0] rfl ?_
  exact hk12 (x0, x2, (x4 + (1 : Int32))) z22.2
noncomputable def b6_pouring_12 (k12 : Nat × Int64 × Int32 → Wd → Option (Unit × Wd)) (v : Nat × Int64 × Int32) (w : Wd) : Option (Unit × Wd) :=
  if (8 : Int32) ≤ v.2.2 then (ck (tg w v.1 = 6) ((f6_joyAll v.1 w).bind fun z7 => (lw (sI z7.2 v.1 30 z7.1) fun w10 => ((f6_inSet v.1 w10).bind fun z12 => (lw (sI z12.2 v.1 31 z12.1) fun w15 => ((f6_lays v.1 w15).bind fun z17 => (some ((), z17.2)))))))) else (if (((((v.2.1 * (48271 : Int64)) - (v.2.1 * (48271 : Int64)) / (2147483647 : Int64) * (2147483647 : Int64)) - ((v.2.1 * (48271 : Int64)) - (v.2.1 * (48271 : Int64)) / (2147483647 : Int64) * (2147483647 : Int64)) / (4 : Int64) * (4 : Int64))).toInt32) ≤ (0 : Int32) then (j6_pouring_49 k12 v.1 ((v.2.1 * (48271 : Int64)) - (v.2.1 * (48271 : Int64)) / (2147483647 : Int64) * (2147483647 : Int64)) v.2.2 w) else (ck (tg w v.1 = 6) ((f6_pours v.1 (((((v.2.1 * (48271 : Int64)) - (v.2.1 * (48271 : Int64)) / (2147483647 : Int64) * (2147483647 : Int64)) - ((v.2.1 * (48271 : Int64)) - (v.2.1 * (48271 : Int64)) / (2147483647 : Int64) * (2147483647 : Int64)) / (4 : Int64) * (4 : Int64))).toInt32) w).bind fun z26 => (j6_pouring_49 k12 v.1 ((v.2.1 * (48271 : Int64)) - (v.2.1 * (48271 : Int64)) / (2147483647 : Int64) * (2147483647 : Int64)) v.2.2 z26.2))))
theorem wpb6_pouring_12 (X : CX) (w0 : Wd) (k12 : Nat × Int64 × Int32 → Wd → Option (Unit × Wd)) (hk12 : ∀ (v : Nat × Int64 × Int32) (w : Wd), WPe rtV X (mX6_pouring, 7, 0, 0, w0) 0 0 (k12 v w) 12 [(0, vR v.1), (2, vJ v.2.1), (4, vI v.2.2)] [] w) (v : Nat × Int64 × Int32) (w : Wd) : WPe rtV X (mX6_pouring, 7, 0, 0, w0) 0 0 (b6_pouring_12 k12 v w) 12 [(0, vR v.1), (2, vJ v.2.1), (4, vI v.2.2)] [] w := by
  unfold b6_pouring_12
  refine WPe_iload (pc := 12) 2 (dd dtX6_pouring 9 rfl) rfl ?_
  refine WPe_bipush (pc := 14) (8 : Int32) (dd dtX6_pouring 10 rfl) (by decide) ?_
  refine WPe_icmp_ge (pc := 16) 60 (dd dtX6_pouring 11 rfl) (by decide) (fun h5 => ?_) (fun h5 => ?_)
  · refine WPe_aload_n (pc := 60) 0 (dd dtX6_pouring 34 rfl) rfl ?_
    refine WPe_aload_n (pc := 61) 0 (dd dtX6_pouring 35 rfl) rfl ?_
    refine WPe_ck fun h6 => ?_
    refine WPe_callV (pc := 62) (rtc := rtI) (Mc := mX6_joyAll) (d' := 1) (mc' := 0) (ms' := 0) [] [vR v.1] rfl (dd dtX6_pouring 36 rfl) (okf6_joyAll v.1 w) moX6_joyAll miX6_joyAll (bw_mem4 162 rfl rfl) (Or.inl ⟨_, _, _, _, (shE h6), rfl⟩) rfl (Nat.le_of_ble_eq_true rfl) ⟨(Nat.le_of_ble_eq_true rfl), (Nat.le_of_ble_eq_true rfl)⟩ ⟨(Nat.le_of_ble_eq_true rfl), (Nat.le_of_ble_eq_true rfl)⟩ (fun z7 h8 e9 => ?_)
    refine WPe_st (st2 := [vI z7.1, vR v.1]) rfl ?_
    refine WPe_putI (pc := 65) (t := 6) (C := RX6) (T := TX6) 30 (dd dtX6_pouring 37 rfl) (e9.at (shE h6) (by decide)) rfl (Nat.le_of_ble_eq_true rfl) (bw_mem4 83 rfl rfl) (Or.inl rfl) rfl rfl rfl ?_
    refine WPe_lw fun w10 e11 => ?_
    refine WPe_aload_n (pc := 68) 0 (dd dtX6_pouring 38 rfl) rfl ?_
    refine WPe_aload_n (pc := 69) 0 (dd dtX6_pouring 39 rfl) rfl ?_
    refine WPe_callV (pc := 70) (rtc := rtI) (Mc := mX6_inSet) (d' := 2) (mc' := 0) (ms' := 0) [] [vR v.1] rfl (dd dtX6_pouring 40 rfl) (okf6_inSet v.1 w10) moX6_inSet miX6_inSet (bw_mem5 44 rfl rfl) (Or.inl ⟨_, _, _, _, (shI e11 (e9.at (shE h6) (by decide))), rfl⟩) rfl (Nat.le_of_ble_eq_true rfl) ⟨(Nat.le_of_ble_eq_true rfl), (Nat.le_of_ble_eq_true rfl)⟩ ⟨(Nat.le_of_ble_eq_true rfl), (Nat.le_of_ble_eq_true rfl)⟩ (fun z12 h13 e14 => ?_)
    refine WPe_st (st2 := [vI z12.1, vR v.1]) rfl ?_
    refine WPe_putI (pc := 73) (t := 6) (C := RX6) (T := TX6) 31 (dd dtX6_pouring 41 rfl) (e14.at (shI e11 (e9.at (shE h6) (by decide))) (by decide)) rfl (Nat.le_of_ble_eq_true rfl) (bw_mem4 84 rfl rfl) (Or.inl rfl) rfl rfl rfl ?_
    refine WPe_lw fun w15 e16 => ?_
    refine WPe_aload_n (pc := 76) 0 (dd dtX6_pouring 42 rfl) rfl ?_
    refine WPe_callV (pc := 77) (rtc := rtV) (Mc := mX6_lays) (d' := 1) (mc' := 0) (ms' := 0) [] [] rfl (dd dtX6_pouring 43 rfl) (okf6_lays v.1 w15) moX6_lays miX6_lays (bw_mem5 48 rfl rfl) (Or.inl ⟨_, _, _, _, (shI e16 (e14.at (shI e11 (e9.at (shE h6) (by decide))) (by decide))), rfl⟩) rfl (Nat.le_of_ble_eq_true rfl) ⟨(Nat.le_of_ble_eq_true rfl), (Nat.le_of_ble_eq_true rfl)⟩ ⟨(Nat.le_of_ble_eq_true rfl), (Nat.le_of_ble_eq_true rfl)⟩ (fun z17 h18 e19 => ?_)
    refine WPe_st (st2 := []) rfl ?_
    exact WPe_return (pc := 80) (dd dtX6_pouring 44 rfl) rfl rfl ⟨(Nat.le_of_ble_eq_true rfl), (Nat.le_of_ble_eq_true rfl)⟩
  · refine WPe_lload_n (pc := 19) 1 (dd dtX6_pouring 12 rfl) rfl ?_
    refine WPe_ldc2 (pc := 20) (v := (48271 : Int64)) (dd dtX6_pouring 13 rfl) (bw_mem5 153 rfl rfl) ?_
    refine WPe_lmul (pc := 23) (dd dtX6_pouring 14 rfl) ?_
    refine WPe_ldc2 (pc := 24) (v := (2147483647 : Int64)) (dd dtX6_pouring 15 rfl) (bw_mem5 154 rfl rfl) ?_
    refine WPe_lrem (pc := 27) (dd dtX6_pouring 16 rfl) (by decide) ?_
    refine WPe_lstore_n (pc := 28) (ls' := [(2, vJ ((v.2.1 * (48271 : Int64)) - (v.2.1 * (48271 : Int64)) / (2147483647 : Int64) * (2147483647 : Int64))), (0, vR v.1), (4, vI v.2.2)]) (dd dtX6_pouring 17 rfl) (Nat.le_of_ble_eq_true rfl) rfl ?_
    refine WPe_lload_n (pc := 29) 0 (dd dtX6_pouring 18 rfl) rfl ?_
    refine WPe_ldc2 (pc := 30) (v := (4 : Int64)) (dd dtX6_pouring 19 rfl) (bw_mem5 155 rfl rfl) ?_
    refine WPe_lrem (pc := 33) (dd dtX6_pouring 20 rfl) (by decide) ?_
    refine WPe_l2i (pc := 34) (dd dtX6_pouring 21 rfl) ?_
    refine WPe_istore (pc := 35) (ls' := [(5, vI (((((v.2.1 * (48271 : Int64)) - (v.2.1 * (48271 : Int64)) / (2147483647 : Int64) * (2147483647 : Int64)) - ((v.2.1 * (48271 : Int64)) - (v.2.1 * (48271 : Int64)) / (2147483647 : Int64) * (2147483647 : Int64)) / (4 : Int64) * (4 : Int64))).toInt32)), (2, vJ ((v.2.1 * (48271 : Int64)) - (v.2.1 * (48271 : Int64)) / (2147483647 : Int64) * (2147483647 : Int64))), (0, vR v.1), (4, vI v.2.2)]) (dd dtX6_pouring 22 rfl) (Nat.le_of_ble_eq_true rfl) rfl ?_
    refine WPe_iload (pc := 37) 0 (dd dtX6_pouring 23 rfl) rfl ?_
    refine WPe_if_le (pc := 39) 49 (dd dtX6_pouring 24 rfl) (by decide) (fun h20 => ?_) (fun h20 => ?_)
    · refine WPe_sub [2, 1, 3] rfl ?_
      exact wpj6_pouring_49 X w0 k12 hk12 v.1 ((v.2.1 * (48271 : Int64)) - (v.2.1 * (48271 : Int64)) / (2147483647 : Int64) * (2147483647 : Int64)) v.2.2 w
    · refine WPe_aload_n (pc := 42) 2 (dd dtX6_pouring 25 rfl) rfl ?_
      refine WPe_iload (pc := 43) 0 (dd dtX6_pouring 26 rfl) rfl ?_
      refine WPe_ck fun h25 => ?_
      refine WPe_callV (pc := 45) (rtc := rtI) (Mc := mX6_pours) (d' := 2) (mc' := 0) (ms' := 0) [vI (((((v.2.1 * (48271 : Int64)) - (v.2.1 * (48271 : Int64)) / (2147483647 : Int64) * (2147483647 : Int64)) - ((v.2.1 * (48271 : Int64)) - (v.2.1 * (48271 : Int64)) / (2147483647 : Int64) * (2147483647 : Int64)) / (4 : Int64) * (4 : Int64))).toInt32)] [] rfl (dd dtX6_pouring 27 rfl) (okf6_pours v.1 (((((v.2.1 * (48271 : Int64)) - (v.2.1 * (48271 : Int64)) / (2147483647 : Int64) * (2147483647 : Int64)) - ((v.2.1 * (48271 : Int64)) - (v.2.1 * (48271 : Int64)) / (2147483647 : Int64) * (2147483647 : Int64)) / (4 : Int64) * (4 : Int64))).toInt32) w) moX6_pours miX6_pours (bw_mem4 236 rfl rfl) (Or.inl ⟨_, _, _, _, (shE h25), rfl⟩) rfl (Nat.le_of_ble_eq_true rfl) ⟨(Nat.le_of_ble_eq_true rfl), (Nat.le_of_ble_eq_true rfl)⟩ ⟨(Nat.le_of_ble_eq_true rfl), (Nat.le_of_ble_eq_true rfl)⟩ (fun z26 h27 e28 => ?_)
      refine WPe_st (st2 := [vI z26.1]) rfl ?_
      refine WPe_pop (pc := 48) (dd dtX6_pouring 28 rfl) rfl ?_
      refine WPe_sub [2, 1, 3] rfl ?_
      exact wpj6_pouring_49 X w0 k12 hk12 v.1 ((v.2.1 * (48271 : Int64)) - (v.2.1 * (48271 : Int64)) / (2147483647 : Int64) * (2147483647 : Int64)) v.2.2 z26.2
theorem wplb6_pouring_12 (X : CX) (w0 : Wd)  : ∀ (n9 : Nat) (v : Nat × Int64 × Int32) (w : Wd), WPe rtV X (mX6_pouring, 7, 0, 0, w0) 0 0 (loopF (b6_pouring_12 ) n9 v w) 12 [(0, vR v.1), (2, vJ v.2.1), (4, vI v.2.2)] [] w :=
  WPe_loop (rt := rtV) (X := X) (M := (mX6_pouring, 7, 0, 0, w0)) (fun v : Nat × Int64 × Int32 => [(0, vR v.1), (2, vJ v.2.1), (4, vI v.2.2)]) (fun k hk v w => wpb6_pouring_12 X w0  k hk v w)
noncomputable def f6_pouring (x0 : Nat) (x1 : Int32) (w : Wd) : Option (Unit × Wd) :=
  ck (tg w x0 = 6) ((f6_keeps x0 w).bind fun z2 => (loopF (b6_pouring_12) FU (x0, (((x1).toInt64) + (1 : Int64)), (0 : Int32)) z2.2))
theorem wpf6_pouring (X : CX) (w0 : Wd) (x0 : Nat) (x1 : Int32) (w : Wd) : WPe rtV X (mX6_pouring, 7, 0, 0, w0) 0 0 (f6_pouring x0 x1 w) 0 [(0, vR x0), (1, vI x1)] [] w := by
  unfold f6_pouring
  refine WPe_iload_n (pc := 0) 1 (dd dtX6_pouring 0 rfl) rfl ?_
  refine WPe_i2l (pc := 1) (dd dtX6_pouring 1 rfl) ?_
  refine WPe_lconst (pc := 2) (1 : Int64) (dd dtX6_pouring 2 rfl) (by decide) ?_
  refine WPe_ladd (pc := 3) (dd dtX6_pouring 3 rfl) ?_
  refine WPe_lstore_n (pc := 4) (ls' := [(2, vJ (((x1).toInt64) + (1 : Int64))), (0, vR x0), (1, vI x1)]) (dd dtX6_pouring 4 rfl) (Nat.le_of_ble_eq_true rfl) rfl ?_
  refine WPe_aload_n (pc := 5) 1 (dd dtX6_pouring 5 rfl) rfl ?_
  refine WPe_ck fun h1 => ?_
  refine WPe_callV (pc := 6) (rtc := rtV) (Mc := mX6_keeps) (d' := 1) (mc' := 0) (ms' := 0) [] [] rfl (dd dtX6_pouring 6 rfl) (okf6_keeps x0 w) moX6_keeps miX6_keeps (bw_mem5 32 rfl rfl) (Or.inl ⟨_, _, _, _, (shE h1), rfl⟩) rfl (Nat.le_of_ble_eq_true rfl) ⟨(Nat.le_of_ble_eq_true rfl), (Nat.le_of_ble_eq_true rfl)⟩ ⟨(Nat.le_of_ble_eq_true rfl), (Nat.le_of_ble_eq_true rfl)⟩ (fun z2 h3 e4 => ?_)
  refine WPe_st (st2 := []) rfl ?_
  refine WPe_iconst (pc := 9) (0 : Int32) (dd dtX6_pouring 7 rfl) (by decide) ?_
  refine WPe_istore (pc := 10) (ls' := [(4, vI (0 : Int32)), (2, vJ (((x1).toInt64) + (1 : Int64))), (0, vR x0), (1, vI x1)]) (dd dtX6_pouring 8 rfl) (Nat.le_of_ble_eq_true rfl) rfl ?_
  refine WPe_sub [2, 1, 0] rfl ?_
  exact wplb6_pouring_12 X w0  FU _ _
theorem okf6_pouring (x0 : Nat) (x1 : Int32) (w : Wd) : ∀ z, f6_pouring x0 x1 w = some z → OkM mX6_pouring 7 0 0 [vR x0, vI x1] w (rtV z.1) z.2 :=
  OkM.of (rt := rtV) moX6_pouring (Nat.le_of_ble_eq_true rfl) (fun X => wpf6_pouring X w x0 x1 w)
def tbX6_drawn : List (Nat × Instr × Nat) := [(0, .iload_n 1, 1), (1, .iconst 0, 1), (2, .ldc 248, 2), (4, .invokestatic 75, 3), (7, .ifCond .eq 12, 3), (10, .iload_n 2, 1), (11, .iconst 0, 1), (12, .iconst 1, 1), (13, .invokestatic 75, 3), (16, .ifCond .ne 6, 3), (19, .bipush (-2), 2), (21, .ireturn, 1), (22, .aload_n 0, 1), (23, .iload_n 1, 1), (24, .invokevirtual 249, 3), (27, .iload_n 2, 1), (28, .ifCond .ne 10, 3), (31, .aload_n 0, 1), (32, .getfield 242, 3), (35, .goto 7, 3), (38, .aload_n 0, 1), (39, .getfield 245, 3), (42, .ireturn, 1)]
set_option maxRecDepth 20000 in
theorem dtX6_drawn : ∀ x ∈ tbX6_drawn, decode cX6_drawn x.1 = .ok x.2 := by decide +kernel
noncomputable def f6_drawn (x0 : Nat) (x1 : Int32) (x2 : Int32) (w : Wd) : Option (Int32 × Wd) :=
  (f6_in x1 (0 : Int32) (99999 : Int32) w).bind fun z1 => (if z1.1 = (0 : Int32) then (some ((-2 : Int32), z1.2)) else ((f6_in x2 (0 : Int32) (1 : Int32) z1.2).bind fun z5 => (if z5.1 = (0 : Int32) then (some ((-2 : Int32), z5.2)) else (ck (tg z5.2 x0 = 6) ((f6_pouring x0 x1 z5.2).bind fun z10 => (if x2 = (0 : Int32) then (some ((wi z10.2 x0 30), z10.2)) else (some ((wi z10.2 x0 31), z10.2))))))))
theorem wpf6_drawn (X : CX) (w0 : Wd) (x0 : Nat) (x1 : Int32) (x2 : Int32) (w : Wd) : WPe rtI X (mX6_drawn, 8, 0, 0, w0) 0 0 (f6_drawn x0 x1 x2 w) 0 [(0, vR x0), (1, vI x1), (2, vI x2)] [] w := by
  unfold f6_drawn
  refine WPe_iload_n (pc := 0) 1 (dd dtX6_drawn 0 rfl) rfl ?_
  refine WPe_iconst (pc := 1) (0 : Int32) (dd dtX6_drawn 1 rfl) (by decide) ?_
  refine WPe_ldc (pc := 2) (v := (99999 : Int32)) (dd dtX6_drawn 2 rfl) (bw_mem5 148 rfl rfl) ?_
  refine WPe_callS (pc := 4) (rtc := rtI) (Mc := mX6_in) (d' := 1) (mc' := 0) (ms' := 0) [vI x1, vI (0 : Int32), vI (99999 : Int32)] [] rfl (dd dtX6_drawn 3 rfl) (okf6_in x1 (0 : Int32) (99999 : Int32) w) moX6_in msX6_in (bw_mem4 14 rfl rfl) rfl (Nat.le_of_ble_eq_true rfl) ⟨(Nat.le_of_ble_eq_true rfl), (Nat.le_of_ble_eq_true rfl)⟩ ⟨(Nat.le_of_ble_eq_true rfl), (Nat.le_of_ble_eq_true rfl)⟩ (fun z1 h2 e3 => ?_)
  refine WPe_st (st2 := [vI z1.1]) rfl ?_
  refine WPe_if_eq (pc := 7) 19 (dd dtX6_drawn 4 rfl) (by decide) (fun h4 => ?_) (fun h4 => ?_)
  · refine WPe_bipush (pc := 19) (-2 : Int32) (dd dtX6_drawn 10 rfl) (by decide) ?_
    exact WPe_ireturn (pc := 21) (dd dtX6_drawn 11 rfl) rfl rfl ⟨(Nat.le_of_ble_eq_true rfl), (Nat.le_of_ble_eq_true rfl)⟩
  · refine WPe_iload_n (pc := 10) 2 (dd dtX6_drawn 5 rfl) rfl ?_
    refine WPe_iconst (pc := 11) (0 : Int32) (dd dtX6_drawn 6 rfl) (by decide) ?_
    refine WPe_iconst (pc := 12) (1 : Int32) (dd dtX6_drawn 7 rfl) (by decide) ?_
    refine WPe_callS (pc := 13) (rtc := rtI) (Mc := mX6_in) (d' := 1) (mc' := 0) (ms' := 0) [vI x2, vI (0 : Int32), vI (1 : Int32)] [] rfl (dd dtX6_drawn 8 rfl) (okf6_in x2 (0 : Int32) (1 : Int32) z1.2) moX6_in msX6_in (bw_mem4 14 rfl rfl) rfl (Nat.le_of_ble_eq_true rfl) ⟨(Nat.le_of_ble_eq_true rfl), (Nat.le_of_ble_eq_true rfl)⟩ ⟨(Nat.le_of_ble_eq_true rfl), (Nat.le_of_ble_eq_true rfl)⟩ (fun z5 h6 e7 => ?_)
    refine WPe_st (st2 := [vI z5.1]) rfl ?_
    refine WPe_if_ne (pc := 16) 22 (dd dtX6_drawn 9 rfl) (by decide) (fun h8 => ?_) (fun h8 => ?_)
    · refine WPe_bipush (pc := 19) (-2 : Int32) (dd dtX6_drawn 10 rfl) (by decide) ?_
      exact WPe_ireturn (pc := 21) (dd dtX6_drawn 11 rfl) rfl rfl ⟨(Nat.le_of_ble_eq_true rfl), (Nat.le_of_ble_eq_true rfl)⟩
    · refine WPe_aload_n (pc := 22) 0 (dd dtX6_drawn 12 rfl) rfl ?_
      refine WPe_iload_n (pc := 23) 1 (dd dtX6_drawn 13 rfl) rfl ?_
      refine WPe_ck fun h9 => ?_
      refine WPe_callV (pc := 24) (rtc := rtV) (Mc := mX6_pouring) (d' := 7) (mc' := 0) (ms' := 0) [vI x1] [] rfl (dd dtX6_drawn 14 rfl) (okf6_pouring x0 x1 z5.2) moX6_pouring miX6_pouring (bw_mem5 149 rfl rfl) (Or.inl ⟨_, _, _, _, (shE h9), rfl⟩) rfl (Nat.le_of_ble_eq_true rfl) ⟨(Nat.le_of_ble_eq_true rfl), (Nat.le_of_ble_eq_true rfl)⟩ ⟨(Nat.le_of_ble_eq_true rfl), (Nat.le_of_ble_eq_true rfl)⟩ (fun z10 h11 e12 => ?_)
      refine WPe_st (st2 := []) rfl ?_
      refine WPe_iload_n (pc := 27) 2 (dd dtX6_drawn 15 rfl) rfl ?_
      refine WPe_if_ne (pc := 28) 38 (dd dtX6_drawn 16 rfl) (by decide) (fun h13 => ?_) (fun h13 => ?_)
      · refine WPe_aload_n (pc := 31) 0 (dd dtX6_drawn 17 rfl) rfl ?_
        refine WPe_getI (pc := 32) (t := 6) (C := RX6) (T := TX6) 30 (dd dtX6_drawn 18 rfl) (e12.at (shE h9) (by decide)) rfl (Nat.le_of_ble_eq_true rfl) rfl (bw_mem4 83 rfl rfl) ?_
        refine WPe_goto (pc := 35) 42 (dd dtX6_drawn 19 rfl) (by decide) ?_
        exact WPe_ireturn (pc := 42) (dd dtX6_drawn 22 rfl) rfl rfl ⟨(Nat.le_of_ble_eq_true rfl), (Nat.le_of_ble_eq_true rfl)⟩
      · refine WPe_aload_n (pc := 38) 0 (dd dtX6_drawn 20 rfl) rfl ?_
        refine WPe_getI (pc := 39) (t := 6) (C := RX6) (T := TX6) 31 (dd dtX6_drawn 21 rfl) (e12.at (shE h9) (by decide)) rfl (Nat.le_of_ble_eq_true rfl) rfl (bw_mem4 84 rfl rfl) ?_
        exact WPe_ireturn (pc := 42) (dd dtX6_drawn 22 rfl) rfl rfl ⟨(Nat.le_of_ble_eq_true rfl), (Nat.le_of_ble_eq_true rfl)⟩
theorem okf6_drawn (x0 : Nat) (x1 : Int32) (x2 : Int32) (w : Wd) : ∀ z, f6_drawn x0 x1 x2 w = some z → OkM mX6_drawn 8 0 0 [vR x0, vI x1, vI x2] w (rtI z.1) z.2 :=
  OkM.of (rt := rtI) moX6_drawn (Nat.le_of_ble_eq_true rfl) (fun X => wpf6_drawn X w x0 x1 x2 w)
def tbX6_odds : List (Nat × Instr × Nat) := [(0, .iload_n 1, 1), (1, .iconst 0, 1), (2, .ldc 248, 2), (4, .invokestatic 75, 3), (7, .ifCond .eq 34, 3), (10, .iload_n 2, 1), (11, .iconst 1, 1), (12, .bipush 40, 2), (14, .invokestatic 75, 3), (17, .ifCond .eq 24, 3), (20, .iload_n 3, 1), (21, .iconst 0, 1), (22, .sipush 9999, 3), (25, .invokestatic 75, 3), (28, .ifCond .eq 13, 3), (31, .iload 4, 2), (33, .iconst 0, 1), (34, .iconst 1, 1), (35, .invokestatic 75, 3), (38, .ifCond .ne 7, 3), (41, .ldc2_w 218, 3), (44, .lreturn, 1), (45, .lconst 0, 1), (46, .lstore 5, 2), (48, .iconst 0, 1), (49, .istore 7, 2), (51, .iload 7, 2), (53, .iload_n 2, 1), (54, .if_icmp .ge 35, 3), (57, .aload_n 0, 1), (58, .iload_n 1, 1), (59, .iload 7, 2), (61, .iadd, 1), (62, .invokevirtual 249, 3), (65, .lload 5, 2), (67, .aload_n 0, 1), (68, .getfield 242, 3), (71, .iload_n 3, 1), (72, .if_icmp .lt 7, 3), (75, .lconst 1, 1), (76, .goto 4, 3), (79, .lconst 0, 1), (80, .ladd, 1), (81, .lstore 5, 2), (83, .iinc 7 1, 3), (86, .goto (-35), 3), (89, .lload 5, 2), (91, .iload_n 2, 1), (92, .i2l, 1), (93, .iload 4, 2), (95, .invokestatic 220, 3), (98, .lreturn, 1)]
set_option maxRecDepth 20000 in
theorem dtX6_odds : ∀ x ∈ tbX6_odds, decode cX6_odds x.1 = .ok x.2 := by decide +kernel
noncomputable def j6_odds_80 (k51 : Nat × Int32 × Int32 × Int32 × Int32 × Int64 × Int32 → Wd → Option (Int64 × Wd)) (x0 : Nat) (x1 : Int32) (x2 : Int32) (x3 : Int32) (x4 : Int32) (x7 : Int32) (s0 : Int64) (s1 : Int64) (w : Wd) : Option (Int64 × Wd) :=
  k51 (x0, x1, x2, x3, x4, (s1 + s0), (x7 + (1 : Int32))) w
theorem wpj6_odds_80 (X : CX) (w0 : Wd) (k51 : Nat × Int32 × Int32 × Int32 × Int32 × Int64 × Int32 → Wd → Option (Int64 × Wd)) (hk51 : ∀ (v : Nat × Int32 × Int32 × Int32 × Int32 × Int64 × Int32) (w : Wd), WPe rtJ X (mX6_odds, 8, 0, 0, w0) 0 0 (k51 v w) 51 [(0, vR v.1), (1, vI v.2.1), (2, vI v.2.2.1), (3, vI v.2.2.2.1), (4, vI v.2.2.2.2.1), (5, vJ v.2.2.2.2.2.1), (7, vI v.2.2.2.2.2.2)] [] w) (x0 : Nat) (x1 : Int32) (x2 : Int32) (x3 : Int32) (x4 : Int32) (x7 : Int32) (s0 : Int64) (s1 : Int64) (w : Wd) : WPe rtJ X (mX6_odds, 8, 0, 0, w0) 0 0 (j6_odds_80 k51 x0 x1 x2 x3 x4 x7 s0 s1 w) 80 [(0, vR x0), (1, vI x1), (2, vI x2), (3, vI x3), (4, vI x4), (7, vI x7)] [vJ s0, vJ s1] w := by
  unfold j6_odds_80
  refine WPe_ladd (pc := 80) (dd dtX6_odds 42 rfl) ?_
  refine WPe_lstore (pc := 81) (ls' := [(5, vJ (s1 + s0)), (0, vR x0), (1, vI x1), (2, vI x2), (3, vI x3), (4, vI x4), (7, vI x7)]) (dd dtX6_odds 43 rfl) (Nat.le_of_ble_eq_true rfl) rfl ?_
  refine WPe_iinc (pc := 83) (ls' := [(7, vI (x7 + (1 : Int32))), (5, vJ (s1 + s0)), (0, vR x0), (1, vI x1), (2, vI x2), (3, vI x3), (4, vI x4)]) 6 (x7 + (1 : Int32)) (dd dtX6_odds 44 rfl) rfl (congrArg (HAdd.hAdd _) (by decide : Int32.ofInt (1) = (1 : Int32))) (Nat.le_of_ble_eq_true rfl) rfl ?_
  refine WPe_goto (pc := 86) 51 (dd dtX6_odds 45 rfl) (by decide) ?_
  refine WPe_sub [2, 3, 4, 5, 6, 1, 0] rfl ?_
  exact hk51 (x0, x1, x2, x3, x4, (s1 + s0), (x7 + (1 : Int32))) w
noncomputable def b6_odds_51 (k51 : Nat × Int32 × Int32 × Int32 × Int32 × Int64 × Int32 → Wd → Option (Int64 × Wd)) (v : Nat × Int32 × Int32 × Int32 × Int32 × Int64 × Int32) (w : Wd) : Option (Int64 × Wd) :=
  if v.2.2.1 ≤ v.2.2.2.2.2.2 then ((f6_lowest v.2.2.2.2.2.1 ((v.2.2.1).toInt64) v.2.2.2.2.1 w).bind fun z18 => (some (z18.1, z18.2))) else (ck (tg w v.1 = 6) ((f6_pouring v.1 (v.2.1 + v.2.2.2.2.2.2) w).bind fun z22 => (if (wi z22.2 v.1 30) < v.2.2.2.1 then (j6_odds_80 k51 v.1 v.2.1 v.2.2.1 v.2.2.2.1 v.2.2.2.2.1 v.2.2.2.2.2.2 (0 : Int64) v.2.2.2.2.2.1 z22.2) else (j6_odds_80 k51 v.1 v.2.1 v.2.2.1 v.2.2.2.1 v.2.2.2.2.1 v.2.2.2.2.2.2 (1 : Int64) v.2.2.2.2.2.1 z22.2))))
theorem wpb6_odds_51 (X : CX) (w0 : Wd) (k51 : Nat × Int32 × Int32 × Int32 × Int32 × Int64 × Int32 → Wd → Option (Int64 × Wd)) (hk51 : ∀ (v : Nat × Int32 × Int32 × Int32 × Int32 × Int64 × Int32) (w : Wd), WPe rtJ X (mX6_odds, 8, 0, 0, w0) 0 0 (k51 v w) 51 [(0, vR v.1), (1, vI v.2.1), (2, vI v.2.2.1), (3, vI v.2.2.2.1), (4, vI v.2.2.2.2.1), (5, vJ v.2.2.2.2.2.1), (7, vI v.2.2.2.2.2.2)] [] w) (v : Nat × Int32 × Int32 × Int32 × Int32 × Int64 × Int32) (w : Wd) : WPe rtJ X (mX6_odds, 8, 0, 0, w0) 0 0 (b6_odds_51 k51 v w) 51 [(0, vR v.1), (1, vI v.2.1), (2, vI v.2.2.1), (3, vI v.2.2.2.1), (4, vI v.2.2.2.2.1), (5, vJ v.2.2.2.2.2.1), (7, vI v.2.2.2.2.2.2)] [] w := by
  unfold b6_odds_51
  refine WPe_iload (pc := 51) 6 (dd dtX6_odds 26 rfl) rfl ?_
  refine WPe_iload_n (pc := 53) 2 (dd dtX6_odds 27 rfl) rfl ?_
  refine WPe_icmp_ge (pc := 54) 89 (dd dtX6_odds 28 rfl) (by decide) (fun h17 => ?_) (fun h17 => ?_)
  · refine WPe_lload (pc := 89) 5 (dd dtX6_odds 46 rfl) rfl ?_
    refine WPe_iload_n (pc := 91) 2 (dd dtX6_odds 47 rfl) rfl ?_
    refine WPe_i2l (pc := 92) (dd dtX6_odds 48 rfl) ?_
    refine WPe_iload (pc := 93) 4 (dd dtX6_odds 49 rfl) rfl ?_
    refine WPe_callS (pc := 95) (rtc := rtJ) (Mc := mX6_lowest) (d' := 1) (mc' := 0) (ms' := 0) [vJ v.2.2.2.2.2.1, vJ ((v.2.2.1).toInt64), vI v.2.2.2.2.1] [] rfl (dd dtX6_odds 50 rfl) (okf6_lowest v.2.2.2.2.2.1 ((v.2.2.1).toInt64) v.2.2.2.2.1 w) moX6_lowest msX6_lowest (bw_mem5 97 rfl rfl) rfl (Nat.le_of_ble_eq_true rfl) ⟨(Nat.le_of_ble_eq_true rfl), (Nat.le_of_ble_eq_true rfl)⟩ ⟨(Nat.le_of_ble_eq_true rfl), (Nat.le_of_ble_eq_true rfl)⟩ (fun z18 h19 e20 => ?_)
    refine WPe_st (st2 := [vJ z18.1]) rfl ?_
    exact WPe_lreturn (pc := 98) (dd dtX6_odds 51 rfl) rfl rfl ⟨(Nat.le_of_ble_eq_true rfl), (Nat.le_of_ble_eq_true rfl)⟩
  · refine WPe_aload_n (pc := 57) 0 (dd dtX6_odds 29 rfl) rfl ?_
    refine WPe_iload_n (pc := 58) 1 (dd dtX6_odds 30 rfl) rfl ?_
    refine WPe_iload (pc := 59) 6 (dd dtX6_odds 31 rfl) rfl ?_
    refine WPe_iadd (pc := 61) (dd dtX6_odds 32 rfl) ?_
    refine WPe_ck fun h21 => ?_
    refine WPe_callV (pc := 62) (rtc := rtV) (Mc := mX6_pouring) (d' := 7) (mc' := 0) (ms' := 0) [vI (v.2.1 + v.2.2.2.2.2.2)] [] rfl (dd dtX6_odds 33 rfl) (okf6_pouring v.1 (v.2.1 + v.2.2.2.2.2.2) w) moX6_pouring miX6_pouring (bw_mem5 149 rfl rfl) (Or.inl ⟨_, _, _, _, (shE h21), rfl⟩) rfl (Nat.le_of_ble_eq_true rfl) ⟨(Nat.le_of_ble_eq_true rfl), (Nat.le_of_ble_eq_true rfl)⟩ ⟨(Nat.le_of_ble_eq_true rfl), (Nat.le_of_ble_eq_true rfl)⟩ (fun z22 h23 e24 => ?_)
    refine WPe_st (st2 := []) rfl ?_
    refine WPe_lload (pc := 65) 5 (dd dtX6_odds 34 rfl) rfl ?_
    refine WPe_aload_n (pc := 67) 0 (dd dtX6_odds 35 rfl) rfl ?_
    refine WPe_getI (pc := 68) (t := 6) (C := RX6) (T := TX6) 30 (dd dtX6_odds 36 rfl) (e24.at (shE h21) (by decide)) rfl (Nat.le_of_ble_eq_true rfl) rfl (bw_mem4 83 rfl rfl) ?_
    refine WPe_iload_n (pc := 71) 3 (dd dtX6_odds 37 rfl) rfl ?_
    refine WPe_icmp_lt (pc := 72) 79 (dd dtX6_odds 38 rfl) (by decide) (fun h25 => ?_) (fun h25 => ?_)
    · refine WPe_lconst (pc := 79) (0 : Int64) (dd dtX6_odds 41 rfl) (by decide) ?_
      refine WPe_sub [0, 1, 2, 3, 4, 6] rfl ?_
      exact wpj6_odds_80 X w0 k51 hk51 v.1 v.2.1 v.2.2.1 v.2.2.2.1 v.2.2.2.2.1 v.2.2.2.2.2.2 (0 : Int64) v.2.2.2.2.2.1 z22.2
    · refine WPe_lconst (pc := 75) (1 : Int64) (dd dtX6_odds 39 rfl) (by decide) ?_
      refine WPe_goto (pc := 76) 80 (dd dtX6_odds 40 rfl) (by decide) ?_
      refine WPe_sub [0, 1, 2, 3, 4, 6] rfl ?_
      exact wpj6_odds_80 X w0 k51 hk51 v.1 v.2.1 v.2.2.1 v.2.2.2.1 v.2.2.2.2.1 v.2.2.2.2.2.2 (1 : Int64) v.2.2.2.2.2.1 z22.2
theorem wplb6_odds_51 (X : CX) (w0 : Wd)  : ∀ (n9 : Nat) (v : Nat × Int32 × Int32 × Int32 × Int32 × Int64 × Int32) (w : Wd), WPe rtJ X (mX6_odds, 8, 0, 0, w0) 0 0 (loopF (b6_odds_51 ) n9 v w) 51 [(0, vR v.1), (1, vI v.2.1), (2, vI v.2.2.1), (3, vI v.2.2.2.1), (4, vI v.2.2.2.2.1), (5, vJ v.2.2.2.2.2.1), (7, vI v.2.2.2.2.2.2)] [] w :=
  WPe_loop (rt := rtJ) (X := X) (M := (mX6_odds, 8, 0, 0, w0)) (fun v : Nat × Int32 × Int32 × Int32 × Int32 × Int64 × Int32 => [(0, vR v.1), (1, vI v.2.1), (2, vI v.2.2.1), (3, vI v.2.2.2.1), (4, vI v.2.2.2.2.1), (5, vJ v.2.2.2.2.2.1), (7, vI v.2.2.2.2.2.2)]) (fun k hk v w => wpb6_odds_51 X w0  k hk v w)
noncomputable def f6_odds (x0 : Nat) (x1 : Int32) (x2 : Int32) (x3 : Int32) (x4 : Int32) (w : Wd) : Option (Int64 × Wd) :=
  (f6_in x1 (0 : Int32) (99999 : Int32) w).bind fun z1 => (if z1.1 = (0 : Int32) then (some ((-4611686018427387904 : Int64), z1.2)) else ((f6_in x2 (1 : Int32) (40 : Int32) z1.2).bind fun z5 => (if z5.1 = (0 : Int32) then (some ((-4611686018427387904 : Int64), z5.2)) else ((f6_in x3 (0 : Int32) (9999 : Int32) z5.2).bind fun z9 => (if z9.1 = (0 : Int32) then (some ((-4611686018427387904 : Int64), z9.2)) else ((f6_in x4 (0 : Int32) (1 : Int32) z9.2).bind fun z13 => (if z13.1 = (0 : Int32) then (some ((-4611686018427387904 : Int64), z13.2)) else (loopF (b6_odds_51) FU (x0, x1, x2, x3, x4, (0 : Int64), (0 : Int32)) z13.2))))))))
theorem wpf6_odds (X : CX) (w0 : Wd) (x0 : Nat) (x1 : Int32) (x2 : Int32) (x3 : Int32) (x4 : Int32) (w : Wd) : WPe rtJ X (mX6_odds, 8, 0, 0, w0) 0 0 (f6_odds x0 x1 x2 x3 x4 w) 0 [(0, vR x0), (1, vI x1), (2, vI x2), (3, vI x3), (4, vI x4)] [] w := by
  unfold f6_odds
  refine WPe_iload_n (pc := 0) 1 (dd dtX6_odds 0 rfl) rfl ?_
  refine WPe_iconst (pc := 1) (0 : Int32) (dd dtX6_odds 1 rfl) (by decide) ?_
  refine WPe_ldc (pc := 2) (v := (99999 : Int32)) (dd dtX6_odds 2 rfl) (bw_mem5 148 rfl rfl) ?_
  refine WPe_callS (pc := 4) (rtc := rtI) (Mc := mX6_in) (d' := 1) (mc' := 0) (ms' := 0) [vI x1, vI (0 : Int32), vI (99999 : Int32)] [] rfl (dd dtX6_odds 3 rfl) (okf6_in x1 (0 : Int32) (99999 : Int32) w) moX6_in msX6_in (bw_mem4 14 rfl rfl) rfl (Nat.le_of_ble_eq_true rfl) ⟨(Nat.le_of_ble_eq_true rfl), (Nat.le_of_ble_eq_true rfl)⟩ ⟨(Nat.le_of_ble_eq_true rfl), (Nat.le_of_ble_eq_true rfl)⟩ (fun z1 h2 e3 => ?_)
  refine WPe_st (st2 := [vI z1.1]) rfl ?_
  refine WPe_if_eq (pc := 7) 41 (dd dtX6_odds 4 rfl) (by decide) (fun h4 => ?_) (fun h4 => ?_)
  · refine WPe_ldc2 (pc := 41) (v := (-4611686018427387904 : Int64)) (dd dtX6_odds 20 rfl) (bw_mem5 96 rfl rfl) ?_
    exact WPe_lreturn (pc := 44) (dd dtX6_odds 21 rfl) rfl rfl ⟨(Nat.le_of_ble_eq_true rfl), (Nat.le_of_ble_eq_true rfl)⟩
  · refine WPe_iload_n (pc := 10) 2 (dd dtX6_odds 5 rfl) rfl ?_
    refine WPe_iconst (pc := 11) (1 : Int32) (dd dtX6_odds 6 rfl) (by decide) ?_
    refine WPe_bipush (pc := 12) (40 : Int32) (dd dtX6_odds 7 rfl) (by decide) ?_
    refine WPe_callS (pc := 14) (rtc := rtI) (Mc := mX6_in) (d' := 1) (mc' := 0) (ms' := 0) [vI x2, vI (1 : Int32), vI (40 : Int32)] [] rfl (dd dtX6_odds 8 rfl) (okf6_in x2 (1 : Int32) (40 : Int32) z1.2) moX6_in msX6_in (bw_mem4 14 rfl rfl) rfl (Nat.le_of_ble_eq_true rfl) ⟨(Nat.le_of_ble_eq_true rfl), (Nat.le_of_ble_eq_true rfl)⟩ ⟨(Nat.le_of_ble_eq_true rfl), (Nat.le_of_ble_eq_true rfl)⟩ (fun z5 h6 e7 => ?_)
    refine WPe_st (st2 := [vI z5.1]) rfl ?_
    refine WPe_if_eq (pc := 17) 41 (dd dtX6_odds 9 rfl) (by decide) (fun h8 => ?_) (fun h8 => ?_)
    · refine WPe_ldc2 (pc := 41) (v := (-4611686018427387904 : Int64)) (dd dtX6_odds 20 rfl) (bw_mem5 96 rfl rfl) ?_
      exact WPe_lreturn (pc := 44) (dd dtX6_odds 21 rfl) rfl rfl ⟨(Nat.le_of_ble_eq_true rfl), (Nat.le_of_ble_eq_true rfl)⟩
    · refine WPe_iload_n (pc := 20) 3 (dd dtX6_odds 10 rfl) rfl ?_
      refine WPe_iconst (pc := 21) (0 : Int32) (dd dtX6_odds 11 rfl) (by decide) ?_
      refine WPe_sipush (pc := 22) (9999 : Int32) (dd dtX6_odds 12 rfl) (by decide) ?_
      refine WPe_callS (pc := 25) (rtc := rtI) (Mc := mX6_in) (d' := 1) (mc' := 0) (ms' := 0) [vI x3, vI (0 : Int32), vI (9999 : Int32)] [] rfl (dd dtX6_odds 13 rfl) (okf6_in x3 (0 : Int32) (9999 : Int32) z5.2) moX6_in msX6_in (bw_mem4 14 rfl rfl) rfl (Nat.le_of_ble_eq_true rfl) ⟨(Nat.le_of_ble_eq_true rfl), (Nat.le_of_ble_eq_true rfl)⟩ ⟨(Nat.le_of_ble_eq_true rfl), (Nat.le_of_ble_eq_true rfl)⟩ (fun z9 h10 e11 => ?_)
      refine WPe_st (st2 := [vI z9.1]) rfl ?_
      refine WPe_if_eq (pc := 28) 41 (dd dtX6_odds 14 rfl) (by decide) (fun h12 => ?_) (fun h12 => ?_)
      · refine WPe_ldc2 (pc := 41) (v := (-4611686018427387904 : Int64)) (dd dtX6_odds 20 rfl) (bw_mem5 96 rfl rfl) ?_
        exact WPe_lreturn (pc := 44) (dd dtX6_odds 21 rfl) rfl rfl ⟨(Nat.le_of_ble_eq_true rfl), (Nat.le_of_ble_eq_true rfl)⟩
      · refine WPe_iload (pc := 31) 4 (dd dtX6_odds 15 rfl) rfl ?_
        refine WPe_iconst (pc := 33) (0 : Int32) (dd dtX6_odds 16 rfl) (by decide) ?_
        refine WPe_iconst (pc := 34) (1 : Int32) (dd dtX6_odds 17 rfl) (by decide) ?_
        refine WPe_callS (pc := 35) (rtc := rtI) (Mc := mX6_in) (d' := 1) (mc' := 0) (ms' := 0) [vI x4, vI (0 : Int32), vI (1 : Int32)] [] rfl (dd dtX6_odds 18 rfl) (okf6_in x4 (0 : Int32) (1 : Int32) z9.2) moX6_in msX6_in (bw_mem4 14 rfl rfl) rfl (Nat.le_of_ble_eq_true rfl) ⟨(Nat.le_of_ble_eq_true rfl), (Nat.le_of_ble_eq_true rfl)⟩ ⟨(Nat.le_of_ble_eq_true rfl), (Nat.le_of_ble_eq_true rfl)⟩ (fun z13 h14 e15 => ?_)
        refine WPe_st (st2 := [vI z13.1]) rfl ?_
        refine WPe_if_ne (pc := 38) 45 (dd dtX6_odds 19 rfl) (by decide) (fun h16 => ?_) (fun h16 => ?_)
        · refine WPe_ldc2 (pc := 41) (v := (-4611686018427387904 : Int64)) (dd dtX6_odds 20 rfl) (bw_mem5 96 rfl rfl) ?_
          exact WPe_lreturn (pc := 44) (dd dtX6_odds 21 rfl) rfl rfl ⟨(Nat.le_of_ble_eq_true rfl), (Nat.le_of_ble_eq_true rfl)⟩
        · refine WPe_lconst (pc := 45) (0 : Int64) (dd dtX6_odds 22 rfl) (by decide) ?_
          refine WPe_lstore (pc := 46) (ls' := [(5, vJ (0 : Int64)), (0, vR x0), (1, vI x1), (2, vI x2), (3, vI x3), (4, vI x4)]) (dd dtX6_odds 23 rfl) (Nat.le_of_ble_eq_true rfl) rfl ?_
          refine WPe_iconst (pc := 48) (0 : Int32) (dd dtX6_odds 24 rfl) (by decide) ?_
          refine WPe_istore (pc := 49) (ls' := [(7, vI (0 : Int32)), (5, vJ (0 : Int64)), (0, vR x0), (1, vI x1), (2, vI x2), (3, vI x3), (4, vI x4)]) (dd dtX6_odds 25 rfl) (Nat.le_of_ble_eq_true rfl) rfl ?_
          refine WPe_sub [2, 3, 4, 5, 6, 1, 0] rfl ?_
          exact wplb6_odds_51 X w0  FU _ _
theorem okf6_odds (x0 : Nat) (x1 : Int32) (x2 : Int32) (x3 : Int32) (x4 : Int32) (w : Wd) : ∀ z, f6_odds x0 x1 x2 x3 x4 w = some z → OkM mX6_odds 8 0 0 [vR x0, vI x1, vI x2, vI x3, vI x4] w (rtJ z.1) z.2 :=
  OkM.of (rt := rtJ) moX6_odds (Nat.le_of_ble_eq_true rfl) (fun X => wpf6_odds X w x0 x1 x2 x3 x4 w)
def tbX6_image : List (Nat × Instr × Nat) := [(0, .aload_n 0, 1), (1, .iconst 1, 1), (2, .putfield 252, 3), (5, .iconst 0, 1), (6, .istore_n 1, 1), (7, .iload_n 1, 1), (8, .bipush 18, 2), (10, .if_icmp .ge 21, 3), (13, .aload_n 0, 1), (14, .getfield 31, 3), (17, .iload_n 1, 1), (18, .aload_n 0, 1), (19, .getfield 16, 3), (22, .iload_n 1, 1), (23, .iaload, 1), (24, .iastore, 1), (25, .iinc 1 1, 3), (28, .goto (-21), 3), (31, .iconst 0, 1), (32, .istore_n 1, 1), (33, .iload_n 1, 1), (34, .iconst 4, 1), (35, .if_icmp .ge 24, 3), (38, .aload_n 0, 1), (39, .getfield 31, 3), (42, .bipush 18, 2), (44, .iload_n 1, 1), (45, .iadd, 1), (46, .aload_n 0, 1), (47, .getfield 19, 3), (50, .iload_n 1, 1), (51, .iaload, 1), (52, .iastore, 1), (53, .iinc 1 1, 3), (56, .goto (-23), 3), (59, .aload_n 0, 1), (60, .getfield 34, 3), (63, .iconst 0, 1), (64, .aload_n 0, 1), (65, .getfield 72, 3), (68, .iastore, 1), (69, .aload_n 0, 1), (70, .getfield 34, 3), (73, .iconst 1, 1), (74, .aload_n 0, 1), (75, .getfield 92, 3), (78, .iastore, 1), (79, .aload_n 0, 1), (80, .getfield 72, 3), (83, .ireturn, 1)]
set_option maxRecDepth 20000 in
theorem dtX6_image : ∀ x ∈ tbX6_image, decode cX6_image x.1 = .ok x.2 := by decide +kernel
noncomputable def b6_image_33 (k33 : Nat × Int32 → Wd → Option (Int32 × Wd)) (v : Nat × Int32) (w : Wd) : Option (Int32 × Wd) :=
  if (4 : Int32) ≤ v.2 then (ck (tg w v.1 = 6) (ck (tg w (wr w v.1 13) = 20 ∧ vp_in (0 : Int32) (ln w (wr w v.1 13))) (lw (sI w (wr w v.1 13) ((0 : Int32)).toNatClampNeg (wi w v.1 0)) fun w8 => (ck (tg w8 (wr w8 v.1 13) = 20 ∧ vp_in (1 : Int32) (ln w8 (wr w8 v.1 13))) (lw (sI w8 (wr w8 v.1 13) ((1 : Int32)).toNatClampNeg (wi w8 v.1 10)) fun w11 => (some ((wi w11 v.1 0), w11))))))) else (ck (tg w v.1 = 6) (ck (tg w (wr w v.1 4) = 20 ∧ vp_in v.2 (ln w (wr w v.1 4))) (ck (tg w (wr w v.1 12) = 20 ∧ vp_in ((18 : Int32) + v.2) (ln w (wr w v.1 12))) (lw (sI w (wr w v.1 12) (((18 : Int32) + v.2)).toNatClampNeg (wi w (wr w v.1 4) (v.2).toNatClampNeg)) fun w16 => (k33 (v.1, (v.2 + (1 : Int32))) w16)))))
theorem wpb6_image_33 (X : CX) (w0 : Wd) (k33 : Nat × Int32 → Wd → Option (Int32 × Wd)) (hk33 : ∀ (v : Nat × Int32) (w : Wd), WPe rtI X (mX6_image, 1, 0, 0, w0) 0 0 (k33 v w) 33 [(0, vR v.1), (1, vI v.2)] [] w) (v : Nat × Int32) (w : Wd) : WPe rtI X (mX6_image, 1, 0, 0, w0) 0 0 (b6_image_33 k33 v w) 33 [(0, vR v.1), (1, vI v.2)] [] w := by
  unfold b6_image_33
  refine WPe_iload_n (pc := 33) 1 (dd dtX6_image 20 rfl) rfl ?_
  refine WPe_iconst (pc := 34) (4 : Int32) (dd dtX6_image 21 rfl) (by decide) ?_
  refine WPe_icmp_ge (pc := 35) 59 (dd dtX6_image 22 rfl) (by decide) (fun h5 => ?_) (fun h5 => ?_)
  · refine WPe_aload_n (pc := 59) 0 (dd dtX6_image 35 rfl) rfl ?_
    refine WPe_ck fun h6 => ?_
    refine WPe_getR (pc := 60) (t := 6) (C := RX6) (T := TX6) 13 (dd dtX6_image 36 rfl) (shE h6) rfl (Nat.le_of_ble_eq_true rfl) rfl (bw_mem4 66 rfl rfl) ?_
    refine WPe_iconst (pc := 63) (0 : Int32) (dd dtX6_image 37 rfl) (by decide) ?_
    refine WPe_aload_n (pc := 64) 0 (dd dtX6_image 38 rfl) rfl ?_
    refine WPe_getI (pc := 65) (t := 6) (C := RX6) (T := TX6) 0 (dd dtX6_image 39 rfl) (shE h6) rfl (Nat.le_of_ble_eq_true rfl) rfl (bw_mem4 53 rfl rfl) ?_
    refine WPe_ck fun h7 => ?_
    refine WPe_iast (pc := 68) (dd dtX6_image 40 rfl) (shE h7.1) h7.2 ?_
    refine WPe_lw fun w8 e9 => ?_
    refine WPe_aload_n (pc := 69) 0 (dd dtX6_image 41 rfl) rfl ?_
    refine WPe_getR (pc := 70) (t := 6) (C := RX6) (T := TX6) 13 (dd dtX6_image 42 rfl) (shI e9 (shE h6)) rfl (Nat.le_of_ble_eq_true rfl) rfl (bw_mem4 66 rfl rfl) ?_
    refine WPe_iconst (pc := 73) (1 : Int32) (dd dtX6_image 43 rfl) (by decide) ?_
    refine WPe_aload_n (pc := 74) 0 (dd dtX6_image 44 rfl) rfl ?_
    refine WPe_getI (pc := 75) (t := 6) (C := RX6) (T := TX6) 10 (dd dtX6_image 45 rfl) (shI e9 (shE h6)) rfl (Nat.le_of_ble_eq_true rfl) rfl (bw_mem4 63 rfl rfl) ?_
    refine WPe_ck fun h10 => ?_
    refine WPe_iast (pc := 78) (dd dtX6_image 46 rfl) (shE h10.1) h10.2 ?_
    refine WPe_lw fun w11 e12 => ?_
    refine WPe_aload_n (pc := 79) 0 (dd dtX6_image 47 rfl) rfl ?_
    refine WPe_getI (pc := 80) (t := 6) (C := RX6) (T := TX6) 0 (dd dtX6_image 48 rfl) (shI e12 (shI e9 (shE h6))) rfl (Nat.le_of_ble_eq_true rfl) rfl (bw_mem4 53 rfl rfl) ?_
    exact WPe_ireturn (pc := 83) (dd dtX6_image 49 rfl) rfl rfl ⟨(Nat.le_of_ble_eq_true rfl), (Nat.le_of_ble_eq_true rfl)⟩
  · refine WPe_aload_n (pc := 38) 0 (dd dtX6_image 23 rfl) rfl ?_
    refine WPe_ck fun h13 => ?_
    refine WPe_getR (pc := 39) (t := 6) (C := RX6) (T := TX6) 12 (dd dtX6_image 24 rfl) (shE h13) rfl (Nat.le_of_ble_eq_true rfl) rfl (bw_mem4 65 rfl rfl) ?_
    refine WPe_bipush (pc := 42) (18 : Int32) (dd dtX6_image 25 rfl) (by decide) ?_
    refine WPe_iload_n (pc := 44) 1 (dd dtX6_image 26 rfl) rfl ?_
    refine WPe_iadd (pc := 45) (dd dtX6_image 27 rfl) ?_
    refine WPe_aload_n (pc := 46) 0 (dd dtX6_image 28 rfl) rfl ?_
    refine WPe_getR (pc := 47) (t := 6) (C := RX6) (T := TX6) 4 (dd dtX6_image 29 rfl) (shE h13) rfl (Nat.le_of_ble_eq_true rfl) rfl (bw_mem4 57 rfl rfl) ?_
    refine WPe_iload_n (pc := 50) 1 (dd dtX6_image 30 rfl) rfl ?_
    refine WPe_ck fun h14 => ?_
    refine WPe_iald (pc := 51) (dd dtX6_image 31 rfl) (shE h14.1) h14.2 ?_
    refine WPe_ck fun h15 => ?_
    refine WPe_iast (pc := 52) (dd dtX6_image 32 rfl) (shE h15.1) h15.2 ?_
    refine WPe_lw fun w16 e17 => ?_
    refine WPe_iinc (pc := 53) (ls' := [(1, vI (v.2 + (1 : Int32))), (0, vR v.1)]) 1 (v.2 + (1 : Int32)) (dd dtX6_image 33 rfl) rfl (congrArg (HAdd.hAdd _) (by decide : Int32.ofInt (1) = (1 : Int32))) (Nat.le_of_ble_eq_true rfl) rfl ?_
    refine WPe_goto (pc := 56) 33 (dd dtX6_image 34 rfl) (by decide) ?_
    refine WPe_sub [1, 0] rfl ?_
    exact hk33 (v.1, (v.2 + (1 : Int32))) w16
theorem wplb6_image_33 (X : CX) (w0 : Wd)  : ∀ (n9 : Nat) (v : Nat × Int32) (w : Wd), WPe rtI X (mX6_image, 1, 0, 0, w0) 0 0 (loopF (b6_image_33 ) n9 v w) 33 [(0, vR v.1), (1, vI v.2)] [] w :=
  WPe_loop (rt := rtI) (X := X) (M := (mX6_image, 1, 0, 0, w0)) (fun v : Nat × Int32 => [(0, vR v.1), (1, vI v.2)]) (fun k hk v w => wpb6_image_33 X w0  k hk v w)
noncomputable def b6_image_7 (k7 : Nat × Int32 → Wd → Option (Int32 × Wd)) (v : Nat × Int32) (w : Wd) : Option (Int32 × Wd) :=
  if (18 : Int32) ≤ v.2 then (loopF (b6_image_33) FU (v.1, (0 : Int32)) w) else (ck (tg w v.1 = 6) (ck (tg w (wr w v.1 3) = 20 ∧ vp_in v.2 (ln w (wr w v.1 3))) (ck (tg w (wr w v.1 12) = 20 ∧ vp_in v.2 (ln w (wr w v.1 12))) (lw (sI w (wr w v.1 12) (v.2).toNatClampNeg (wi w (wr w v.1 3) (v.2).toNatClampNeg)) fun w21 => (k7 (v.1, (v.2 + (1 : Int32))) w21)))))
theorem wpb6_image_7 (X : CX) (w0 : Wd) (k7 : Nat × Int32 → Wd → Option (Int32 × Wd)) (hk7 : ∀ (v : Nat × Int32) (w : Wd), WPe rtI X (mX6_image, 1, 0, 0, w0) 0 0 (k7 v w) 7 [(0, vR v.1), (1, vI v.2)] [] w) (v : Nat × Int32) (w : Wd) : WPe rtI X (mX6_image, 1, 0, 0, w0) 0 0 (b6_image_7 k7 v w) 7 [(0, vR v.1), (1, vI v.2)] [] w := by
  unfold b6_image_7
  refine WPe_iload_n (pc := 7) 1 (dd dtX6_image 5 rfl) rfl ?_
  refine WPe_bipush (pc := 8) (18 : Int32) (dd dtX6_image 6 rfl) (by decide) ?_
  refine WPe_icmp_ge (pc := 10) 31 (dd dtX6_image 7 rfl) (by decide) (fun h4 => ?_) (fun h4 => ?_)
  · refine WPe_iconst (pc := 31) (0 : Int32) (dd dtX6_image 18 rfl) (by decide) ?_
    refine WPe_istore_n (pc := 32) (ls' := [(1, vI (0 : Int32)), (0, vR v.1)]) (dd dtX6_image 19 rfl) (Nat.le_of_ble_eq_true rfl) rfl ?_
    refine WPe_sub [1, 0] rfl ?_
    exact wplb6_image_33 X w0  FU _ _
  · refine WPe_aload_n (pc := 13) 0 (dd dtX6_image 8 rfl) rfl ?_
    refine WPe_ck fun h18 => ?_
    refine WPe_getR (pc := 14) (t := 6) (C := RX6) (T := TX6) 12 (dd dtX6_image 9 rfl) (shE h18) rfl (Nat.le_of_ble_eq_true rfl) rfl (bw_mem4 65 rfl rfl) ?_
    refine WPe_iload_n (pc := 17) 1 (dd dtX6_image 10 rfl) rfl ?_
    refine WPe_aload_n (pc := 18) 0 (dd dtX6_image 11 rfl) rfl ?_
    refine WPe_getR (pc := 19) (t := 6) (C := RX6) (T := TX6) 3 (dd dtX6_image 12 rfl) (shE h18) rfl (Nat.le_of_ble_eq_true rfl) rfl (bw_mem4 56 rfl rfl) ?_
    refine WPe_iload_n (pc := 22) 1 (dd dtX6_image 13 rfl) rfl ?_
    refine WPe_ck fun h19 => ?_
    refine WPe_iald (pc := 23) (dd dtX6_image 14 rfl) (shE h19.1) h19.2 ?_
    refine WPe_ck fun h20 => ?_
    refine WPe_iast (pc := 24) (dd dtX6_image 15 rfl) (shE h20.1) h20.2 ?_
    refine WPe_lw fun w21 e22 => ?_
    refine WPe_iinc (pc := 25) (ls' := [(1, vI (v.2 + (1 : Int32))), (0, vR v.1)]) 1 (v.2 + (1 : Int32)) (dd dtX6_image 16 rfl) rfl (congrArg (HAdd.hAdd _) (by decide : Int32.ofInt (1) = (1 : Int32))) (Nat.le_of_ble_eq_true rfl) rfl ?_
    refine WPe_goto (pc := 28) 7 (dd dtX6_image 17 rfl) (by decide) ?_
    refine WPe_sub [1, 0] rfl ?_
    exact hk7 (v.1, (v.2 + (1 : Int32))) w21
theorem wplb6_image_7 (X : CX) (w0 : Wd)  : ∀ (n9 : Nat) (v : Nat × Int32) (w : Wd), WPe rtI X (mX6_image, 1, 0, 0, w0) 0 0 (loopF (b6_image_7 ) n9 v w) 7 [(0, vR v.1), (1, vI v.2)] [] w :=
  WPe_loop (rt := rtI) (X := X) (M := (mX6_image, 1, 0, 0, w0)) (fun v : Nat × Int32 => [(0, vR v.1), (1, vI v.2)]) (fun k hk v w => wpb6_image_7 X w0  k hk v w)
noncomputable def f6_image (x0 : Nat) (w : Wd) : Option (Int32 × Wd) :=
  ck (tg w x0 = 6) (lw (sI w x0 11 (1 : Int32)) fun w2 => (loopF (b6_image_7) FU (x0, (0 : Int32)) w2))
theorem wpf6_image (X : CX) (w0 : Wd) (x0 : Nat) (w : Wd) : WPe rtI X (mX6_image, 1, 0, 0, w0) 0 0 (f6_image x0 w) 0 [(0, vR x0)] [] w := by
  unfold f6_image
  refine WPe_aload_n (pc := 0) 0 (dd dtX6_image 0 rfl) rfl ?_
  refine WPe_iconst (pc := 1) (1 : Int32) (dd dtX6_image 1 rfl) (by decide) ?_
  refine WPe_ck fun h1 => ?_
  refine WPe_putI (pc := 2) (t := 6) (C := RX6) (T := TX6) 11 (dd dtX6_image 2 rfl) (shE h1) rfl (Nat.le_of_ble_eq_true rfl) (bw_mem4 64 rfl rfl) (Or.inl rfl) rfl rfl rfl ?_
  refine WPe_lw fun w2 e3 => ?_
  refine WPe_iconst (pc := 5) (0 : Int32) (dd dtX6_image 3 rfl) (by decide) ?_
  refine WPe_istore_n (pc := 6) (ls' := [(1, vI (0 : Int32)), (0, vR x0)]) (dd dtX6_image 4 rfl) (Nat.le_of_ble_eq_true rfl) rfl ?_
  refine WPe_sub [1, 0] rfl ?_
  exact wplb6_image_7 X w0  FU _ _
theorem okf6_image (x0 : Nat) (w : Wd) : ∀ z, f6_image x0 w = some z → OkM mX6_image 1 0 0 [vR x0] w (rtI z.1) z.2 :=
  OkM.of (rt := rtI) moX6_image (Nat.le_of_ble_eq_true rfl) (fun X => wpf6_image X w x0 w)
def tbX6_back : List (Nat × Instr × Nat) := [(0, .aload_n 0, 1), (1, .getfield 252, 3), (4, .ifCond .ne 6, 3), (7, .bipush (-3), 2), (9, .ireturn, 1), (10, .iconst 0, 1), (11, .istore_n 1, 1), (12, .iload_n 1, 1), (13, .bipush 18, 2), (15, .if_icmp .ge 21, 3), (18, .aload_n 0, 1), (19, .getfield 16, 3), (22, .iload_n 1, 1), (23, .aload_n 0, 1), (24, .getfield 31, 3), (27, .iload_n 1, 1), (28, .iaload, 1), (29, .iastore, 1), (30, .iinc 1 1, 3), (33, .goto (-21), 3), (36, .iconst 0, 1), (37, .istore_n 1, 1), (38, .iload_n 1, 1), (39, .iconst 4, 1), (40, .if_icmp .ge 24, 3), (43, .aload_n 0, 1), (44, .getfield 19, 3), (47, .iload_n 1, 1), (48, .aload_n 0, 1), (49, .getfield 31, 3), (52, .bipush 18, 2), (54, .iload_n 1, 1), (55, .iadd, 1), (56, .iaload, 1), (57, .iastore, 1), (58, .iinc 1 1, 3), (61, .goto (-23), 3), (64, .aload_n 0, 1), (65, .aload_n 0, 1), (66, .getfield 34, 3), (69, .iconst 0, 1), (70, .iaload, 1), (71, .putfield 72, 3), (74, .aload_n 0, 1), (75, .aload_n 0, 1), (76, .getfield 34, 3), (79, .iconst 1, 1), (80, .iaload, 1), (81, .putfield 92, 3), (84, .aload_n 0, 1), (85, .getfield 72, 3), (88, .ireturn, 1)]
set_option maxRecDepth 20000 in
theorem dtX6_back : ∀ x ∈ tbX6_back, decode cX6_back x.1 = .ok x.2 := by decide +kernel
noncomputable def b6_back_38 (k38 : Nat × Int32 → Wd → Option (Int32 × Wd)) (v : Nat × Int32) (w : Wd) : Option (Int32 × Wd) :=
  if (4 : Int32) ≤ v.2 then (ck (tg w v.1 = 6) (ck (tg w (wr w v.1 13) = 20 ∧ vp_in (0 : Int32) (ln w (wr w v.1 13))) (lw (sI w v.1 0 (wi w (wr w v.1 13) ((0 : Int32)).toNatClampNeg)) fun w7 => (ck (tg w7 (wr w7 v.1 13) = 20 ∧ vp_in (1 : Int32) (ln w7 (wr w7 v.1 13))) (lw (sI w7 v.1 10 (wi w7 (wr w7 v.1 13) ((1 : Int32)).toNatClampNeg)) fun w10 => (some ((wi w10 v.1 0), w10))))))) else (ck (tg w v.1 = 6) (ck (tg w (wr w v.1 12) = 20 ∧ vp_in ((18 : Int32) + v.2) (ln w (wr w v.1 12))) (ck (tg w (wr w v.1 4) = 20 ∧ vp_in v.2 (ln w (wr w v.1 4))) (lw (sI w (wr w v.1 4) (v.2).toNatClampNeg (wi w (wr w v.1 12) (((18 : Int32) + v.2)).toNatClampNeg)) fun w15 => (k38 (v.1, (v.2 + (1 : Int32))) w15)))))
theorem wpb6_back_38 (X : CX) (w0 : Wd) (k38 : Nat × Int32 → Wd → Option (Int32 × Wd)) (hk38 : ∀ (v : Nat × Int32) (w : Wd), WPe rtI X (mX6_back, 1, 0, 0, w0) 0 0 (k38 v w) 38 [(0, vR v.1), (1, vI v.2)] [] w) (v : Nat × Int32) (w : Wd) : WPe rtI X (mX6_back, 1, 0, 0, w0) 0 0 (b6_back_38 k38 v w) 38 [(0, vR v.1), (1, vI v.2)] [] w := by
  unfold b6_back_38
  refine WPe_iload_n (pc := 38) 1 (dd dtX6_back 22 rfl) rfl ?_
  refine WPe_iconst (pc := 39) (4 : Int32) (dd dtX6_back 23 rfl) (by decide) ?_
  refine WPe_icmp_ge (pc := 40) 64 (dd dtX6_back 24 rfl) (by decide) (fun h4 => ?_) (fun h4 => ?_)
  · refine WPe_aload_n (pc := 64) 0 (dd dtX6_back 37 rfl) rfl ?_
    refine WPe_aload_n (pc := 65) 0 (dd dtX6_back 38 rfl) rfl ?_
    refine WPe_ck fun h5 => ?_
    refine WPe_getR (pc := 66) (t := 6) (C := RX6) (T := TX6) 13 (dd dtX6_back 39 rfl) (shE h5) rfl (Nat.le_of_ble_eq_true rfl) rfl (bw_mem4 66 rfl rfl) ?_
    refine WPe_iconst (pc := 69) (0 : Int32) (dd dtX6_back 40 rfl) (by decide) ?_
    refine WPe_ck fun h6 => ?_
    refine WPe_iald (pc := 70) (dd dtX6_back 41 rfl) (shE h6.1) h6.2 ?_
    refine WPe_putI (pc := 71) (t := 6) (C := RX6) (T := TX6) 0 (dd dtX6_back 42 rfl) (shE h5) rfl (Nat.le_of_ble_eq_true rfl) (bw_mem4 53 rfl rfl) (Or.inl rfl) rfl rfl rfl ?_
    refine WPe_lw fun w7 e8 => ?_
    refine WPe_aload_n (pc := 74) 0 (dd dtX6_back 43 rfl) rfl ?_
    refine WPe_aload_n (pc := 75) 0 (dd dtX6_back 44 rfl) rfl ?_
    refine WPe_getR (pc := 76) (t := 6) (C := RX6) (T := TX6) 13 (dd dtX6_back 45 rfl) (shI e8 (shE h5)) rfl (Nat.le_of_ble_eq_true rfl) rfl (bw_mem4 66 rfl rfl) ?_
    refine WPe_iconst (pc := 79) (1 : Int32) (dd dtX6_back 46 rfl) (by decide) ?_
    refine WPe_ck fun h9 => ?_
    refine WPe_iald (pc := 80) (dd dtX6_back 47 rfl) (shE h9.1) h9.2 ?_
    refine WPe_putI (pc := 81) (t := 6) (C := RX6) (T := TX6) 10 (dd dtX6_back 48 rfl) (shI e8 (shE h5)) rfl (Nat.le_of_ble_eq_true rfl) (bw_mem4 63 rfl rfl) (Or.inl rfl) rfl rfl rfl ?_
    refine WPe_lw fun w10 e11 => ?_
    refine WPe_aload_n (pc := 84) 0 (dd dtX6_back 49 rfl) rfl ?_
    refine WPe_getI (pc := 85) (t := 6) (C := RX6) (T := TX6) 0 (dd dtX6_back 50 rfl) (shI e11 (shI e8 (shE h5))) rfl (Nat.le_of_ble_eq_true rfl) rfl (bw_mem4 53 rfl rfl) ?_
    exact WPe_ireturn (pc := 88) (dd dtX6_back 51 rfl) rfl rfl ⟨(Nat.le_of_ble_eq_true rfl), (Nat.le_of_ble_eq_true rfl)⟩
  · refine WPe_aload_n (pc := 43) 0 (dd dtX6_back 25 rfl) rfl ?_
    refine WPe_ck fun h12 => ?_
    refine WPe_getR (pc := 44) (t := 6) (C := RX6) (T := TX6) 4 (dd dtX6_back 26 rfl) (shE h12) rfl (Nat.le_of_ble_eq_true rfl) rfl (bw_mem4 57 rfl rfl) ?_
    refine WPe_iload_n (pc := 47) 1 (dd dtX6_back 27 rfl) rfl ?_
    refine WPe_aload_n (pc := 48) 0 (dd dtX6_back 28 rfl) rfl ?_
    refine WPe_getR (pc := 49) (t := 6) (C := RX6) (T := TX6) 12 (dd dtX6_back 29 rfl) (shE h12) rfl (Nat.le_of_ble_eq_true rfl) rfl (bw_mem4 65 rfl rfl) ?_
    refine WPe_bipush (pc := 52) (18 : Int32) (dd dtX6_back 30 rfl) (by decide) ?_
    refine WPe_iload_n (pc := 54) 1 (dd dtX6_back 31 rfl) rfl ?_
    refine WPe_iadd (pc := 55) (dd dtX6_back 32 rfl) ?_
    refine WPe_ck fun h13 => ?_
    refine WPe_iald (pc := 56) (dd dtX6_back 33 rfl) (shE h13.1) h13.2 ?_
    refine WPe_ck fun h14 => ?_
    refine WPe_iast (pc := 57) (dd dtX6_back 34 rfl) (shE h14.1) h14.2 ?_
    refine WPe_lw fun w15 e16 => ?_
    refine WPe_iinc (pc := 58) (ls' := [(1, vI (v.2 + (1 : Int32))), (0, vR v.1)]) 1 (v.2 + (1 : Int32)) (dd dtX6_back 35 rfl) rfl (congrArg (HAdd.hAdd _) (by decide : Int32.ofInt (1) = (1 : Int32))) (Nat.le_of_ble_eq_true rfl) rfl ?_
    refine WPe_goto (pc := 61) 38 (dd dtX6_back 36 rfl) (by decide) ?_
    refine WPe_sub [1, 0] rfl ?_
    exact hk38 (v.1, (v.2 + (1 : Int32))) w15
theorem wplb6_back_38 (X : CX) (w0 : Wd)  : ∀ (n9 : Nat) (v : Nat × Int32) (w : Wd), WPe rtI X (mX6_back, 1, 0, 0, w0) 0 0 (loopF (b6_back_38 ) n9 v w) 38 [(0, vR v.1), (1, vI v.2)] [] w :=
  WPe_loop (rt := rtI) (X := X) (M := (mX6_back, 1, 0, 0, w0)) (fun v : Nat × Int32 => [(0, vR v.1), (1, vI v.2)]) (fun k hk v w => wpb6_back_38 X w0  k hk v w)
noncomputable def b6_back_12 (k12 : Nat × Int32 → Wd → Option (Int32 × Wd)) (v : Nat × Int32) (w : Wd) : Option (Int32 × Wd) :=
  if (18 : Int32) ≤ v.2 then (loopF (b6_back_38) FU (v.1, (0 : Int32)) w) else (ck (tg w v.1 = 6) (ck (tg w (wr w v.1 12) = 20 ∧ vp_in v.2 (ln w (wr w v.1 12))) (ck (tg w (wr w v.1 3) = 20 ∧ vp_in v.2 (ln w (wr w v.1 3))) (lw (sI w (wr w v.1 3) (v.2).toNatClampNeg (wi w (wr w v.1 12) (v.2).toNatClampNeg)) fun w20 => (k12 (v.1, (v.2 + (1 : Int32))) w20)))))
theorem wpb6_back_12 (X : CX) (w0 : Wd) (k12 : Nat × Int32 → Wd → Option (Int32 × Wd)) (hk12 : ∀ (v : Nat × Int32) (w : Wd), WPe rtI X (mX6_back, 1, 0, 0, w0) 0 0 (k12 v w) 12 [(0, vR v.1), (1, vI v.2)] [] w) (v : Nat × Int32) (w : Wd) : WPe rtI X (mX6_back, 1, 0, 0, w0) 0 0 (b6_back_12 k12 v w) 12 [(0, vR v.1), (1, vI v.2)] [] w := by
  unfold b6_back_12
  refine WPe_iload_n (pc := 12) 1 (dd dtX6_back 7 rfl) rfl ?_
  refine WPe_bipush (pc := 13) (18 : Int32) (dd dtX6_back 8 rfl) (by decide) ?_
  refine WPe_icmp_ge (pc := 15) 36 (dd dtX6_back 9 rfl) (by decide) (fun h3 => ?_) (fun h3 => ?_)
  · refine WPe_iconst (pc := 36) (0 : Int32) (dd dtX6_back 20 rfl) (by decide) ?_
    refine WPe_istore_n (pc := 37) (ls' := [(1, vI (0 : Int32)), (0, vR v.1)]) (dd dtX6_back 21 rfl) (Nat.le_of_ble_eq_true rfl) rfl ?_
    refine WPe_sub [1, 0] rfl ?_
    exact wplb6_back_38 X w0  FU _ _
  · refine WPe_aload_n (pc := 18) 0 (dd dtX6_back 10 rfl) rfl ?_
    refine WPe_ck fun h17 => ?_
    refine WPe_getR (pc := 19) (t := 6) (C := RX6) (T := TX6) 3 (dd dtX6_back 11 rfl) (shE h17) rfl (Nat.le_of_ble_eq_true rfl) rfl (bw_mem4 56 rfl rfl) ?_
    refine WPe_iload_n (pc := 22) 1 (dd dtX6_back 12 rfl) rfl ?_
    refine WPe_aload_n (pc := 23) 0 (dd dtX6_back 13 rfl) rfl ?_
    refine WPe_getR (pc := 24) (t := 6) (C := RX6) (T := TX6) 12 (dd dtX6_back 14 rfl) (shE h17) rfl (Nat.le_of_ble_eq_true rfl) rfl (bw_mem4 65 rfl rfl) ?_
    refine WPe_iload_n (pc := 27) 1 (dd dtX6_back 15 rfl) rfl ?_
    refine WPe_ck fun h18 => ?_
    refine WPe_iald (pc := 28) (dd dtX6_back 16 rfl) (shE h18.1) h18.2 ?_
    refine WPe_ck fun h19 => ?_
    refine WPe_iast (pc := 29) (dd dtX6_back 17 rfl) (shE h19.1) h19.2 ?_
    refine WPe_lw fun w20 e21 => ?_
    refine WPe_iinc (pc := 30) (ls' := [(1, vI (v.2 + (1 : Int32))), (0, vR v.1)]) 1 (v.2 + (1 : Int32)) (dd dtX6_back 18 rfl) rfl (congrArg (HAdd.hAdd _) (by decide : Int32.ofInt (1) = (1 : Int32))) (Nat.le_of_ble_eq_true rfl) rfl ?_
    refine WPe_goto (pc := 33) 12 (dd dtX6_back 19 rfl) (by decide) ?_
    refine WPe_sub [1, 0] rfl ?_
    exact hk12 (v.1, (v.2 + (1 : Int32))) w20
theorem wplb6_back_12 (X : CX) (w0 : Wd)  : ∀ (n9 : Nat) (v : Nat × Int32) (w : Wd), WPe rtI X (mX6_back, 1, 0, 0, w0) 0 0 (loopF (b6_back_12 ) n9 v w) 12 [(0, vR v.1), (1, vI v.2)] [] w :=
  WPe_loop (rt := rtI) (X := X) (M := (mX6_back, 1, 0, 0, w0)) (fun v : Nat × Int32 => [(0, vR v.1), (1, vI v.2)]) (fun k hk v w => wpb6_back_12 X w0  k hk v w)
noncomputable def f6_back (x0 : Nat) (w : Wd) : Option (Int32 × Wd) :=
  ck (tg w x0 = 6) (if (wi w x0 11) = (0 : Int32) then (some ((-3 : Int32), w)) else (loopF (b6_back_12) FU (x0, (0 : Int32)) w))
theorem wpf6_back (X : CX) (w0 : Wd) (x0 : Nat) (w : Wd) : WPe rtI X (mX6_back, 1, 0, 0, w0) 0 0 (f6_back x0 w) 0 [(0, vR x0)] [] w := by
  unfold f6_back
  refine WPe_aload_n (pc := 0) 0 (dd dtX6_back 0 rfl) rfl ?_
  refine WPe_ck fun h1 => ?_
  refine WPe_getI (pc := 1) (t := 6) (C := RX6) (T := TX6) 11 (dd dtX6_back 1 rfl) (shE h1) rfl (Nat.le_of_ble_eq_true rfl) rfl (bw_mem4 64 rfl rfl) ?_
  refine WPe_if_ne (pc := 4) 10 (dd dtX6_back 2 rfl) (by decide) (fun h2 => ?_) (fun h2 => ?_)
  · refine WPe_bipush (pc := 7) (-3 : Int32) (dd dtX6_back 3 rfl) (by decide) ?_
    exact WPe_ireturn (pc := 9) (dd dtX6_back 4 rfl) rfl rfl ⟨(Nat.le_of_ble_eq_true rfl), (Nat.le_of_ble_eq_true rfl)⟩
  · refine WPe_iconst (pc := 10) (0 : Int32) (dd dtX6_back 5 rfl) (by decide) ?_
    refine WPe_istore_n (pc := 11) (ls' := [(1, vI (0 : Int32)), (0, vR x0)]) (dd dtX6_back 6 rfl) (Nat.le_of_ble_eq_true rfl) rfl ?_
    refine WPe_sub [1, 0] rfl ?_
    exact wplb6_back_12 X w0  FU _ _
theorem okf6_back (x0 : Nat) (w : Wd) : ∀ z, f6_back x0 w = some z → OkM mX6_back 1 0 0 [vR x0] w (rtI z.1) z.2 :=
  OkM.of (rt := rtI) moX6_back (Nat.le_of_ble_eq_true rfl) (fun X => wpf6_back X w x0 w)
def tbX6_sheet : List (Nat × Instr × Nat) := [(0, .iload_n 1, 1), (1, .iconst 0, 1), (2, .iconst 3, 1), (3, .invokestatic 75, 3), (6, .ifCond .eq 23, 3), (9, .iload_n 2, 1), (10, .iconst (-1), 1), (11, .iconst 2, 1), (12, .invokestatic 75, 3), (15, .ifCond .eq 14, 3), (18, .iload_n 2, 1), (19, .iconst (-1), 1), (20, .if_icmp .eq 12, 3), (23, .iload_n 3, 1), (24, .bipush 40, 2), (26, .if_icmp .le 6, 3), (29, .bipush (-2), 2), (31, .ireturn, 1), (32, .iload_n 2, 1), (33, .iconst (-1), 1), (34, .if_icmp .eq 10, 3), (37, .iload_n 3, 1), (38, .ifCond .ge 6, 3), (41, .bipush (-14), 2), (43, .ireturn, 1), (44, .aload_n 0, 1), (45, .getfield 37, 3), (48, .iload_n 1, 1), (49, .iload_n 2, 1), (50, .iastore, 1), (51, .aload_n 0, 1), (52, .getfield 40, 3), (55, .iload_n 1, 1), (56, .iload_n 2, 1), (57, .iconst (-1), 1), (58, .if_icmp .ne 7, 3), (61, .iconst 0, 1), (62, .goto 4, 3), (65, .iload_n 3, 1), (66, .iastore, 1), (67, .iconst 0, 1), (68, .istore 4, 2), (70, .iload 4, 2), (72, .bipush 40, 2), (74, .if_icmp .ge 22, 3), (77, .aload_n 0, 1), (78, .getfield 43, 3), (81, .bipush 40, 2), (83, .iload_n 1, 1), (84, .imul, 1), (85, .iload 4, 2), (87, .iadd, 1), (88, .iconst 0, 1), (89, .iastore, 1), (90, .iinc 4 1, 3), (93, .goto (-23), 3), (96, .iconst 1, 1), (97, .ireturn, 1)]
set_option maxRecDepth 20000 in
theorem dtX6_sheet : ∀ x ∈ tbX6_sheet, decode cX6_sheet x.1 = .ok x.2 := by decide +kernel
noncomputable def b6_sheet_70 (k70 : Nat × Int32 × Int32 → Wd → Option (Int32 × Wd)) (v : Nat × Int32 × Int32) (w : Wd) : Option (Int32 × Wd) :=
  if (40 : Int32) ≤ v.2.2 then (some ((1 : Int32), w)) else (ck (tg w v.1 = 6) (ck (tg w (wr w v.1 16) = 20 ∧ vp_in (((40 : Int32) * v.2.1) + v.2.2) (ln w (wr w v.1 16))) (lw (sI w (wr w v.1 16) ((((40 : Int32) * v.2.1) + v.2.2)).toNatClampNeg (0 : Int32)) fun w22 => (k70 (v.1, v.2.1, (v.2.2 + (1 : Int32))) w22))))
theorem wpb6_sheet_70 (X : CX) (w0 : Wd) (k70 : Nat × Int32 × Int32 → Wd → Option (Int32 × Wd)) (hk70 : ∀ (v : Nat × Int32 × Int32) (w : Wd), WPe rtI X (mX6_sheet, 2, 0, 0, w0) 0 0 (k70 v w) 70 [(0, vR v.1), (1, vI v.2.1), (4, vI v.2.2)] [] w) (v : Nat × Int32 × Int32) (w : Wd) : WPe rtI X (mX6_sheet, 2, 0, 0, w0) 0 0 (b6_sheet_70 k70 v w) 70 [(0, vR v.1), (1, vI v.2.1), (4, vI v.2.2)] [] w := by
  unfold b6_sheet_70
  refine WPe_iload (pc := 70) 2 (dd dtX6_sheet 42 rfl) rfl ?_
  refine WPe_bipush (pc := 72) (40 : Int32) (dd dtX6_sheet 43 rfl) (by decide) ?_
  refine WPe_icmp_ge (pc := 74) 96 (dd dtX6_sheet 44 rfl) (by decide) (fun h19 => ?_) (fun h19 => ?_)
  · refine WPe_iconst (pc := 96) (1 : Int32) (dd dtX6_sheet 56 rfl) (by decide) ?_
    exact WPe_ireturn (pc := 97) (dd dtX6_sheet 57 rfl) rfl rfl ⟨(Nat.le_of_ble_eq_true rfl), (Nat.le_of_ble_eq_true rfl)⟩
  · refine WPe_aload_n (pc := 77) 0 (dd dtX6_sheet 45 rfl) rfl ?_
    refine WPe_ck fun h20 => ?_
    refine WPe_getR (pc := 78) (t := 6) (C := RX6) (T := TX6) 16 (dd dtX6_sheet 46 rfl) (shE h20) rfl (Nat.le_of_ble_eq_true rfl) rfl (bw_mem4 69 rfl rfl) ?_
    refine WPe_bipush (pc := 81) (40 : Int32) (dd dtX6_sheet 47 rfl) (by decide) ?_
    refine WPe_iload_n (pc := 83) 1 (dd dtX6_sheet 48 rfl) rfl ?_
    refine WPe_imul (pc := 84) (dd dtX6_sheet 49 rfl) ?_
    refine WPe_iload (pc := 85) 2 (dd dtX6_sheet 50 rfl) rfl ?_
    refine WPe_iadd (pc := 87) (dd dtX6_sheet 51 rfl) ?_
    refine WPe_iconst (pc := 88) (0 : Int32) (dd dtX6_sheet 52 rfl) (by decide) ?_
    refine WPe_ck fun h21 => ?_
    refine WPe_iast (pc := 89) (dd dtX6_sheet 53 rfl) (shE h21.1) h21.2 ?_
    refine WPe_lw fun w22 e23 => ?_
    refine WPe_iinc (pc := 90) (ls' := [(4, vI (v.2.2 + (1 : Int32))), (0, vR v.1), (1, vI v.2.1)]) 2 (v.2.2 + (1 : Int32)) (dd dtX6_sheet 54 rfl) rfl (congrArg (HAdd.hAdd _) (by decide : Int32.ofInt (1) = (1 : Int32))) (Nat.le_of_ble_eq_true rfl) rfl ?_
    refine WPe_goto (pc := 93) 70 (dd dtX6_sheet 55 rfl) (by decide) ?_
    refine WPe_sub [1, 2, 0] rfl ?_
    exact hk70 (v.1, v.2.1, (v.2.2 + (1 : Int32))) w22
theorem wplb6_sheet_70 (X : CX) (w0 : Wd)  : ∀ (n9 : Nat) (v : Nat × Int32 × Int32) (w : Wd), WPe rtI X (mX6_sheet, 2, 0, 0, w0) 0 0 (loopF (b6_sheet_70 ) n9 v w) 70 [(0, vR v.1), (1, vI v.2.1), (4, vI v.2.2)] [] w :=
  WPe_loop (rt := rtI) (X := X) (M := (mX6_sheet, 2, 0, 0, w0)) (fun v : Nat × Int32 × Int32 => [(0, vR v.1), (1, vI v.2.1), (4, vI v.2.2)]) (fun k hk v w => wpb6_sheet_70 X w0  k hk v w)
noncomputable def j6_sheet_66  (x0 : Nat) (x1 : Int32) (s0 : Int32) (s1 : Int32) (s2 : Nat) (w : Wd) : Option (Int32 × Wd) :=
  ck (tg w s2 = 20 ∧ vp_in s1 (ln w s2)) (lw (sI w s2 (s1).toNatClampNeg s0) fun w17 => (loopF (b6_sheet_70) FU (x0, x1, (0 : Int32)) w17))
theorem wpj6_sheet_66 (X : CX) (w0 : Wd)  (x0 : Nat) (x1 : Int32) (s0 : Int32) (s1 : Int32) (s2 : Nat) (w : Wd) : WPe rtI X (mX6_sheet, 2, 0, 0, w0) 0 0 (j6_sheet_66  x0 x1 s0 s1 s2 w) 66 [(0, vR x0), (1, vI x1)] [vI s0, vI s1, vR s2] w := by
  unfold j6_sheet_66
  refine WPe_ck fun h16 => ?_
  refine WPe_iast (pc := 66) (dd dtX6_sheet 39 rfl) (shE h16.1) h16.2 ?_
  refine WPe_lw fun w17 e18 => ?_
  refine WPe_iconst (pc := 67) (0 : Int32) (dd dtX6_sheet 40 rfl) (by decide) ?_
  refine WPe_istore (pc := 68) (ls' := [(4, vI (0 : Int32)), (0, vR x0), (1, vI x1)]) (dd dtX6_sheet 41 rfl) (Nat.le_of_ble_eq_true rfl) rfl ?_
  refine WPe_sub [1, 2, 0] rfl ?_
  exact wplb6_sheet_70 X w0  FU _ _
noncomputable def j6_sheet_44  (x0 : Nat) (x1 : Int32) (x2 : Int32) (x3 : Int32) (w : Wd) : Option (Int32 × Wd) :=
  ck (tg w x0 = 6) (ck (tg w (wr w x0 14) = 20 ∧ vp_in x1 (ln w (wr w x0 14))) (lw (sI w (wr w x0 14) (x1).toNatClampNeg x2) fun w13 => (if x2 = (-1 : Int32) then (j6_sheet_66 x0 x1 (0 : Int32) x1 (wr w13 x0 15) w13) else (j6_sheet_66 x0 x1 x3 x1 (wr w13 x0 15) w13))))
theorem wpj6_sheet_44 (X : CX) (w0 : Wd)  (x0 : Nat) (x1 : Int32) (x2 : Int32) (x3 : Int32) (w : Wd) : WPe rtI X (mX6_sheet, 2, 0, 0, w0) 0 0 (j6_sheet_44  x0 x1 x2 x3 w) 44 [(0, vR x0), (1, vI x1), (2, vI x2), (3, vI x3)] [] w := by
  unfold j6_sheet_44
  refine WPe_aload_n (pc := 44) 0 (dd dtX6_sheet 25 rfl) rfl ?_
  refine WPe_ck fun h11 => ?_
  refine WPe_getR (pc := 45) (t := 6) (C := RX6) (T := TX6) 14 (dd dtX6_sheet 26 rfl) (shE h11) rfl (Nat.le_of_ble_eq_true rfl) rfl (bw_mem4 67 rfl rfl) ?_
  refine WPe_iload_n (pc := 48) 1 (dd dtX6_sheet 27 rfl) rfl ?_
  refine WPe_iload_n (pc := 49) 2 (dd dtX6_sheet 28 rfl) rfl ?_
  refine WPe_ck fun h12 => ?_
  refine WPe_iast (pc := 50) (dd dtX6_sheet 29 rfl) (shE h12.1) h12.2 ?_
  refine WPe_lw fun w13 e14 => ?_
  refine WPe_aload_n (pc := 51) 0 (dd dtX6_sheet 30 rfl) rfl ?_
  refine WPe_getR (pc := 52) (t := 6) (C := RX6) (T := TX6) 15 (dd dtX6_sheet 31 rfl) (shI e14 (shE h11)) rfl (Nat.le_of_ble_eq_true rfl) rfl (bw_mem4 68 rfl rfl) ?_
  refine WPe_iload_n (pc := 55) 1 (dd dtX6_sheet 32 rfl) rfl ?_
  refine WPe_iload_n (pc := 56) 2 (dd dtX6_sheet 33 rfl) rfl ?_
  refine WPe_iconst (pc := 57) (-1 : Int32) (dd dtX6_sheet 34 rfl) (by decide) ?_
  refine WPe_icmp_ne (pc := 58) 65 (dd dtX6_sheet 35 rfl) (by decide) (fun h15 => ?_) (fun h15 => ?_)
  · refine WPe_iconst (pc := 61) (0 : Int32) (dd dtX6_sheet 36 rfl) (by decide) ?_
    refine WPe_goto (pc := 62) 66 (dd dtX6_sheet 37 rfl) (by decide) ?_
    refine WPe_sub [0, 1] rfl ?_
    exact wpj6_sheet_66 X w0  x0 x1 (0 : Int32) x1 (wr w13 x0 15) w13
  · refine WPe_iload_n (pc := 65) 3 (dd dtX6_sheet 38 rfl) rfl ?_
    refine WPe_sub [0, 1] rfl ?_
    exact wpj6_sheet_66 X w0  x0 x1 x3 x1 (wr w13 x0 15) w13
noncomputable def j6_sheet_32  (x0 : Nat) (x1 : Int32) (x2 : Int32) (x3 : Int32) (w : Wd) : Option (Int32 × Wd) :=
  if x2 = (-1 : Int32) then (j6_sheet_44 x0 x1 x2 x3 w) else (if (0 : Int32) ≤ x3 then (j6_sheet_44 x0 x1 x2 x3 w) else (some ((-14 : Int32), w)))
theorem wpj6_sheet_32 (X : CX) (w0 : Wd)  (x0 : Nat) (x1 : Int32) (x2 : Int32) (x3 : Int32) (w : Wd) : WPe rtI X (mX6_sheet, 2, 0, 0, w0) 0 0 (j6_sheet_32  x0 x1 x2 x3 w) 32 [(0, vR x0), (1, vI x1), (2, vI x2), (3, vI x3)] [] w := by
  unfold j6_sheet_32
  refine WPe_iload_n (pc := 32) 2 (dd dtX6_sheet 18 rfl) rfl ?_
  refine WPe_iconst (pc := 33) (-1 : Int32) (dd dtX6_sheet 19 rfl) (by decide) ?_
  refine WPe_icmp_eq (pc := 34) 44 (dd dtX6_sheet 20 rfl) (by decide) (fun h10 => ?_) (fun h10 => ?_)
  · refine WPe_sub [0, 1, 2, 3] rfl ?_
    exact wpj6_sheet_44 X w0  x0 x1 x2 x3 w
  · refine WPe_iload_n (pc := 37) 3 (dd dtX6_sheet 21 rfl) rfl ?_
    refine WPe_if_ge (pc := 38) 44 (dd dtX6_sheet 22 rfl) (by decide) (fun h24 => ?_) (fun h24 => ?_)
    · refine WPe_sub [0, 1, 2, 3] rfl ?_
      exact wpj6_sheet_44 X w0  x0 x1 x2 x3 w
    · refine WPe_bipush (pc := 41) (-14 : Int32) (dd dtX6_sheet 23 rfl) (by decide) ?_
      exact WPe_ireturn (pc := 43) (dd dtX6_sheet 24 rfl) rfl rfl ⟨(Nat.le_of_ble_eq_true rfl), (Nat.le_of_ble_eq_true rfl)⟩
noncomputable def f6_sheet (x0 : Nat) (x1 : Int32) (x2 : Int32) (x3 : Int32) (w : Wd) : Option (Int32 × Wd) :=
  (f6_in x1 (0 : Int32) (3 : Int32) w).bind fun z1 => (if z1.1 = (0 : Int32) then (some ((-2 : Int32), z1.2)) else ((f6_in x2 (-1 : Int32) (2 : Int32) z1.2).bind fun z5 => (if z5.1 = (0 : Int32) then (some ((-2 : Int32), z5.2)) else (if x2 = (-1 : Int32) then (j6_sheet_32 x0 x1 x2 x3 z5.2) else (if x3 ≤ (40 : Int32) then (j6_sheet_32 x0 x1 x2 x3 z5.2) else (some ((-2 : Int32), z5.2)))))))
theorem wpf6_sheet (X : CX) (w0 : Wd) (x0 : Nat) (x1 : Int32) (x2 : Int32) (x3 : Int32) (w : Wd) : WPe rtI X (mX6_sheet, 2, 0, 0, w0) 0 0 (f6_sheet x0 x1 x2 x3 w) 0 [(0, vR x0), (1, vI x1), (2, vI x2), (3, vI x3)] [] w := by
  unfold f6_sheet
  refine WPe_iload_n (pc := 0) 1 (dd dtX6_sheet 0 rfl) rfl ?_
  refine WPe_iconst (pc := 1) (0 : Int32) (dd dtX6_sheet 1 rfl) (by decide) ?_
  refine WPe_iconst (pc := 2) (3 : Int32) (dd dtX6_sheet 2 rfl) (by decide) ?_
  refine WPe_callS (pc := 3) (rtc := rtI) (Mc := mX6_in) (d' := 1) (mc' := 0) (ms' := 0) [vI x1, vI (0 : Int32), vI (3 : Int32)] [] rfl (dd dtX6_sheet 3 rfl) (okf6_in x1 (0 : Int32) (3 : Int32) w) moX6_in msX6_in (bw_mem4 14 rfl rfl) rfl (Nat.le_of_ble_eq_true rfl) ⟨(Nat.le_of_ble_eq_true rfl), (Nat.le_of_ble_eq_true rfl)⟩ ⟨(Nat.le_of_ble_eq_true rfl), (Nat.le_of_ble_eq_true rfl)⟩ (fun z1 h2 e3 => ?_)
  refine WPe_st (st2 := [vI z1.1]) rfl ?_
  refine WPe_if_eq (pc := 6) 29 (dd dtX6_sheet 4 rfl) (by decide) (fun h4 => ?_) (fun h4 => ?_)
  · refine WPe_bipush (pc := 29) (-2 : Int32) (dd dtX6_sheet 16 rfl) (by decide) ?_
    exact WPe_ireturn (pc := 31) (dd dtX6_sheet 17 rfl) rfl rfl ⟨(Nat.le_of_ble_eq_true rfl), (Nat.le_of_ble_eq_true rfl)⟩
  · refine WPe_iload_n (pc := 9) 2 (dd dtX6_sheet 5 rfl) rfl ?_
    refine WPe_iconst (pc := 10) (-1 : Int32) (dd dtX6_sheet 6 rfl) (by decide) ?_
    refine WPe_iconst (pc := 11) (2 : Int32) (dd dtX6_sheet 7 rfl) (by decide) ?_
    refine WPe_callS (pc := 12) (rtc := rtI) (Mc := mX6_in) (d' := 1) (mc' := 0) (ms' := 0) [vI x2, vI (-1 : Int32), vI (2 : Int32)] [] rfl (dd dtX6_sheet 8 rfl) (okf6_in x2 (-1 : Int32) (2 : Int32) z1.2) moX6_in msX6_in (bw_mem4 14 rfl rfl) rfl (Nat.le_of_ble_eq_true rfl) ⟨(Nat.le_of_ble_eq_true rfl), (Nat.le_of_ble_eq_true rfl)⟩ ⟨(Nat.le_of_ble_eq_true rfl), (Nat.le_of_ble_eq_true rfl)⟩ (fun z5 h6 e7 => ?_)
    refine WPe_st (st2 := [vI z5.1]) rfl ?_
    refine WPe_if_eq (pc := 15) 29 (dd dtX6_sheet 9 rfl) (by decide) (fun h8 => ?_) (fun h8 => ?_)
    · refine WPe_bipush (pc := 29) (-2 : Int32) (dd dtX6_sheet 16 rfl) (by decide) ?_
      exact WPe_ireturn (pc := 31) (dd dtX6_sheet 17 rfl) rfl rfl ⟨(Nat.le_of_ble_eq_true rfl), (Nat.le_of_ble_eq_true rfl)⟩
    · refine WPe_iload_n (pc := 18) 2 (dd dtX6_sheet 10 rfl) rfl ?_
      refine WPe_iconst (pc := 19) (-1 : Int32) (dd dtX6_sheet 11 rfl) (by decide) ?_
      refine WPe_icmp_eq (pc := 20) 32 (dd dtX6_sheet 12 rfl) (by decide) (fun h9 => ?_) (fun h9 => ?_)
      · refine WPe_sub [0, 1, 2, 3] rfl ?_
        exact wpj6_sheet_32 X w0  x0 x1 x2 x3 z5.2
      · refine WPe_iload_n (pc := 23) 3 (dd dtX6_sheet 13 rfl) rfl ?_
        refine WPe_bipush (pc := 24) (40 : Int32) (dd dtX6_sheet 14 rfl) (by decide) ?_
        refine WPe_icmp_le (pc := 26) 32 (dd dtX6_sheet 15 rfl) (by decide) (fun h25 => ?_) (fun h25 => ?_)
        · refine WPe_sub [0, 1, 2, 3] rfl ?_
          exact wpj6_sheet_32 X w0  x0 x1 x2 x3 z5.2
        · refine WPe_bipush (pc := 29) (-2 : Int32) (dd dtX6_sheet 16 rfl) (by decide) ?_
          exact WPe_ireturn (pc := 31) (dd dtX6_sheet 17 rfl) rfl rfl ⟨(Nat.le_of_ble_eq_true rfl), (Nat.le_of_ble_eq_true rfl)⟩
theorem okf6_sheet (x0 : Nat) (x1 : Int32) (x2 : Int32) (x3 : Int32) (w : Wd) : ∀ z, f6_sheet x0 x1 x2 x3 w = some z → OkM mX6_sheet 2 0 0 [vR x0, vI x1, vI x2, vI x3] w (rtI z.1) z.2 :=
  OkM.of (rt := rtI) moX6_sheet (Nat.le_of_ble_eq_true rfl) (fun X => wpf6_sheet X w x0 x1 x2 x3 w)
def tbX6_cell : List (Nat × Instr × Nat) := [(0, .iload_n 1, 1), (1, .iconst 0, 1), (2, .iconst 3, 1), (3, .invokestatic 75, 3), (6, .ifCond .ne 6, 3), (9, .bipush (-2), 2), (11, .ireturn, 1), (12, .aload_n 0, 1), (13, .getfield 37, 3), (16, .iload_n 1, 1), (17, .iaload, 1), (18, .iconst (-1), 1), (19, .if_icmp .ne 6, 3), (22, .bipush (-11), 2), (24, .ireturn, 1), (25, .iload_n 2, 1), (26, .iconst 0, 1), (27, .aload_n 0, 1), (28, .getfield 40, 3), (31, .iload_n 1, 1), (32, .iaload, 1), (33, .iconst 1, 1), (34, .isub, 1), (35, .invokestatic 75, 3), (38, .ifCond .ne 6, 3), (41, .bipush (-12), 2), (43, .ireturn, 1), (44, .aload_n 0, 1), (45, .getfield 43, 3), (48, .bipush 40, 2), (50, .iload_n 1, 1), (51, .imul, 1), (52, .iload_n 2, 1), (53, .iadd, 1), (54, .aload_n 0, 1), (55, .getfield 37, 3), (58, .iload_n 1, 1), (59, .iaload, 1), (60, .ifCond .ne 8, 3), (63, .iload_n 3, 1), (64, .i2b, 1), (65, .goto 19, 3), (68, .aload_n 0, 1), (69, .getfield 37, 3), (72, .iload_n 1, 1), (73, .iaload, 1), (74, .iconst 1, 1), (75, .if_icmp .ne 8, 3), (78, .iload_n 3, 1), (79, .i2s, 1), (80, .goto 4, 3), (83, .iload_n 3, 1), (84, .iastore, 1), (85, .iconst 1, 1), (86, .ireturn, 1)]
set_option maxRecDepth 20000 in
theorem dtX6_cell : ∀ x ∈ tbX6_cell, decode cX6_cell x.1 = .ok x.2 := by decide +kernel
noncomputable def f6_cell (x0 : Nat) (x1 : Int32) (x2 : Int32) (x3 : Int32) (w : Wd) : Option (Int32 × Wd) :=
  (f6_in x1 (0 : Int32) (3 : Int32) w).bind fun z1 => (if z1.1 = (0 : Int32) then (some ((-2 : Int32), z1.2)) else (ck (tg z1.2 x0 = 6) (ck (tg z1.2 (wr z1.2 x0 14) = 20 ∧ vp_in x1 (ln z1.2 (wr z1.2 x0 14))) (if (wi z1.2 (wr z1.2 x0 14) (x1).toNatClampNeg) = (-1 : Int32) then (some ((-11 : Int32), z1.2)) else (ck (tg z1.2 (wr z1.2 x0 15) = 20 ∧ vp_in x1 (ln z1.2 (wr z1.2 x0 15))) ((f6_in x2 (0 : Int32) ((wi z1.2 (wr z1.2 x0 15) (x1).toNatClampNeg) - (1 : Int32)) z1.2).bind fun z9 => (if z9.1 = (0 : Int32) then (some ((-12 : Int32), z9.2)) else (ck (tg z9.2 (wr z9.2 x0 14) = 20 ∧ vp_in x1 (ln z9.2 (wr z9.2 x0 14))) (if (wi z9.2 (wr z9.2 x0 14) (x1).toNatClampNeg) = (0 : Int32) then (ck (tg z9.2 (wr z9.2 x0 16) = 20 ∧ vp_in (((40 : Int32) * x1) + x2) (ln z9.2 (wr z9.2 x0 16))) (lw (sI z9.2 (wr z9.2 x0 16) ((((40 : Int32) * x1) + x2)).toNatClampNeg ((x3).toInt8.toInt32)) fun w16 => (some ((1 : Int32), w16)))) else (ck (vp_in x1 (ln z9.2 (wr z9.2 x0 14))) (if (wi z9.2 (wr z9.2 x0 14) (x1).toNatClampNeg) = (1 : Int32) then (ck (tg z9.2 (wr z9.2 x0 16) = 20 ∧ vp_in (((40 : Int32) * x1) + x2) (ln z9.2 (wr z9.2 x0 16))) (lw (sI z9.2 (wr z9.2 x0 16) ((((40 : Int32) * x1) + x2)).toNatClampNeg ((x3).toInt16.toInt32)) fun w21 => (some ((1 : Int32), w21)))) else (ck (tg z9.2 (wr z9.2 x0 16) = 20 ∧ vp_in (((40 : Int32) * x1) + x2) (ln z9.2 (wr z9.2 x0 16))) (lw (sI z9.2 (wr z9.2 x0 16) ((((40 : Int32) * x1) + x2)).toNatClampNeg x3) fun w24 => (some ((1 : Int32), w24)))))))))))))))
theorem wpf6_cell (X : CX) (w0 : Wd) (x0 : Nat) (x1 : Int32) (x2 : Int32) (x3 : Int32) (w : Wd) : WPe rtI X (mX6_cell, 2, 0, 0, w0) 0 0 (f6_cell x0 x1 x2 x3 w) 0 [(0, vR x0), (1, vI x1), (2, vI x2), (3, vI x3)] [] w := by
  unfold f6_cell
  refine WPe_iload_n (pc := 0) 1 (dd dtX6_cell 0 rfl) rfl ?_
  refine WPe_iconst (pc := 1) (0 : Int32) (dd dtX6_cell 1 rfl) (by decide) ?_
  refine WPe_iconst (pc := 2) (3 : Int32) (dd dtX6_cell 2 rfl) (by decide) ?_
  refine WPe_callS (pc := 3) (rtc := rtI) (Mc := mX6_in) (d' := 1) (mc' := 0) (ms' := 0) [vI x1, vI (0 : Int32), vI (3 : Int32)] [] rfl (dd dtX6_cell 3 rfl) (okf6_in x1 (0 : Int32) (3 : Int32) w) moX6_in msX6_in (bw_mem4 14 rfl rfl) rfl (Nat.le_of_ble_eq_true rfl) ⟨(Nat.le_of_ble_eq_true rfl), (Nat.le_of_ble_eq_true rfl)⟩ ⟨(Nat.le_of_ble_eq_true rfl), (Nat.le_of_ble_eq_true rfl)⟩ (fun z1 h2 e3 => ?_)
  refine WPe_st (st2 := [vI z1.1]) rfl ?_
  refine WPe_if_ne (pc := 6) 12 (dd dtX6_cell 4 rfl) (by decide) (fun h4 => ?_) (fun h4 => ?_)
  · refine WPe_bipush (pc := 9) (-2 : Int32) (dd dtX6_cell 5 rfl) (by decide) ?_
    exact WPe_ireturn (pc := 11) (dd dtX6_cell 6 rfl) rfl rfl ⟨(Nat.le_of_ble_eq_true rfl), (Nat.le_of_ble_eq_true rfl)⟩
  · refine WPe_aload_n (pc := 12) 0 (dd dtX6_cell 7 rfl) rfl ?_
    refine WPe_ck fun h5 => ?_
    refine WPe_getR (pc := 13) (t := 6) (C := RX6) (T := TX6) 14 (dd dtX6_cell 8 rfl) (shE h5) rfl (Nat.le_of_ble_eq_true rfl) rfl (bw_mem4 67 rfl rfl) ?_
    refine WPe_iload_n (pc := 16) 1 (dd dtX6_cell 9 rfl) rfl ?_
    refine WPe_ck fun h6 => ?_
    refine WPe_iald (pc := 17) (dd dtX6_cell 10 rfl) (shE h6.1) h6.2 ?_
    refine WPe_iconst (pc := 18) (-1 : Int32) (dd dtX6_cell 11 rfl) (by decide) ?_
    refine WPe_icmp_ne (pc := 19) 25 (dd dtX6_cell 12 rfl) (by decide) (fun h7 => ?_) (fun h7 => ?_)
    · refine WPe_bipush (pc := 22) (-11 : Int32) (dd dtX6_cell 13 rfl) (by decide) ?_
      exact WPe_ireturn (pc := 24) (dd dtX6_cell 14 rfl) rfl rfl ⟨(Nat.le_of_ble_eq_true rfl), (Nat.le_of_ble_eq_true rfl)⟩
    · refine WPe_iload_n (pc := 25) 2 (dd dtX6_cell 15 rfl) rfl ?_
      refine WPe_iconst (pc := 26) (0 : Int32) (dd dtX6_cell 16 rfl) (by decide) ?_
      refine WPe_aload_n (pc := 27) 0 (dd dtX6_cell 17 rfl) rfl ?_
      refine WPe_getR (pc := 28) (t := 6) (C := RX6) (T := TX6) 15 (dd dtX6_cell 18 rfl) (shE h5) rfl (Nat.le_of_ble_eq_true rfl) rfl (bw_mem4 68 rfl rfl) ?_
      refine WPe_iload_n (pc := 31) 1 (dd dtX6_cell 19 rfl) rfl ?_
      refine WPe_ck fun h8 => ?_
      refine WPe_iald (pc := 32) (dd dtX6_cell 20 rfl) (shE h8.1) h8.2 ?_
      refine WPe_iconst (pc := 33) (1 : Int32) (dd dtX6_cell 21 rfl) (by decide) ?_
      refine WPe_isub (pc := 34) (dd dtX6_cell 22 rfl) ?_
      refine WPe_callS (pc := 35) (rtc := rtI) (Mc := mX6_in) (d' := 1) (mc' := 0) (ms' := 0) [vI x2, vI (0 : Int32), vI ((wi z1.2 (wr z1.2 x0 15) (x1).toNatClampNeg) - (1 : Int32))] [] rfl (dd dtX6_cell 23 rfl) (okf6_in x2 (0 : Int32) ((wi z1.2 (wr z1.2 x0 15) (x1).toNatClampNeg) - (1 : Int32)) z1.2) moX6_in msX6_in (bw_mem4 14 rfl rfl) rfl (Nat.le_of_ble_eq_true rfl) ⟨(Nat.le_of_ble_eq_true rfl), (Nat.le_of_ble_eq_true rfl)⟩ ⟨(Nat.le_of_ble_eq_true rfl), (Nat.le_of_ble_eq_true rfl)⟩ (fun z9 h10 e11 => ?_)
      refine WPe_st (st2 := [vI z9.1]) rfl ?_
      refine WPe_if_ne (pc := 38) 44 (dd dtX6_cell 24 rfl) (by decide) (fun h12 => ?_) (fun h12 => ?_)
      · refine WPe_bipush (pc := 41) (-12 : Int32) (dd dtX6_cell 25 rfl) (by decide) ?_
        exact WPe_ireturn (pc := 43) (dd dtX6_cell 26 rfl) rfl rfl ⟨(Nat.le_of_ble_eq_true rfl), (Nat.le_of_ble_eq_true rfl)⟩
      · refine WPe_aload_n (pc := 44) 0 (dd dtX6_cell 27 rfl) rfl ?_
        refine WPe_getR (pc := 45) (t := 6) (C := RX6) (T := TX6) 16 (dd dtX6_cell 28 rfl) (e11.at (shE h5) (by decide)) rfl (Nat.le_of_ble_eq_true rfl) rfl (bw_mem4 69 rfl rfl) ?_
        refine WPe_bipush (pc := 48) (40 : Int32) (dd dtX6_cell 29 rfl) (by decide) ?_
        refine WPe_iload_n (pc := 50) 1 (dd dtX6_cell 30 rfl) rfl ?_
        refine WPe_imul (pc := 51) (dd dtX6_cell 31 rfl) ?_
        refine WPe_iload_n (pc := 52) 2 (dd dtX6_cell 32 rfl) rfl ?_
        refine WPe_iadd (pc := 53) (dd dtX6_cell 33 rfl) ?_
        refine WPe_aload_n (pc := 54) 0 (dd dtX6_cell 34 rfl) rfl ?_
        refine WPe_getR (pc := 55) (t := 6) (C := RX6) (T := TX6) 14 (dd dtX6_cell 35 rfl) (e11.at (shE h5) (by decide)) rfl (Nat.le_of_ble_eq_true rfl) rfl (bw_mem4 67 rfl rfl) ?_
        refine WPe_iload_n (pc := 58) 1 (dd dtX6_cell 36 rfl) rfl ?_
        refine WPe_ck fun h13 => ?_
        refine WPe_iald (pc := 59) (dd dtX6_cell 37 rfl) (shE h13.1) h13.2 ?_
        refine WPe_if_ne (pc := 60) 68 (dd dtX6_cell 38 rfl) (by decide) (fun h14 => ?_) (fun h14 => ?_)
        · refine WPe_iload_n (pc := 63) 3 (dd dtX6_cell 39 rfl) rfl ?_
          refine WPe_i2b (pc := 64) (dd dtX6_cell 40 rfl) ?_
          refine WPe_goto (pc := 65) 84 (dd dtX6_cell 41 rfl) (by decide) ?_
          refine WPe_ck fun h15 => ?_
          refine WPe_iast (pc := 84) (dd dtX6_cell 52 rfl) (shE h15.1) h15.2 ?_
          refine WPe_lw fun w16 e17 => ?_
          refine WPe_iconst (pc := 85) (1 : Int32) (dd dtX6_cell 53 rfl) (by decide) ?_
          exact WPe_ireturn (pc := 86) (dd dtX6_cell 54 rfl) rfl rfl ⟨(Nat.le_of_ble_eq_true rfl), (Nat.le_of_ble_eq_true rfl)⟩
        · refine WPe_aload_n (pc := 68) 0 (dd dtX6_cell 42 rfl) rfl ?_
          refine WPe_getR (pc := 69) (t := 6) (C := RX6) (T := TX6) 14 (dd dtX6_cell 43 rfl) (e11.at (shE h5) (by decide)) rfl (Nat.le_of_ble_eq_true rfl) rfl (bw_mem4 67 rfl rfl) ?_
          refine WPe_iload_n (pc := 72) 1 (dd dtX6_cell 44 rfl) rfl ?_
          refine WPe_ck fun h18 => ?_
          refine WPe_iald (pc := 73) (dd dtX6_cell 45 rfl) (shL (shE h13.1)) h18 ?_
          refine WPe_iconst (pc := 74) (1 : Int32) (dd dtX6_cell 46 rfl) (by decide) ?_
          refine WPe_icmp_ne (pc := 75) 83 (dd dtX6_cell 47 rfl) (by decide) (fun h19 => ?_) (fun h19 => ?_)
          · refine WPe_iload_n (pc := 78) 3 (dd dtX6_cell 48 rfl) rfl ?_
            refine WPe_i2s (pc := 79) (dd dtX6_cell 49 rfl) ?_
            refine WPe_goto (pc := 80) 84 (dd dtX6_cell 50 rfl) (by decide) ?_
            refine WPe_ck fun h20 => ?_
            refine WPe_iast (pc := 84) (dd dtX6_cell 52 rfl) (shE h20.1) h20.2 ?_
            refine WPe_lw fun w21 e22 => ?_
            refine WPe_iconst (pc := 85) (1 : Int32) (dd dtX6_cell 53 rfl) (by decide) ?_
            exact WPe_ireturn (pc := 86) (dd dtX6_cell 54 rfl) rfl rfl ⟨(Nat.le_of_ble_eq_true rfl), (Nat.le_of_ble_eq_true rfl)⟩
          · refine WPe_iload_n (pc := 83) 3 (dd dtX6_cell 51 rfl) rfl ?_
            refine WPe_ck fun h23 => ?_
            refine WPe_iast (pc := 84) (dd dtX6_cell 52 rfl) (shE h23.1) h23.2 ?_
            refine WPe_lw fun w24 e25 => ?_
            refine WPe_iconst (pc := 85) (1 : Int32) (dd dtX6_cell 53 rfl) (by decide) ?_
            exact WPe_ireturn (pc := 86) (dd dtX6_cell 54 rfl) rfl rfl ⟨(Nat.le_of_ble_eq_true rfl), (Nat.le_of_ble_eq_true rfl)⟩
theorem okf6_cell (x0 : Nat) (x1 : Int32) (x2 : Int32) (x3 : Int32) (w : Wd) : ∀ z, f6_cell x0 x1 x2 x3 w = some z → OkM mX6_cell 2 0 0 [vR x0, vI x1, vI x2, vI x3] w (rtI z.1) z.2 :=
  OkM.of (rt := rtI) moX6_cell (Nat.le_of_ble_eq_true rfl) (fun X => wpf6_cell X w x0 x1 x2 x3 w)
def tbX6_copy : List (Nat × Instr × Nat) := [(0, .iload_n 1, 1), (1, .iconst 0, 1), (2, .iconst 3, 1), (3, .invokestatic 75, 3), (6, .ifCond .eq 12, 3), (9, .iload_n 3, 1), (10, .iconst 0, 1), (11, .iconst 3, 1), (12, .invokestatic 75, 3), (15, .ifCond .ne 6, 3), (18, .bipush (-2), 2), (20, .ireturn, 1), (21, .aload_n 0, 1), (22, .getfield 37, 3), (25, .iload_n 1, 1), (26, .iaload, 1), (27, .iconst (-1), 1), (28, .if_icmp .eq 13, 3), (31, .aload_n 0, 1), (32, .getfield 37, 3), (35, .iload_n 3, 1), (36, .iaload, 1), (37, .iconst (-1), 1), (38, .if_icmp .ne 6, 3), (41, .bipush (-11), 2), (43, .ireturn, 1), (44, .aload_n 0, 1), (45, .getfield 37, 3), (48, .iload_n 1, 1), (49, .iaload, 1), (50, .aload_n 0, 1), (51, .getfield 37, 3), (54, .iload_n 3, 1), (55, .iaload, 1), (56, .if_icmp .eq 6, 3), (59, .bipush (-13), 2), (61, .ireturn, 1), (62, .iload 5, 2), (64, .ifCond .lt 60, 3), (67, .iload_n 2, 1), (68, .ifCond .lt 56, 3), (71, .iload 4, 2), (73, .ifCond .lt 51, 3), (76, .iload_n 2, 1), (77, .aload_n 0, 1), (78, .getfield 40, 3), (81, .iload_n 1, 1), (82, .iaload, 1), (83, .if_icmp .gt 41, 3), (86, .iload 4, 2), (88, .aload_n 0, 1), (89, .getfield 40, 3), (92, .iload_n 3, 1), (93, .iaload, 1), (94, .if_icmp .gt 30, 3), (97, .iload 5, 2), (99, .aload_n 0, 1), (100, .getfield 40, 3), (103, .iload_n 1, 1), (104, .iaload, 1), (105, .iload_n 2, 1), (106, .isub, 1), (107, .if_icmp .gt 17, 3), (110, .iload 5, 2), (112, .aload_n 0, 1), (113, .getfield 40, 3), (116, .iload_n 3, 1), (117, .iaload, 1), (118, .iload 4, 2), (120, .isub, 1), (121, .if_icmp .le 6, 3), (124, .bipush (-12), 2), (126, .ireturn, 1), (127, .bipush 40, 2), (129, .iload_n 1, 1), (130, .imul, 1), (131, .iload_n 2, 1), (132, .iadd, 1), (133, .istore 6, 2), (135, .bipush 40, 2), (137, .iload_n 3, 1), (138, .imul, 1), (139, .iload 4, 2), (141, .iadd, 1), (142, .istore 7, 2), (144, .iconst 0, 1), (145, .istore 8, 2), (147, .iload 8, 2), (149, .iload 5, 2), (151, .if_icmp .ge 50, 3), (154, .iload 6, 2), (156, .iload 7, 2), (158, .if_icmp .ge 13, 3), (161, .iload 5, 2), (163, .iconst 1, 1), (164, .isub, 1), (165, .iload 8, 2), (167, .isub, 1), (168, .goto 5, 3), (171, .iload 8, 2), (173, .istore 9, 2), (175, .aload_n 0, 1), (176, .getfield 43, 3), (179, .iload 7, 2), (181, .iload 9, 2), (183, .iadd, 1), (184, .aload_n 0, 1), (185, .getfield 43, 3), (188, .iload 6, 2), (190, .iload 9, 2), (192, .iadd, 1), (193, .iaload, 1), (194, .iastore, 1), (195, .iinc 8 1, 3), (198, .goto (-51), 3), (201, .iload 5, 2), (203, .ireturn, 1)]
set_option maxRecDepth 20000 in
theorem dtX6_copy : ∀ x ∈ tbX6_copy, decode cX6_copy x.1 = .ok x.2 := by decide +kernel
noncomputable def j6_copy_173 (k147 : Nat × Int32 × Int32 × Int32 × Int32 → Wd → Option (Int32 × Wd)) (x0 : Nat) (x5 : Int32) (x6 : Int32) (x7 : Int32) (x8 : Int32) (s0 : Int32) (w : Wd) : Option (Int32 × Wd) :=
  ck (tg w x0 = 6) (ck (tg w (wr w x0 16) = 20 ∧ vp_in (x6 + s0) (ln w (wr w x0 16))) (ck (vp_in (x7 + s0) (ln w (wr w x0 16))) (lw (sI w (wr w x0 16) ((x7 + s0)).toNatClampNeg (wi w (wr w x0 16) ((x6 + s0)).toNatClampNeg)) fun w33 => (k147 (x0, x5, x6, x7, (x8 + (1 : Int32))) w33))))
theorem wpj6_copy_173 (X : CX) (w0 : Wd) (k147 : Nat × Int32 × Int32 × Int32 × Int32 → Wd → Option (Int32 × Wd)) (hk147 : ∀ (v : Nat × Int32 × Int32 × Int32 × Int32) (w : Wd), WPe rtI X (mX6_copy, 2, 0, 0, w0) 0 0 (k147 v w) 147 [(0, vR v.1), (5, vI v.2.1), (6, vI v.2.2.1), (7, vI v.2.2.2.1), (8, vI v.2.2.2.2)] [] w) (x0 : Nat) (x5 : Int32) (x6 : Int32) (x7 : Int32) (x8 : Int32) (s0 : Int32) (w : Wd) : WPe rtI X (mX6_copy, 2, 0, 0, w0) 0 0 (j6_copy_173 k147 x0 x5 x6 x7 x8 s0 w) 173 [(0, vR x0), (5, vI x5), (6, vI x6), (7, vI x7), (8, vI x8)] [vI s0] w := by
  unfold j6_copy_173
  refine WPe_istore (pc := 173) (ls' := [(9, vI s0), (0, vR x0), (5, vI x5), (6, vI x6), (7, vI x7), (8, vI x8)]) (dd dtX6_copy 100 rfl) (Nat.le_of_ble_eq_true rfl) rfl ?_
  refine WPe_aload_n (pc := 175) 1 (dd dtX6_copy 101 rfl) rfl ?_
  refine WPe_ck fun h30 => ?_
  refine WPe_getR (pc := 176) (t := 6) (C := RX6) (T := TX6) 16 (dd dtX6_copy 102 rfl) (shE h30) rfl (Nat.le_of_ble_eq_true rfl) rfl (bw_mem4 69 rfl rfl) ?_
  refine WPe_iload (pc := 179) 4 (dd dtX6_copy 103 rfl) rfl ?_
  refine WPe_iload (pc := 181) 0 (dd dtX6_copy 104 rfl) rfl ?_
  refine WPe_iadd (pc := 183) (dd dtX6_copy 105 rfl) ?_
  refine WPe_aload_n (pc := 184) 1 (dd dtX6_copy 106 rfl) rfl ?_
  refine WPe_getR (pc := 185) (t := 6) (C := RX6) (T := TX6) 16 (dd dtX6_copy 107 rfl) (shE h30) rfl (Nat.le_of_ble_eq_true rfl) rfl (bw_mem4 69 rfl rfl) ?_
  refine WPe_iload (pc := 188) 3 (dd dtX6_copy 108 rfl) rfl ?_
  refine WPe_iload (pc := 190) 0 (dd dtX6_copy 109 rfl) rfl ?_
  refine WPe_iadd (pc := 192) (dd dtX6_copy 110 rfl) ?_
  refine WPe_ck fun h31 => ?_
  refine WPe_iald (pc := 193) (dd dtX6_copy 111 rfl) (shE h31.1) h31.2 ?_
  refine WPe_ck fun h32 => ?_
  refine WPe_iast (pc := 194) (dd dtX6_copy 112 rfl) (shL (shE h31.1)) h32 ?_
  refine WPe_lw fun w33 e34 => ?_
  refine WPe_iinc (pc := 195) (ls' := [(8, vI (x8 + (1 : Int32))), (9, vI s0), (0, vR x0), (5, vI x5), (6, vI x6), (7, vI x7)]) 5 (x8 + (1 : Int32)) (dd dtX6_copy 113 rfl) rfl (congrArg (HAdd.hAdd _) (by decide : Int32.ofInt (1) = (1 : Int32))) (Nat.le_of_ble_eq_true rfl) rfl ?_
  refine WPe_goto (pc := 198) 147 (dd dtX6_copy 114 rfl) (by decide) ?_
  refine WPe_sub [2, 3, 4, 5, 0] rfl ?_
  exact hk147 (x0, x5, x6, x7, (x8 + (1 : Int32))) w33
noncomputable def b6_copy_147 (k147 : Nat × Int32 × Int32 × Int32 × Int32 → Wd → Option (Int32 × Wd)) (v : Nat × Int32 × Int32 × Int32 × Int32) (w : Wd) : Option (Int32 × Wd) :=
  if v.2.1 ≤ v.2.2.2.2 then (some (v.2.1, w)) else (if v.2.2.2.1 ≤ v.2.2.1 then (j6_copy_173 k147 v.1 v.2.1 v.2.2.1 v.2.2.2.1 v.2.2.2.2 v.2.2.2.2 w) else (j6_copy_173 k147 v.1 v.2.1 v.2.2.1 v.2.2.2.1 v.2.2.2.2 ((v.2.1 - (1 : Int32)) - v.2.2.2.2) w))
theorem wpb6_copy_147 (X : CX) (w0 : Wd) (k147 : Nat × Int32 × Int32 × Int32 × Int32 → Wd → Option (Int32 × Wd)) (hk147 : ∀ (v : Nat × Int32 × Int32 × Int32 × Int32) (w : Wd), WPe rtI X (mX6_copy, 2, 0, 0, w0) 0 0 (k147 v w) 147 [(0, vR v.1), (5, vI v.2.1), (6, vI v.2.2.1), (7, vI v.2.2.2.1), (8, vI v.2.2.2.2)] [] w) (v : Nat × Int32 × Int32 × Int32 × Int32) (w : Wd) : WPe rtI X (mX6_copy, 2, 0, 0, w0) 0 0 (b6_copy_147 k147 v w) 147 [(0, vR v.1), (5, vI v.2.1), (6, vI v.2.2.1), (7, vI v.2.2.2.1), (8, vI v.2.2.2.2)] [] w := by
  unfold b6_copy_147
  refine WPe_iload (pc := 147) 4 (dd dtX6_copy 87 rfl) rfl ?_
  refine WPe_iload (pc := 149) 1 (dd dtX6_copy 88 rfl) rfl ?_
  refine WPe_icmp_ge (pc := 151) 201 (dd dtX6_copy 89 rfl) (by decide) (fun h28 => ?_) (fun h28 => ?_)
  · refine WPe_iload (pc := 201) 1 (dd dtX6_copy 115 rfl) rfl ?_
    exact WPe_ireturn (pc := 203) (dd dtX6_copy 116 rfl) rfl rfl ⟨(Nat.le_of_ble_eq_true rfl), (Nat.le_of_ble_eq_true rfl)⟩
  · refine WPe_iload (pc := 154) 2 (dd dtX6_copy 90 rfl) rfl ?_
    refine WPe_iload (pc := 156) 3 (dd dtX6_copy 91 rfl) rfl ?_
    refine WPe_icmp_ge (pc := 158) 171 (dd dtX6_copy 92 rfl) (by decide) (fun h29 => ?_) (fun h29 => ?_)
    · refine WPe_iload (pc := 171) 4 (dd dtX6_copy 99 rfl) rfl ?_
      refine WPe_sub [0, 1, 2, 3, 4] rfl ?_
      exact wpj6_copy_173 X w0 k147 hk147 v.1 v.2.1 v.2.2.1 v.2.2.2.1 v.2.2.2.2 v.2.2.2.2 w
    · refine WPe_iload (pc := 161) 1 (dd dtX6_copy 93 rfl) rfl ?_
      refine WPe_iconst (pc := 163) (1 : Int32) (dd dtX6_copy 94 rfl) (by decide) ?_
      refine WPe_isub (pc := 164) (dd dtX6_copy 95 rfl) ?_
      refine WPe_iload (pc := 165) 4 (dd dtX6_copy 96 rfl) rfl ?_
      refine WPe_isub (pc := 167) (dd dtX6_copy 97 rfl) ?_
      refine WPe_goto (pc := 168) 173 (dd dtX6_copy 98 rfl) (by decide) ?_
      refine WPe_sub [0, 1, 2, 3, 4] rfl ?_
      exact wpj6_copy_173 X w0 k147 hk147 v.1 v.2.1 v.2.2.1 v.2.2.2.1 v.2.2.2.2 ((v.2.1 - (1 : Int32)) - v.2.2.2.2) w
theorem wplb6_copy_147 (X : CX) (w0 : Wd)  : ∀ (n9 : Nat) (v : Nat × Int32 × Int32 × Int32 × Int32) (w : Wd), WPe rtI X (mX6_copy, 2, 0, 0, w0) 0 0 (loopF (b6_copy_147 ) n9 v w) 147 [(0, vR v.1), (5, vI v.2.1), (6, vI v.2.2.1), (7, vI v.2.2.2.1), (8, vI v.2.2.2.2)] [] w :=
  WPe_loop (rt := rtI) (X := X) (M := (mX6_copy, 2, 0, 0, w0)) (fun v : Nat × Int32 × Int32 × Int32 × Int32 => [(0, vR v.1), (5, vI v.2.1), (6, vI v.2.2.1), (7, vI v.2.2.2.1), (8, vI v.2.2.2.2)]) (fun k hk v w => wpb6_copy_147 X w0  k hk v w)
noncomputable def f6_copy (x0 : Nat) (x1 : Int32) (x2 : Int32) (x3 : Int32) (x4 : Int32) (x5 : Int32) (w : Wd) : Option (Int32 × Wd) :=
  (f6_in x1 (0 : Int32) (3 : Int32) w).bind fun z1 => (if z1.1 = (0 : Int32) then (some ((-2 : Int32), z1.2)) else ((f6_in x3 (0 : Int32) (3 : Int32) z1.2).bind fun z5 => (if z5.1 = (0 : Int32) then (some ((-2 : Int32), z5.2)) else (ck (tg z5.2 x0 = 6) (ck (tg z5.2 (wr z5.2 x0 14) = 20 ∧ vp_in x1 (ln z5.2 (wr z5.2 x0 14))) (if (wi z5.2 (wr z5.2 x0 14) (x1).toNatClampNeg) = (-1 : Int32) then (some ((-11 : Int32), z5.2)) else (ck (vp_in x3 (ln z5.2 (wr z5.2 x0 14))) (if (wi z5.2 (wr z5.2 x0 14) (x3).toNatClampNeg) = (-1 : Int32) then (some ((-11 : Int32), z5.2)) else (ck (vp_in x1 (ln z5.2 (wr z5.2 x0 14))) (ck (vp_in x3 (ln z5.2 (wr z5.2 x0 14))) (if (wi z5.2 (wr z5.2 x0 14) (x1).toNatClampNeg) = (wi z5.2 (wr z5.2 x0 14) (x3).toNatClampNeg) then (if x5 < (0 : Int32) then (some ((-12 : Int32), z5.2)) else (if x2 < (0 : Int32) then (some ((-12 : Int32), z5.2)) else (if x4 < (0 : Int32) then (some ((-12 : Int32), z5.2)) else (ck (tg z5.2 (wr z5.2 x0 15) = 20 ∧ vp_in x1 (ln z5.2 (wr z5.2 x0 15))) (if (wi z5.2 (wr z5.2 x0 15) (x1).toNatClampNeg) < x2 then (some ((-12 : Int32), z5.2)) else (ck (vp_in x3 (ln z5.2 (wr z5.2 x0 15))) (if (wi z5.2 (wr z5.2 x0 15) (x3).toNatClampNeg) < x4 then (some ((-12 : Int32), z5.2)) else (ck (vp_in x1 (ln z5.2 (wr z5.2 x0 15))) (if ((wi z5.2 (wr z5.2 x0 15) (x1).toNatClampNeg) - x2) < x5 then (some ((-12 : Int32), z5.2)) else (ck (vp_in x3 (ln z5.2 (wr z5.2 x0 15))) (if x5 ≤ ((wi z5.2 (wr z5.2 x0 15) (x3).toNatClampNeg) - x4) then (loopF (b6_copy_147) FU (x0, x5, (((40 : Int32) * x1) + x2), (((40 : Int32) * x3) + x4), (0 : Int32)) z5.2) else (some ((-12 : Int32), z5.2))))))))))))) else (some ((-13 : Int32), z5.2)))))))))))))
theorem wpf6_copy (X : CX) (w0 : Wd) (x0 : Nat) (x1 : Int32) (x2 : Int32) (x3 : Int32) (x4 : Int32) (x5 : Int32) (w : Wd) : WPe rtI X (mX6_copy, 2, 0, 0, w0) 0 0 (f6_copy x0 x1 x2 x3 x4 x5 w) 0 [(0, vR x0), (1, vI x1), (2, vI x2), (3, vI x3), (4, vI x4), (5, vI x5)] [] w := by
  unfold f6_copy
  refine WPe_iload_n (pc := 0) 1 (dd dtX6_copy 0 rfl) rfl ?_
  refine WPe_iconst (pc := 1) (0 : Int32) (dd dtX6_copy 1 rfl) (by decide) ?_
  refine WPe_iconst (pc := 2) (3 : Int32) (dd dtX6_copy 2 rfl) (by decide) ?_
  refine WPe_callS (pc := 3) (rtc := rtI) (Mc := mX6_in) (d' := 1) (mc' := 0) (ms' := 0) [vI x1, vI (0 : Int32), vI (3 : Int32)] [] rfl (dd dtX6_copy 3 rfl) (okf6_in x1 (0 : Int32) (3 : Int32) w) moX6_in msX6_in (bw_mem4 14 rfl rfl) rfl (Nat.le_of_ble_eq_true rfl) ⟨(Nat.le_of_ble_eq_true rfl), (Nat.le_of_ble_eq_true rfl)⟩ ⟨(Nat.le_of_ble_eq_true rfl), (Nat.le_of_ble_eq_true rfl)⟩ (fun z1 h2 e3 => ?_)
  refine WPe_st (st2 := [vI z1.1]) rfl ?_
  refine WPe_if_eq (pc := 6) 18 (dd dtX6_copy 4 rfl) (by decide) (fun h4 => ?_) (fun h4 => ?_)
  · refine WPe_bipush (pc := 18) (-2 : Int32) (dd dtX6_copy 10 rfl) (by decide) ?_
    exact WPe_ireturn (pc := 20) (dd dtX6_copy 11 rfl) rfl rfl ⟨(Nat.le_of_ble_eq_true rfl), (Nat.le_of_ble_eq_true rfl)⟩
  · refine WPe_iload_n (pc := 9) 3 (dd dtX6_copy 5 rfl) rfl ?_
    refine WPe_iconst (pc := 10) (0 : Int32) (dd dtX6_copy 6 rfl) (by decide) ?_
    refine WPe_iconst (pc := 11) (3 : Int32) (dd dtX6_copy 7 rfl) (by decide) ?_
    refine WPe_callS (pc := 12) (rtc := rtI) (Mc := mX6_in) (d' := 1) (mc' := 0) (ms' := 0) [vI x3, vI (0 : Int32), vI (3 : Int32)] [] rfl (dd dtX6_copy 8 rfl) (okf6_in x3 (0 : Int32) (3 : Int32) z1.2) moX6_in msX6_in (bw_mem4 14 rfl rfl) rfl (Nat.le_of_ble_eq_true rfl) ⟨(Nat.le_of_ble_eq_true rfl), (Nat.le_of_ble_eq_true rfl)⟩ ⟨(Nat.le_of_ble_eq_true rfl), (Nat.le_of_ble_eq_true rfl)⟩ (fun z5 h6 e7 => ?_)
    refine WPe_st (st2 := [vI z5.1]) rfl ?_
    refine WPe_if_ne (pc := 15) 21 (dd dtX6_copy 9 rfl) (by decide) (fun h8 => ?_) (fun h8 => ?_)
    · refine WPe_bipush (pc := 18) (-2 : Int32) (dd dtX6_copy 10 rfl) (by decide) ?_
      exact WPe_ireturn (pc := 20) (dd dtX6_copy 11 rfl) rfl rfl ⟨(Nat.le_of_ble_eq_true rfl), (Nat.le_of_ble_eq_true rfl)⟩
    · refine WPe_aload_n (pc := 21) 0 (dd dtX6_copy 12 rfl) rfl ?_
      refine WPe_ck fun h9 => ?_
      refine WPe_getR (pc := 22) (t := 6) (C := RX6) (T := TX6) 14 (dd dtX6_copy 13 rfl) (shE h9) rfl (Nat.le_of_ble_eq_true rfl) rfl (bw_mem4 67 rfl rfl) ?_
      refine WPe_iload_n (pc := 25) 1 (dd dtX6_copy 14 rfl) rfl ?_
      refine WPe_ck fun h10 => ?_
      refine WPe_iald (pc := 26) (dd dtX6_copy 15 rfl) (shE h10.1) h10.2 ?_
      refine WPe_iconst (pc := 27) (-1 : Int32) (dd dtX6_copy 16 rfl) (by decide) ?_
      refine WPe_icmp_eq (pc := 28) 41 (dd dtX6_copy 17 rfl) (by decide) (fun h11 => ?_) (fun h11 => ?_)
      · refine WPe_bipush (pc := 41) (-11 : Int32) (dd dtX6_copy 24 rfl) (by decide) ?_
        exact WPe_ireturn (pc := 43) (dd dtX6_copy 25 rfl) rfl rfl ⟨(Nat.le_of_ble_eq_true rfl), (Nat.le_of_ble_eq_true rfl)⟩
      · refine WPe_aload_n (pc := 31) 0 (dd dtX6_copy 18 rfl) rfl ?_
        refine WPe_getR (pc := 32) (t := 6) (C := RX6) (T := TX6) 14 (dd dtX6_copy 19 rfl) (shE h9) rfl (Nat.le_of_ble_eq_true rfl) rfl (bw_mem4 67 rfl rfl) ?_
        refine WPe_iload_n (pc := 35) 3 (dd dtX6_copy 20 rfl) rfl ?_
        refine WPe_ck fun h12 => ?_
        refine WPe_iald (pc := 36) (dd dtX6_copy 21 rfl) (shL (shE h10.1)) h12 ?_
        refine WPe_iconst (pc := 37) (-1 : Int32) (dd dtX6_copy 22 rfl) (by decide) ?_
        refine WPe_icmp_ne (pc := 38) 44 (dd dtX6_copy 23 rfl) (by decide) (fun h13 => ?_) (fun h13 => ?_)
        · refine WPe_bipush (pc := 41) (-11 : Int32) (dd dtX6_copy 24 rfl) (by decide) ?_
          exact WPe_ireturn (pc := 43) (dd dtX6_copy 25 rfl) rfl rfl ⟨(Nat.le_of_ble_eq_true rfl), (Nat.le_of_ble_eq_true rfl)⟩
        · refine WPe_aload_n (pc := 44) 0 (dd dtX6_copy 26 rfl) rfl ?_
          refine WPe_getR (pc := 45) (t := 6) (C := RX6) (T := TX6) 14 (dd dtX6_copy 27 rfl) (shE h9) rfl (Nat.le_of_ble_eq_true rfl) rfl (bw_mem4 67 rfl rfl) ?_
          refine WPe_iload_n (pc := 48) 1 (dd dtX6_copy 28 rfl) rfl ?_
          refine WPe_ck fun h14 => ?_
          refine WPe_iald (pc := 49) (dd dtX6_copy 29 rfl) (shL (shE h10.1)) h14 ?_
          refine WPe_aload_n (pc := 50) 0 (dd dtX6_copy 30 rfl) rfl ?_
          refine WPe_getR (pc := 51) (t := 6) (C := RX6) (T := TX6) 14 (dd dtX6_copy 31 rfl) (shE h9) rfl (Nat.le_of_ble_eq_true rfl) rfl (bw_mem4 67 rfl rfl) ?_
          refine WPe_iload_n (pc := 54) 3 (dd dtX6_copy 32 rfl) rfl ?_
          refine WPe_ck fun h15 => ?_
          refine WPe_iald (pc := 55) (dd dtX6_copy 33 rfl) (shL (shE h10.1)) h15 ?_
          refine WPe_icmp_eq (pc := 56) 62 (dd dtX6_copy 34 rfl) (by decide) (fun h16 => ?_) (fun h16 => ?_)
          · refine WPe_iload (pc := 62) 5 (dd dtX6_copy 37 rfl) rfl ?_
            refine WPe_if_lt (pc := 64) 124 (dd dtX6_copy 38 rfl) (by decide) (fun h17 => ?_) (fun h17 => ?_)
            · refine WPe_bipush (pc := 124) (-12 : Int32) (dd dtX6_copy 71 rfl) (by decide) ?_
              exact WPe_ireturn (pc := 126) (dd dtX6_copy 72 rfl) rfl rfl ⟨(Nat.le_of_ble_eq_true rfl), (Nat.le_of_ble_eq_true rfl)⟩
            · refine WPe_iload_n (pc := 67) 2 (dd dtX6_copy 39 rfl) rfl ?_
              refine WPe_if_lt (pc := 68) 124 (dd dtX6_copy 40 rfl) (by decide) (fun h18 => ?_) (fun h18 => ?_)
              · refine WPe_bipush (pc := 124) (-12 : Int32) (dd dtX6_copy 71 rfl) (by decide) ?_
                exact WPe_ireturn (pc := 126) (dd dtX6_copy 72 rfl) rfl rfl ⟨(Nat.le_of_ble_eq_true rfl), (Nat.le_of_ble_eq_true rfl)⟩
              · refine WPe_iload (pc := 71) 4 (dd dtX6_copy 41 rfl) rfl ?_
                refine WPe_if_lt (pc := 73) 124 (dd dtX6_copy 42 rfl) (by decide) (fun h19 => ?_) (fun h19 => ?_)
                · refine WPe_bipush (pc := 124) (-12 : Int32) (dd dtX6_copy 71 rfl) (by decide) ?_
                  exact WPe_ireturn (pc := 126) (dd dtX6_copy 72 rfl) rfl rfl ⟨(Nat.le_of_ble_eq_true rfl), (Nat.le_of_ble_eq_true rfl)⟩
                · refine WPe_iload_n (pc := 76) 2 (dd dtX6_copy 43 rfl) rfl ?_
                  refine WPe_aload_n (pc := 77) 0 (dd dtX6_copy 44 rfl) rfl ?_
                  refine WPe_getR (pc := 78) (t := 6) (C := RX6) (T := TX6) 15 (dd dtX6_copy 45 rfl) (shE h9) rfl (Nat.le_of_ble_eq_true rfl) rfl (bw_mem4 68 rfl rfl) ?_
                  refine WPe_iload_n (pc := 81) 1 (dd dtX6_copy 46 rfl) rfl ?_
                  refine WPe_ck fun h20 => ?_
                  refine WPe_iald (pc := 82) (dd dtX6_copy 47 rfl) (shE h20.1) h20.2 ?_
                  refine WPe_icmp_gt (pc := 83) 124 (dd dtX6_copy 48 rfl) (by decide) (fun h21 => ?_) (fun h21 => ?_)
                  · refine WPe_bipush (pc := 124) (-12 : Int32) (dd dtX6_copy 71 rfl) (by decide) ?_
                    exact WPe_ireturn (pc := 126) (dd dtX6_copy 72 rfl) rfl rfl ⟨(Nat.le_of_ble_eq_true rfl), (Nat.le_of_ble_eq_true rfl)⟩
                  · refine WPe_iload (pc := 86) 4 (dd dtX6_copy 49 rfl) rfl ?_
                    refine WPe_aload_n (pc := 88) 0 (dd dtX6_copy 50 rfl) rfl ?_
                    refine WPe_getR (pc := 89) (t := 6) (C := RX6) (T := TX6) 15 (dd dtX6_copy 51 rfl) (shE h9) rfl (Nat.le_of_ble_eq_true rfl) rfl (bw_mem4 68 rfl rfl) ?_
                    refine WPe_iload_n (pc := 92) 3 (dd dtX6_copy 52 rfl) rfl ?_
                    refine WPe_ck fun h22 => ?_
                    refine WPe_iald (pc := 93) (dd dtX6_copy 53 rfl) (shL (shE h20.1)) h22 ?_
                    refine WPe_icmp_gt (pc := 94) 124 (dd dtX6_copy 54 rfl) (by decide) (fun h23 => ?_) (fun h23 => ?_)
                    · refine WPe_bipush (pc := 124) (-12 : Int32) (dd dtX6_copy 71 rfl) (by decide) ?_
                      exact WPe_ireturn (pc := 126) (dd dtX6_copy 72 rfl) rfl rfl ⟨(Nat.le_of_ble_eq_true rfl), (Nat.le_of_ble_eq_true rfl)⟩
                    · refine WPe_iload (pc := 97) 5 (dd dtX6_copy 55 rfl) rfl ?_
                      refine WPe_aload_n (pc := 99) 0 (dd dtX6_copy 56 rfl) rfl ?_
                      refine WPe_getR (pc := 100) (t := 6) (C := RX6) (T := TX6) 15 (dd dtX6_copy 57 rfl) (shE h9) rfl (Nat.le_of_ble_eq_true rfl) rfl (bw_mem4 68 rfl rfl) ?_
                      refine WPe_iload_n (pc := 103) 1 (dd dtX6_copy 58 rfl) rfl ?_
                      refine WPe_ck fun h24 => ?_
                      refine WPe_iald (pc := 104) (dd dtX6_copy 59 rfl) (shL (shE h20.1)) h24 ?_
                      refine WPe_iload_n (pc := 105) 2 (dd dtX6_copy 60 rfl) rfl ?_
                      refine WPe_isub (pc := 106) (dd dtX6_copy 61 rfl) ?_
                      refine WPe_icmp_gt (pc := 107) 124 (dd dtX6_copy 62 rfl) (by decide) (fun h25 => ?_) (fun h25 => ?_)
                      · refine WPe_bipush (pc := 124) (-12 : Int32) (dd dtX6_copy 71 rfl) (by decide) ?_
                        exact WPe_ireturn (pc := 126) (dd dtX6_copy 72 rfl) rfl rfl ⟨(Nat.le_of_ble_eq_true rfl), (Nat.le_of_ble_eq_true rfl)⟩
                      · refine WPe_iload (pc := 110) 5 (dd dtX6_copy 63 rfl) rfl ?_
                        refine WPe_aload_n (pc := 112) 0 (dd dtX6_copy 64 rfl) rfl ?_
                        refine WPe_getR (pc := 113) (t := 6) (C := RX6) (T := TX6) 15 (dd dtX6_copy 65 rfl) (shE h9) rfl (Nat.le_of_ble_eq_true rfl) rfl (bw_mem4 68 rfl rfl) ?_
                        refine WPe_iload_n (pc := 116) 3 (dd dtX6_copy 66 rfl) rfl ?_
                        refine WPe_ck fun h26 => ?_
                        refine WPe_iald (pc := 117) (dd dtX6_copy 67 rfl) (shL (shE h20.1)) h26 ?_
                        refine WPe_iload (pc := 118) 4 (dd dtX6_copy 68 rfl) rfl ?_
                        refine WPe_isub (pc := 120) (dd dtX6_copy 69 rfl) ?_
                        refine WPe_icmp_le (pc := 121) 127 (dd dtX6_copy 70 rfl) (by decide) (fun h27 => ?_) (fun h27 => ?_)
                        · refine WPe_bipush (pc := 127) (40 : Int32) (dd dtX6_copy 73 rfl) (by decide) ?_
                          refine WPe_iload_n (pc := 129) 1 (dd dtX6_copy 74 rfl) rfl ?_
                          refine WPe_imul (pc := 130) (dd dtX6_copy 75 rfl) ?_
                          refine WPe_iload_n (pc := 131) 2 (dd dtX6_copy 76 rfl) rfl ?_
                          refine WPe_iadd (pc := 132) (dd dtX6_copy 77 rfl) ?_
                          refine WPe_istore (pc := 133) (ls' := [(6, vI (((40 : Int32) * x1) + x2)), (0, vR x0), (1, vI x1), (2, vI x2), (3, vI x3), (4, vI x4), (5, vI x5)]) (dd dtX6_copy 78 rfl) (Nat.le_of_ble_eq_true rfl) rfl ?_
                          refine WPe_bipush (pc := 135) (40 : Int32) (dd dtX6_copy 79 rfl) (by decide) ?_
                          refine WPe_iload_n (pc := 137) 4 (dd dtX6_copy 80 rfl) rfl ?_
                          refine WPe_imul (pc := 138) (dd dtX6_copy 81 rfl) ?_
                          refine WPe_iload (pc := 139) 5 (dd dtX6_copy 82 rfl) rfl ?_
                          refine WPe_iadd (pc := 141) (dd dtX6_copy 83 rfl) ?_
                          refine WPe_istore (pc := 142) (ls' := [(7, vI (((40 : Int32) * x3) + x4)), (6, vI (((40 : Int32) * x1) + x2)), (0, vR x0), (1, vI x1), (2, vI x2), (3, vI x3), (4, vI x4), (5, vI x5)]) (dd dtX6_copy 84 rfl) (Nat.le_of_ble_eq_true rfl) rfl ?_
                          refine WPe_iconst (pc := 144) (0 : Int32) (dd dtX6_copy 85 rfl) (by decide) ?_
                          refine WPe_istore (pc := 145) (ls' := [(8, vI (0 : Int32)), (7, vI (((40 : Int32) * x3) + x4)), (6, vI (((40 : Int32) * x1) + x2)), (0, vR x0), (1, vI x1), (2, vI x2), (3, vI x3), (4, vI x4), (5, vI x5)]) (dd dtX6_copy 86 rfl) (Nat.le_of_ble_eq_true rfl) rfl ?_
                          refine WPe_sub [3, 8, 2, 1, 0] rfl ?_
                          exact wplb6_copy_147 X w0  FU _ _
                        · refine WPe_bipush (pc := 124) (-12 : Int32) (dd dtX6_copy 71 rfl) (by decide) ?_
                          exact WPe_ireturn (pc := 126) (dd dtX6_copy 72 rfl) rfl rfl ⟨(Nat.le_of_ble_eq_true rfl), (Nat.le_of_ble_eq_true rfl)⟩
          · refine WPe_bipush (pc := 59) (-13 : Int32) (dd dtX6_copy 35 rfl) (by decide) ?_
            exact WPe_ireturn (pc := 61) (dd dtX6_copy 36 rfl) rfl rfl ⟨(Nat.le_of_ble_eq_true rfl), (Nat.le_of_ble_eq_true rfl)⟩
theorem okf6_copy (x0 : Nat) (x1 : Int32) (x2 : Int32) (x3 : Int32) (x4 : Int32) (x5 : Int32) (w : Wd) : ∀ z, f6_copy x0 x1 x2 x3 x4 x5 w = some z → OkM mX6_copy 2 0 0 [vR x0, vI x1, vI x2, vI x3, vI x4, vI x5] w (rtI z.1) z.2 :=
  OkM.of (rt := rtI) moX6_copy (Nat.le_of_ble_eq_true rfl) (fun X => wpf6_copy X w x0 x1 x2 x3 x4 x5 w)
def tbX6_bathersBy : List (Nat × Instr × Nat) := [(0, .iload_n 1, 1), (1, .iconst 0, 1), (2, .iconst 3, 1), (3, .invokestatic 75, 3), (6, .ifCond .eq 23, 3), (9, .iload_n 2, 1), (10, .iconst 0, 1), (11, .iconst 2, 1), (12, .invokestatic 75, 3), (15, .ifCond .eq 14, 3), (18, .iload 4, 2), (20, .iconst 0, 1), (21, .bipush 6, 2), (23, .invokestatic 75, 3), (26, .ifCond .ne 6, 3), (29, .bipush (-2), 2), (31, .ireturn, 1), (32, .aload_n 0, 1), (33, .getfield 37, 3), (36, .iload_n 1, 1), (37, .iaload, 1), (38, .iconst (-1), 1), (39, .if_icmp .ne 6, 3), (42, .bipush (-11), 2), (44, .ireturn, 1), (45, .aload_n 0, 1), (46, .getfield 37, 3), (49, .iload_n 1, 1), (50, .iaload, 1), (51, .iload_n 2, 1), (52, .if_icmp .eq 6, 3), (55, .bipush (-13), 2), (57, .ireturn, 1), (58, .iconst 0, 1), (59, .istore 5, 2), (61, .iconst 0, 1), (62, .istore 6, 2), (64, .iload 6, 2), (66, .iload 4, 2), (68, .if_icmp .ge 85, 3), (71, .iload_n 3, 1), (72, .iconst 2, 1), (73, .iload 6, 2), (75, .imul, 1), (76, .iadd, 1), (77, .istore 7, 2), (79, .iload_n 3, 1), (80, .ifCond .lt 22, 3), (83, .iload 7, 2), (85, .iload_n 3, 1), (86, .if_icmp .lt 16, 3), (89, .iload 7, 2), (91, .aload_n 0, 1), (92, .getfield 40, 3), (95, .iload_n 1, 1), (96, .iaload, 1), (97, .iconst 2, 1), (98, .isub, 1), (99, .if_icmp .le 6, 3), (102, .bipush (-12), 2), (104, .ireturn, 1), (105, .bipush 40, 2), (107, .iload_n 1, 1), (108, .imul, 1), (109, .iload 7, 2), (111, .iadd, 1), (112, .istore 8, 2), (114, .iload 5, 2), (116, .aload_n 0, 1), (117, .aload_n 0, 1), (118, .getfield 43, 3), (121, .iload 8, 2), (123, .iaload, 1), (124, .aload_n 0, 1), (125, .getfield 43, 3), (128, .iload 8, 2), (130, .iconst 1, 1), (131, .iadd, 1), (132, .iaload, 1), (133, .invokevirtual 256, 3), (136, .ifCond .lt 7, 3), (139, .iconst 1, 1), (140, .goto 4, 3), (143, .iconst 0, 1), (144, .iadd, 1), (145, .istore 5, 2), (147, .iinc 6 1, 3), (150, .goto (-86), 3), (153, .iload 5, 2), (155, .ireturn, 1)]
set_option maxRecDepth 20000 in
theorem dtX6_bathersBy : ∀ x ∈ tbX6_bathersBy, decode cX6_bathersBy x.1 = .ok x.2 := by decide +kernel
noncomputable def j6_bathersBy_144 (k64 : Nat × Int32 × Int32 × Int32 × Int32 × Int32 → Wd → Option (Int32 × Wd)) (x0 : Nat) (x1 : Int32) (x3 : Int32) (x4 : Int32) (x6 : Int32) (s0 : Int32) (s1 : Int32) (w : Wd) : Option (Int32 × Wd) :=
  k64 (x0, x1, x3, x4, (s1 + s0), (x6 + (1 : Int32))) w
theorem wpj6_bathersBy_144 (X : CX) (w0 : Wd) (k64 : Nat × Int32 × Int32 × Int32 × Int32 × Int32 → Wd → Option (Int32 × Wd)) (hk64 : ∀ (v : Nat × Int32 × Int32 × Int32 × Int32 × Int32) (w : Wd), WPe rtI X (mX6_bathersBy, 3, 0, 0, w0) 0 0 (k64 v w) 64 [(0, vR v.1), (1, vI v.2.1), (3, vI v.2.2.1), (4, vI v.2.2.2.1), (5, vI v.2.2.2.2.1), (6, vI v.2.2.2.2.2)] [] w) (x0 : Nat) (x1 : Int32) (x3 : Int32) (x4 : Int32) (x6 : Int32) (s0 : Int32) (s1 : Int32) (w : Wd) : WPe rtI X (mX6_bathersBy, 3, 0, 0, w0) 0 0 (j6_bathersBy_144 k64 x0 x1 x3 x4 x6 s0 s1 w) 144 [(0, vR x0), (1, vI x1), (3, vI x3), (4, vI x4), (6, vI x6)] [vI s0, vI s1] w := by
  unfold j6_bathersBy_144
  refine WPe_iadd (pc := 144) (dd dtX6_bathersBy 84 rfl) ?_
  refine WPe_istore (pc := 145) (ls' := [(5, vI (s1 + s0)), (0, vR x0), (1, vI x1), (3, vI x3), (4, vI x4), (6, vI x6)]) (dd dtX6_bathersBy 85 rfl) (Nat.le_of_ble_eq_true rfl) rfl ?_
  refine WPe_iinc (pc := 147) (ls' := [(6, vI (x6 + (1 : Int32))), (5, vI (s1 + s0)), (0, vR x0), (1, vI x1), (3, vI x3), (4, vI x4)]) 5 (x6 + (1 : Int32)) (dd dtX6_bathersBy 86 rfl) rfl (congrArg (HAdd.hAdd _) (by decide : Int32.ofInt (1) = (1 : Int32))) (Nat.le_of_ble_eq_true rfl) rfl ?_
  refine WPe_goto (pc := 150) 64 (dd dtX6_bathersBy 87 rfl) (by decide) ?_
  refine WPe_sub [2, 3, 4, 5, 1, 0] rfl ?_
  exact hk64 (x0, x1, x3, x4, (s1 + s0), (x6 + (1 : Int32))) w
noncomputable def b6_bathersBy_64 (k64 : Nat × Int32 × Int32 × Int32 × Int32 × Int32 → Wd → Option (Int32 × Wd)) (v : Nat × Int32 × Int32 × Int32 × Int32 × Int32) (w : Wd) : Option (Int32 × Wd) :=
  if v.2.2.2.1 ≤ v.2.2.2.2.2 then (some (v.2.2.2.2.1, w)) else (if v.2.2.1 < (0 : Int32) then (some ((-12 : Int32), w)) else (if (v.2.2.1 + ((2 : Int32) * v.2.2.2.2.2)) < v.2.2.1 then (some ((-12 : Int32), w)) else (ck (tg w v.1 = 6) (ck (tg w (wr w v.1 15) = 20 ∧ vp_in v.2.1 (ln w (wr w v.1 15))) (if (v.2.2.1 + ((2 : Int32) * v.2.2.2.2.2)) ≤ ((wi w (wr w v.1 15) (v.2.1).toNatClampNeg) - (2 : Int32)) then (ck (tg w (wr w v.1 16) = 20 ∧ vp_in (((40 : Int32) * v.2.1) + (v.2.2.1 + ((2 : Int32) * v.2.2.2.2.2))) (ln w (wr w v.1 16))) (ck (vp_in ((((40 : Int32) * v.2.1) + (v.2.2.1 + ((2 : Int32) * v.2.2.2.2.2))) + (1 : Int32)) (ln w (wr w v.1 16))) ((f6_bather v.1 (wi w (wr w v.1 16) ((((40 : Int32) * v.2.1) + (v.2.2.1 + ((2 : Int32) * v.2.2.2.2.2)))).toNatClampNeg) (wi w (wr w v.1 16) (((((40 : Int32) * v.2.1) + (v.2.2.1 + ((2 : Int32) * v.2.2.2.2.2))) + (1 : Int32))).toNatClampNeg) w).bind fun z26 => (if z26.1 < (0 : Int32) then (j6_bathersBy_144 k64 v.1 v.2.1 v.2.2.1 v.2.2.2.1 v.2.2.2.2.2 (0 : Int32) v.2.2.2.2.1 z26.2) else (j6_bathersBy_144 k64 v.1 v.2.1 v.2.2.1 v.2.2.2.1 v.2.2.2.2.2 (1 : Int32) v.2.2.2.2.1 z26.2))))) else (some ((-12 : Int32), w)))))))
theorem wpb6_bathersBy_64 (X : CX) (w0 : Wd) (k64 : Nat × Int32 × Int32 × Int32 × Int32 × Int32 → Wd → Option (Int32 × Wd)) (hk64 : ∀ (v : Nat × Int32 × Int32 × Int32 × Int32 × Int32) (w : Wd), WPe rtI X (mX6_bathersBy, 3, 0, 0, w0) 0 0 (k64 v w) 64 [(0, vR v.1), (1, vI v.2.1), (3, vI v.2.2.1), (4, vI v.2.2.2.1), (5, vI v.2.2.2.2.1), (6, vI v.2.2.2.2.2)] [] w) (v : Nat × Int32 × Int32 × Int32 × Int32 × Int32) (w : Wd) : WPe rtI X (mX6_bathersBy, 3, 0, 0, w0) 0 0 (b6_bathersBy_64 k64 v w) 64 [(0, vR v.1), (1, vI v.2.1), (3, vI v.2.2.1), (4, vI v.2.2.2.1), (5, vI v.2.2.2.2.1), (6, vI v.2.2.2.2.2)] [] w := by
  unfold b6_bathersBy_64
  refine WPe_iload (pc := 64) 5 (dd dtX6_bathersBy 37 rfl) rfl ?_
  refine WPe_iload (pc := 66) 3 (dd dtX6_bathersBy 38 rfl) rfl ?_
  refine WPe_icmp_ge (pc := 68) 153 (dd dtX6_bathersBy 39 rfl) (by decide) (fun h18 => ?_) (fun h18 => ?_)
  · refine WPe_iload (pc := 153) 4 (dd dtX6_bathersBy 88 rfl) rfl ?_
    exact WPe_ireturn (pc := 155) (dd dtX6_bathersBy 89 rfl) rfl rfl ⟨(Nat.le_of_ble_eq_true rfl), (Nat.le_of_ble_eq_true rfl)⟩
  · refine WPe_iload_n (pc := 71) 2 (dd dtX6_bathersBy 40 rfl) rfl ?_
    refine WPe_iconst (pc := 72) (2 : Int32) (dd dtX6_bathersBy 41 rfl) (by decide) ?_
    refine WPe_iload (pc := 73) 5 (dd dtX6_bathersBy 42 rfl) rfl ?_
    refine WPe_imul (pc := 75) (dd dtX6_bathersBy 43 rfl) ?_
    refine WPe_iadd (pc := 76) (dd dtX6_bathersBy 44 rfl) ?_
    refine WPe_istore (pc := 77) (ls' := [(7, vI (v.2.2.1 + ((2 : Int32) * v.2.2.2.2.2))), (0, vR v.1), (1, vI v.2.1), (3, vI v.2.2.1), (4, vI v.2.2.2.1), (5, vI v.2.2.2.2.1), (6, vI v.2.2.2.2.2)]) (dd dtX6_bathersBy 45 rfl) (Nat.le_of_ble_eq_true rfl) rfl ?_
    refine WPe_iload_n (pc := 79) 3 (dd dtX6_bathersBy 46 rfl) rfl ?_
    refine WPe_if_lt (pc := 80) 102 (dd dtX6_bathersBy 47 rfl) (by decide) (fun h19 => ?_) (fun h19 => ?_)
    · refine WPe_bipush (pc := 102) (-12 : Int32) (dd dtX6_bathersBy 59 rfl) (by decide) ?_
      exact WPe_ireturn (pc := 104) (dd dtX6_bathersBy 60 rfl) rfl rfl ⟨(Nat.le_of_ble_eq_true rfl), (Nat.le_of_ble_eq_true rfl)⟩
    · refine WPe_iload (pc := 83) 0 (dd dtX6_bathersBy 48 rfl) rfl ?_
      refine WPe_iload_n (pc := 85) 3 (dd dtX6_bathersBy 49 rfl) rfl ?_
      refine WPe_icmp_lt (pc := 86) 102 (dd dtX6_bathersBy 50 rfl) (by decide) (fun h20 => ?_) (fun h20 => ?_)
      · refine WPe_bipush (pc := 102) (-12 : Int32) (dd dtX6_bathersBy 59 rfl) (by decide) ?_
        exact WPe_ireturn (pc := 104) (dd dtX6_bathersBy 60 rfl) rfl rfl ⟨(Nat.le_of_ble_eq_true rfl), (Nat.le_of_ble_eq_true rfl)⟩
      · refine WPe_iload (pc := 89) 0 (dd dtX6_bathersBy 51 rfl) rfl ?_
        refine WPe_aload_n (pc := 91) 1 (dd dtX6_bathersBy 52 rfl) rfl ?_
        refine WPe_ck fun h21 => ?_
        refine WPe_getR (pc := 92) (t := 6) (C := RX6) (T := TX6) 15 (dd dtX6_bathersBy 53 rfl) (shE h21) rfl (Nat.le_of_ble_eq_true rfl) rfl (bw_mem4 68 rfl rfl) ?_
        refine WPe_iload_n (pc := 95) 2 (dd dtX6_bathersBy 54 rfl) rfl ?_
        refine WPe_ck fun h22 => ?_
        refine WPe_iald (pc := 96) (dd dtX6_bathersBy 55 rfl) (shE h22.1) h22.2 ?_
        refine WPe_iconst (pc := 97) (2 : Int32) (dd dtX6_bathersBy 56 rfl) (by decide) ?_
        refine WPe_isub (pc := 98) (dd dtX6_bathersBy 57 rfl) ?_
        refine WPe_icmp_le (pc := 99) 105 (dd dtX6_bathersBy 58 rfl) (by decide) (fun h23 => ?_) (fun h23 => ?_)
        · refine WPe_bipush (pc := 105) (40 : Int32) (dd dtX6_bathersBy 61 rfl) (by decide) ?_
          refine WPe_iload_n (pc := 107) 2 (dd dtX6_bathersBy 62 rfl) rfl ?_
          refine WPe_imul (pc := 108) (dd dtX6_bathersBy 63 rfl) ?_
          refine WPe_iload (pc := 109) 0 (dd dtX6_bathersBy 64 rfl) rfl ?_
          refine WPe_iadd (pc := 111) (dd dtX6_bathersBy 65 rfl) ?_
          refine WPe_istore (pc := 112) (ls' := [(8, vI (((40 : Int32) * v.2.1) + (v.2.2.1 + ((2 : Int32) * v.2.2.2.2.2)))), (7, vI (v.2.2.1 + ((2 : Int32) * v.2.2.2.2.2))), (0, vR v.1), (1, vI v.2.1), (3, vI v.2.2.1), (4, vI v.2.2.2.1), (5, vI v.2.2.2.2.1), (6, vI v.2.2.2.2.2)]) (dd dtX6_bathersBy 66 rfl) (Nat.le_of_ble_eq_true rfl) rfl ?_
          refine WPe_iload (pc := 114) 6 (dd dtX6_bathersBy 67 rfl) rfl ?_
          refine WPe_aload_n (pc := 116) 2 (dd dtX6_bathersBy 68 rfl) rfl ?_
          refine WPe_aload_n (pc := 117) 2 (dd dtX6_bathersBy 69 rfl) rfl ?_
          refine WPe_getR (pc := 118) (t := 6) (C := RX6) (T := TX6) 16 (dd dtX6_bathersBy 70 rfl) (shE h21) rfl (Nat.le_of_ble_eq_true rfl) rfl (bw_mem4 69 rfl rfl) ?_
          refine WPe_iload (pc := 121) 0 (dd dtX6_bathersBy 71 rfl) rfl ?_
          refine WPe_ck fun h24 => ?_
          refine WPe_iald (pc := 123) (dd dtX6_bathersBy 72 rfl) (shE h24.1) h24.2 ?_
          refine WPe_aload_n (pc := 124) 2 (dd dtX6_bathersBy 73 rfl) rfl ?_
          refine WPe_getR (pc := 125) (t := 6) (C := RX6) (T := TX6) 16 (dd dtX6_bathersBy 74 rfl) (shE h21) rfl (Nat.le_of_ble_eq_true rfl) rfl (bw_mem4 69 rfl rfl) ?_
          refine WPe_iload (pc := 128) 0 (dd dtX6_bathersBy 75 rfl) rfl ?_
          refine WPe_iconst (pc := 130) (1 : Int32) (dd dtX6_bathersBy 76 rfl) (by decide) ?_
          refine WPe_iadd (pc := 131) (dd dtX6_bathersBy 77 rfl) ?_
          refine WPe_ck fun h25 => ?_
          refine WPe_iald (pc := 132) (dd dtX6_bathersBy 78 rfl) (shL (shE h24.1)) h25 ?_
          refine WPe_callV (pc := 133) (rtc := rtI) (Mc := mX6_bather) (d' := 2) (mc' := 0) (ms' := 0) [vI (wi w (wr w v.1 16) ((((40 : Int32) * v.2.1) + (v.2.2.1 + ((2 : Int32) * v.2.2.2.2.2)))).toNatClampNeg), vI (wi w (wr w v.1 16) (((((40 : Int32) * v.2.1) + (v.2.2.1 + ((2 : Int32) * v.2.2.2.2.2))) + (1 : Int32))).toNatClampNeg)] [vI v.2.2.2.2.1] rfl (dd dtX6_bathersBy 79 rfl) (okf6_bather v.1 (wi w (wr w v.1 16) ((((40 : Int32) * v.2.1) + (v.2.2.1 + ((2 : Int32) * v.2.2.2.2.2)))).toNatClampNeg) (wi w (wr w v.1 16) (((((40 : Int32) * v.2.1) + (v.2.2.1 + ((2 : Int32) * v.2.2.2.2.2))) + (1 : Int32))).toNatClampNeg) w) moX6_bather miX6_bather (bw_mem5 184 rfl rfl) (Or.inl ⟨_, _, _, _, (shE h21), rfl⟩) rfl (Nat.le_of_ble_eq_true rfl) ⟨(Nat.le_of_ble_eq_true rfl), (Nat.le_of_ble_eq_true rfl)⟩ ⟨(Nat.le_of_ble_eq_true rfl), (Nat.le_of_ble_eq_true rfl)⟩ (fun z26 h27 e28 => ?_)
          refine WPe_st (st2 := [vI z26.1, vI v.2.2.2.2.1]) rfl ?_
          refine WPe_if_lt (pc := 136) 143 (dd dtX6_bathersBy 80 rfl) (by decide) (fun h29 => ?_) (fun h29 => ?_)
          · refine WPe_iconst (pc := 143) (0 : Int32) (dd dtX6_bathersBy 83 rfl) (by decide) ?_
            refine WPe_sub [2, 3, 4, 5, 7] rfl ?_
            exact wpj6_bathersBy_144 X w0 k64 hk64 v.1 v.2.1 v.2.2.1 v.2.2.2.1 v.2.2.2.2.2 (0 : Int32) v.2.2.2.2.1 z26.2
          · refine WPe_iconst (pc := 139) (1 : Int32) (dd dtX6_bathersBy 81 rfl) (by decide) ?_
            refine WPe_goto (pc := 140) 144 (dd dtX6_bathersBy 82 rfl) (by decide) ?_
            refine WPe_sub [2, 3, 4, 5, 7] rfl ?_
            exact wpj6_bathersBy_144 X w0 k64 hk64 v.1 v.2.1 v.2.2.1 v.2.2.2.1 v.2.2.2.2.2 (1 : Int32) v.2.2.2.2.1 z26.2
        · refine WPe_bipush (pc := 102) (-12 : Int32) (dd dtX6_bathersBy 59 rfl) (by decide) ?_
          exact WPe_ireturn (pc := 104) (dd dtX6_bathersBy 60 rfl) rfl rfl ⟨(Nat.le_of_ble_eq_true rfl), (Nat.le_of_ble_eq_true rfl)⟩
theorem wplb6_bathersBy_64 (X : CX) (w0 : Wd)  : ∀ (n9 : Nat) (v : Nat × Int32 × Int32 × Int32 × Int32 × Int32) (w : Wd), WPe rtI X (mX6_bathersBy, 3, 0, 0, w0) 0 0 (loopF (b6_bathersBy_64 ) n9 v w) 64 [(0, vR v.1), (1, vI v.2.1), (3, vI v.2.2.1), (4, vI v.2.2.2.1), (5, vI v.2.2.2.2.1), (6, vI v.2.2.2.2.2)] [] w :=
  WPe_loop (rt := rtI) (X := X) (M := (mX6_bathersBy, 3, 0, 0, w0)) (fun v : Nat × Int32 × Int32 × Int32 × Int32 × Int32 => [(0, vR v.1), (1, vI v.2.1), (3, vI v.2.2.1), (4, vI v.2.2.2.1), (5, vI v.2.2.2.2.1), (6, vI v.2.2.2.2.2)]) (fun k hk v w => wpb6_bathersBy_64 X w0  k hk v w)
noncomputable def f6_bathersBy (x0 : Nat) (x1 : Int32) (x2 : Int32) (x3 : Int32) (x4 : Int32) (w : Wd) : Option (Int32 × Wd) :=
  (f6_in x1 (0 : Int32) (3 : Int32) w).bind fun z1 => (if z1.1 = (0 : Int32) then (some ((-2 : Int32), z1.2)) else ((f6_in x2 (0 : Int32) (2 : Int32) z1.2).bind fun z5 => (if z5.1 = (0 : Int32) then (some ((-2 : Int32), z5.2)) else ((f6_in x4 (0 : Int32) (6 : Int32) z5.2).bind fun z9 => (if z9.1 = (0 : Int32) then (some ((-2 : Int32), z9.2)) else (ck (tg z9.2 x0 = 6) (ck (tg z9.2 (wr z9.2 x0 14) = 20 ∧ vp_in x1 (ln z9.2 (wr z9.2 x0 14))) (if (wi z9.2 (wr z9.2 x0 14) (x1).toNatClampNeg) = (-1 : Int32) then (some ((-11 : Int32), z9.2)) else (ck (vp_in x1 (ln z9.2 (wr z9.2 x0 14))) (if (wi z9.2 (wr z9.2 x0 14) (x1).toNatClampNeg) = x2 then (loopF (b6_bathersBy_64) FU (x0, x1, x3, x4, (0 : Int32), (0 : Int32)) z9.2) else (some ((-13 : Int32), z9.2))))))))))))
theorem wpf6_bathersBy (X : CX) (w0 : Wd) (x0 : Nat) (x1 : Int32) (x2 : Int32) (x3 : Int32) (x4 : Int32) (w : Wd) : WPe rtI X (mX6_bathersBy, 3, 0, 0, w0) 0 0 (f6_bathersBy x0 x1 x2 x3 x4 w) 0 [(0, vR x0), (1, vI x1), (2, vI x2), (3, vI x3), (4, vI x4)] [] w := by
  unfold f6_bathersBy
  refine WPe_iload_n (pc := 0) 1 (dd dtX6_bathersBy 0 rfl) rfl ?_
  refine WPe_iconst (pc := 1) (0 : Int32) (dd dtX6_bathersBy 1 rfl) (by decide) ?_
  refine WPe_iconst (pc := 2) (3 : Int32) (dd dtX6_bathersBy 2 rfl) (by decide) ?_
  refine WPe_callS (pc := 3) (rtc := rtI) (Mc := mX6_in) (d' := 1) (mc' := 0) (ms' := 0) [vI x1, vI (0 : Int32), vI (3 : Int32)] [] rfl (dd dtX6_bathersBy 3 rfl) (okf6_in x1 (0 : Int32) (3 : Int32) w) moX6_in msX6_in (bw_mem4 14 rfl rfl) rfl (Nat.le_of_ble_eq_true rfl) ⟨(Nat.le_of_ble_eq_true rfl), (Nat.le_of_ble_eq_true rfl)⟩ ⟨(Nat.le_of_ble_eq_true rfl), (Nat.le_of_ble_eq_true rfl)⟩ (fun z1 h2 e3 => ?_)
  refine WPe_st (st2 := [vI z1.1]) rfl ?_
  refine WPe_if_eq (pc := 6) 29 (dd dtX6_bathersBy 4 rfl) (by decide) (fun h4 => ?_) (fun h4 => ?_)
  · refine WPe_bipush (pc := 29) (-2 : Int32) (dd dtX6_bathersBy 15 rfl) (by decide) ?_
    exact WPe_ireturn (pc := 31) (dd dtX6_bathersBy 16 rfl) rfl rfl ⟨(Nat.le_of_ble_eq_true rfl), (Nat.le_of_ble_eq_true rfl)⟩
  · refine WPe_iload_n (pc := 9) 2 (dd dtX6_bathersBy 5 rfl) rfl ?_
    refine WPe_iconst (pc := 10) (0 : Int32) (dd dtX6_bathersBy 6 rfl) (by decide) ?_
    refine WPe_iconst (pc := 11) (2 : Int32) (dd dtX6_bathersBy 7 rfl) (by decide) ?_
    refine WPe_callS (pc := 12) (rtc := rtI) (Mc := mX6_in) (d' := 1) (mc' := 0) (ms' := 0) [vI x2, vI (0 : Int32), vI (2 : Int32)] [] rfl (dd dtX6_bathersBy 8 rfl) (okf6_in x2 (0 : Int32) (2 : Int32) z1.2) moX6_in msX6_in (bw_mem4 14 rfl rfl) rfl (Nat.le_of_ble_eq_true rfl) ⟨(Nat.le_of_ble_eq_true rfl), (Nat.le_of_ble_eq_true rfl)⟩ ⟨(Nat.le_of_ble_eq_true rfl), (Nat.le_of_ble_eq_true rfl)⟩ (fun z5 h6 e7 => ?_)
    refine WPe_st (st2 := [vI z5.1]) rfl ?_
    refine WPe_if_eq (pc := 15) 29 (dd dtX6_bathersBy 9 rfl) (by decide) (fun h8 => ?_) (fun h8 => ?_)
    · refine WPe_bipush (pc := 29) (-2 : Int32) (dd dtX6_bathersBy 15 rfl) (by decide) ?_
      exact WPe_ireturn (pc := 31) (dd dtX6_bathersBy 16 rfl) rfl rfl ⟨(Nat.le_of_ble_eq_true rfl), (Nat.le_of_ble_eq_true rfl)⟩
    · refine WPe_iload (pc := 18) 4 (dd dtX6_bathersBy 10 rfl) rfl ?_
      refine WPe_iconst (pc := 20) (0 : Int32) (dd dtX6_bathersBy 11 rfl) (by decide) ?_
      refine WPe_bipush (pc := 21) (6 : Int32) (dd dtX6_bathersBy 12 rfl) (by decide) ?_
      refine WPe_callS (pc := 23) (rtc := rtI) (Mc := mX6_in) (d' := 1) (mc' := 0) (ms' := 0) [vI x4, vI (0 : Int32), vI (6 : Int32)] [] rfl (dd dtX6_bathersBy 13 rfl) (okf6_in x4 (0 : Int32) (6 : Int32) z5.2) moX6_in msX6_in (bw_mem4 14 rfl rfl) rfl (Nat.le_of_ble_eq_true rfl) ⟨(Nat.le_of_ble_eq_true rfl), (Nat.le_of_ble_eq_true rfl)⟩ ⟨(Nat.le_of_ble_eq_true rfl), (Nat.le_of_ble_eq_true rfl)⟩ (fun z9 h10 e11 => ?_)
      refine WPe_st (st2 := [vI z9.1]) rfl ?_
      refine WPe_if_ne (pc := 26) 32 (dd dtX6_bathersBy 14 rfl) (by decide) (fun h12 => ?_) (fun h12 => ?_)
      · refine WPe_bipush (pc := 29) (-2 : Int32) (dd dtX6_bathersBy 15 rfl) (by decide) ?_
        exact WPe_ireturn (pc := 31) (dd dtX6_bathersBy 16 rfl) rfl rfl ⟨(Nat.le_of_ble_eq_true rfl), (Nat.le_of_ble_eq_true rfl)⟩
      · refine WPe_aload_n (pc := 32) 0 (dd dtX6_bathersBy 17 rfl) rfl ?_
        refine WPe_ck fun h13 => ?_
        refine WPe_getR (pc := 33) (t := 6) (C := RX6) (T := TX6) 14 (dd dtX6_bathersBy 18 rfl) (shE h13) rfl (Nat.le_of_ble_eq_true rfl) rfl (bw_mem4 67 rfl rfl) ?_
        refine WPe_iload_n (pc := 36) 1 (dd dtX6_bathersBy 19 rfl) rfl ?_
        refine WPe_ck fun h14 => ?_
        refine WPe_iald (pc := 37) (dd dtX6_bathersBy 20 rfl) (shE h14.1) h14.2 ?_
        refine WPe_iconst (pc := 38) (-1 : Int32) (dd dtX6_bathersBy 21 rfl) (by decide) ?_
        refine WPe_icmp_ne (pc := 39) 45 (dd dtX6_bathersBy 22 rfl) (by decide) (fun h15 => ?_) (fun h15 => ?_)
        · refine WPe_bipush (pc := 42) (-11 : Int32) (dd dtX6_bathersBy 23 rfl) (by decide) ?_
          exact WPe_ireturn (pc := 44) (dd dtX6_bathersBy 24 rfl) rfl rfl ⟨(Nat.le_of_ble_eq_true rfl), (Nat.le_of_ble_eq_true rfl)⟩
        · refine WPe_aload_n (pc := 45) 0 (dd dtX6_bathersBy 25 rfl) rfl ?_
          refine WPe_getR (pc := 46) (t := 6) (C := RX6) (T := TX6) 14 (dd dtX6_bathersBy 26 rfl) (shE h13) rfl (Nat.le_of_ble_eq_true rfl) rfl (bw_mem4 67 rfl rfl) ?_
          refine WPe_iload_n (pc := 49) 1 (dd dtX6_bathersBy 27 rfl) rfl ?_
          refine WPe_ck fun h16 => ?_
          refine WPe_iald (pc := 50) (dd dtX6_bathersBy 28 rfl) (shL (shE h14.1)) h16 ?_
          refine WPe_iload_n (pc := 51) 2 (dd dtX6_bathersBy 29 rfl) rfl ?_
          refine WPe_icmp_eq (pc := 52) 58 (dd dtX6_bathersBy 30 rfl) (by decide) (fun h17 => ?_) (fun h17 => ?_)
          · refine WPe_iconst (pc := 58) (0 : Int32) (dd dtX6_bathersBy 33 rfl) (by decide) ?_
            refine WPe_istore (pc := 59) (ls' := [(5, vI (0 : Int32)), (0, vR x0), (1, vI x1), (2, vI x2), (3, vI x3), (4, vI x4)]) (dd dtX6_bathersBy 34 rfl) (Nat.le_of_ble_eq_true rfl) rfl ?_
            refine WPe_iconst (pc := 61) (0 : Int32) (dd dtX6_bathersBy 35 rfl) (by decide) ?_
            refine WPe_istore (pc := 62) (ls' := [(6, vI (0 : Int32)), (5, vI (0 : Int32)), (0, vR x0), (1, vI x1), (2, vI x2), (3, vI x3), (4, vI x4)]) (dd dtX6_bathersBy 36 rfl) (Nat.le_of_ble_eq_true rfl) rfl ?_
            refine WPe_sub [2, 3, 5, 6, 1, 0] rfl ?_
            exact wplb6_bathersBy_64 X w0  FU _ _
          · refine WPe_bipush (pc := 55) (-13 : Int32) (dd dtX6_bathersBy 31 rfl) (by decide) ?_
            exact WPe_ireturn (pc := 57) (dd dtX6_bathersBy 32 rfl) rfl rfl ⟨(Nat.le_of_ble_eq_true rfl), (Nat.le_of_ble_eq_true rfl)⟩
theorem okf6_bathersBy (x0 : Nat) (x1 : Int32) (x2 : Int32) (x3 : Int32) (x4 : Int32) (w : Wd) : ∀ z, f6_bathersBy x0 x1 x2 x3 x4 w = some z → OkM mX6_bathersBy 3 0 0 [vR x0, vI x1, vI x2, vI x3, vI x4] w (rtI z.1) z.2 :=
  OkM.of (rt := rtI) moX6_bathersBy (Nat.le_of_ble_eq_true rfl) (fun X => wpf6_bathersBy X w x0 x1 x2 x3 x4 w)
def tbX6_isUnder : List (Nat × Instr × Nat) := [(0, .iload_n 1, 1), (1, .ifCond .eq 28, 3), (4, .iload_n 0, 1), (5, .iload_n 1, 1), (6, .if_icmp .eq 23, 3), (9, .iload_n 1, 1), (10, .iconst 1, 1), (11, .if_icmp .ne 8, 3), (14, .iload_n 0, 1), (15, .iconst 3, 1), (16, .if_icmp .eq 13, 3), (19, .iload_n 1, 1), (20, .iconst 2, 1), (21, .if_icmp .ne 12, 3), (24, .iload_n 0, 1), (25, .iconst 4, 1), (26, .if_icmp .ne 7, 3), (29, .iconst 1, 1), (30, .goto 4, 3), (33, .iconst 0, 1), (34, .ireturn, 1)]
set_option maxRecDepth 20000 in
theorem dtX6_isUnder : ∀ x ∈ tbX6_isUnder, decode cX6_isUnder x.1 = .ok x.2 := by decide +kernel
noncomputable def j6_isUnder_19  (x0 : Int32) (x1 : Int32) (w : Wd) : Option (Int32 × Wd) :=
  if x1 = (2 : Int32) then (if x0 = (4 : Int32) then (some ((1 : Int32), w)) else (some ((0 : Int32), w))) else (some ((0 : Int32), w))
theorem wpj6_isUnder_19 (X : CX) (w0 : Wd)  (x0 : Int32) (x1 : Int32) (w : Wd) : WPe rtI X (mX6_isUnder, 1, 0, 0, w0) 0 0 (j6_isUnder_19  x0 x1 w) 19 [(0, vI x0), (1, vI x1)] [] w := by
  unfold j6_isUnder_19
  refine WPe_iload_n (pc := 19) 1 (dd dtX6_isUnder 11 rfl) rfl ?_
  refine WPe_iconst (pc := 20) (2 : Int32) (dd dtX6_isUnder 12 rfl) (by decide) ?_
  refine WPe_icmp_ne (pc := 21) 33 (dd dtX6_isUnder 13 rfl) (by decide) (fun h5 => ?_) (fun h5 => ?_)
  · refine WPe_iload_n (pc := 24) 0 (dd dtX6_isUnder 14 rfl) rfl ?_
    refine WPe_iconst (pc := 25) (4 : Int32) (dd dtX6_isUnder 15 rfl) (by decide) ?_
    refine WPe_icmp_ne (pc := 26) 33 (dd dtX6_isUnder 16 rfl) (by decide) (fun h6 => ?_) (fun h6 => ?_)
    · refine WPe_iconst (pc := 29) (1 : Int32) (dd dtX6_isUnder 17 rfl) (by decide) ?_
      refine WPe_goto (pc := 30) 34 (dd dtX6_isUnder 18 rfl) (by decide) ?_
      exact WPe_zreturn (pc := 34) (ty := .boolean) (dd dtX6_isUnder 20 rfl) rfl rfl rfl ⟨(Nat.le_of_ble_eq_true rfl), (Nat.le_of_ble_eq_true rfl)⟩
    · refine WPe_iconst (pc := 33) (0 : Int32) (dd dtX6_isUnder 19 rfl) (by decide) ?_
      exact WPe_zreturn (pc := 34) (ty := .boolean) (dd dtX6_isUnder 20 rfl) rfl rfl rfl ⟨(Nat.le_of_ble_eq_true rfl), (Nat.le_of_ble_eq_true rfl)⟩
  · refine WPe_iconst (pc := 33) (0 : Int32) (dd dtX6_isUnder 19 rfl) (by decide) ?_
    exact WPe_zreturn (pc := 34) (ty := .boolean) (dd dtX6_isUnder 20 rfl) rfl rfl rfl ⟨(Nat.le_of_ble_eq_true rfl), (Nat.le_of_ble_eq_true rfl)⟩
noncomputable def f6_isUnder (x0 : Int32) (x1 : Int32) (w : Wd) : Option (Int32 × Wd) :=
  if x1 = (0 : Int32) then (some ((1 : Int32), w)) else (if x0 = x1 then (some ((1 : Int32), w)) else (if x1 = (1 : Int32) then (if x0 = (3 : Int32) then (some ((1 : Int32), w)) else (j6_isUnder_19 x0 x1 w)) else (j6_isUnder_19 x0 x1 w)))
theorem wpf6_isUnder (X : CX) (w0 : Wd) (x0 : Int32) (x1 : Int32) (w : Wd) : WPe rtI X (mX6_isUnder, 1, 0, 0, w0) 0 0 (f6_isUnder x0 x1 w) 0 [(0, vI x0), (1, vI x1)] [] w := by
  unfold f6_isUnder
  refine WPe_iload_n (pc := 0) 1 (dd dtX6_isUnder 0 rfl) rfl ?_
  refine WPe_if_eq (pc := 1) 29 (dd dtX6_isUnder 1 rfl) (by decide) (fun h1 => ?_) (fun h1 => ?_)
  · refine WPe_iconst (pc := 29) (1 : Int32) (dd dtX6_isUnder 17 rfl) (by decide) ?_
    refine WPe_goto (pc := 30) 34 (dd dtX6_isUnder 18 rfl) (by decide) ?_
    exact WPe_zreturn (pc := 34) (ty := .boolean) (dd dtX6_isUnder 20 rfl) rfl rfl rfl ⟨(Nat.le_of_ble_eq_true rfl), (Nat.le_of_ble_eq_true rfl)⟩
  · refine WPe_iload_n (pc := 4) 0 (dd dtX6_isUnder 2 rfl) rfl ?_
    refine WPe_iload_n (pc := 5) 1 (dd dtX6_isUnder 3 rfl) rfl ?_
    refine WPe_icmp_eq (pc := 6) 29 (dd dtX6_isUnder 4 rfl) (by decide) (fun h2 => ?_) (fun h2 => ?_)
    · refine WPe_iconst (pc := 29) (1 : Int32) (dd dtX6_isUnder 17 rfl) (by decide) ?_
      refine WPe_goto (pc := 30) 34 (dd dtX6_isUnder 18 rfl) (by decide) ?_
      exact WPe_zreturn (pc := 34) (ty := .boolean) (dd dtX6_isUnder 20 rfl) rfl rfl rfl ⟨(Nat.le_of_ble_eq_true rfl), (Nat.le_of_ble_eq_true rfl)⟩
    · refine WPe_iload_n (pc := 9) 1 (dd dtX6_isUnder 5 rfl) rfl ?_
      refine WPe_iconst (pc := 10) (1 : Int32) (dd dtX6_isUnder 6 rfl) (by decide) ?_
      refine WPe_icmp_ne (pc := 11) 19 (dd dtX6_isUnder 7 rfl) (by decide) (fun h3 => ?_) (fun h3 => ?_)
      · refine WPe_iload_n (pc := 14) 0 (dd dtX6_isUnder 8 rfl) rfl ?_
        refine WPe_iconst (pc := 15) (3 : Int32) (dd dtX6_isUnder 9 rfl) (by decide) ?_
        refine WPe_icmp_eq (pc := 16) 29 (dd dtX6_isUnder 10 rfl) (by decide) (fun h4 => ?_) (fun h4 => ?_)
        · refine WPe_iconst (pc := 29) (1 : Int32) (dd dtX6_isUnder 17 rfl) (by decide) ?_
          refine WPe_goto (pc := 30) 34 (dd dtX6_isUnder 18 rfl) (by decide) ?_
          exact WPe_zreturn (pc := 34) (ty := .boolean) (dd dtX6_isUnder 20 rfl) rfl rfl rfl ⟨(Nat.le_of_ble_eq_true rfl), (Nat.le_of_ble_eq_true rfl)⟩
        · refine WPe_sub [0, 1] rfl ?_
          exact wpj6_isUnder_19 X w0  x0 x1 w
      · refine WPe_sub [0, 1] rfl ?_
        exact wpj6_isUnder_19 X w0  x0 x1 w
theorem okf6_isUnder (x0 : Int32) (x1 : Int32) (w : Wd) : ∀ z, f6_isUnder x0 x1 w = some z → OkM mX6_isUnder 1 0 0 [vI x0, vI x1] w (rtI z.1) z.2 :=
  OkM.of (rt := rtI) moX6_isUnder (Nat.le_of_ble_eq_true rfl) (fun X => wpf6_isUnder X w x0 x1 w)
def tbX6_taken : List (Nat × Instr × Nat) := [(0, .iload_n 2, 1), (1, .iconst 0, 1), (2, .bipush 6, 2), (4, .invokestatic 75, 3), (7, .ifCond .ne 6, 3), (10, .bipush (-2), 2), (12, .ireturn, 1), (13, .iload_n 1, 1), (14, .iconst 0, 1), (15, .bipush 11, 2), (17, .invokestatic 75, 3), (20, .ifCond .ne 6, 3), (23, .bipush (-12), 2), (25, .ireturn, 1), (26, .iload_n 1, 1), (27, .bipush 6, 2), (29, .irem, 1), (30, .aload_n 0, 1), (31, .getfield 72, 3), (34, .if_icmp .lt 6, 3), (37, .bipush (-11), 2), (39, .ireturn, 1), (40, .iload_n 1, 1), (41, .bipush 6, 2), (43, .if_icmp .lt 28, 3), (46, .iload_n 2, 1), (47, .bipush 6, 2), (49, .if_icmp .ne 19, 3), (52, .aload_n 0, 1), (53, .getfield 16, 3), (56, .iconst 3, 1), (57, .iload_n 1, 1), (58, .bipush 6, 2), (60, .isub, 1), (61, .imul, 1), (62, .iconst 1, 1), (63, .iadd, 1), (64, .iaload, 1), (65, .goto 5, 3), (68, .bipush (-13), 2), (70, .ireturn, 1), (71, .iload_n 2, 1), (72, .bipush 6, 2), (74, .if_icmp .ge 20, 3), (77, .aload_n 0, 1), (78, .getfield 7, 3), (81, .iload_n 1, 1), (82, .iaload, 1), (83, .iload_n 2, 1), (84, .invokestatic 259, 3), (87, .ifCond .eq 7, 3), (90, .iload_n 1, 1), (91, .goto 5, 3), (94, .bipush (-13), 2), (96, .ireturn, 1)]
set_option maxRecDepth 20000 in
theorem dtX6_taken : ∀ x ∈ tbX6_taken, decode cX6_taken x.1 = .ok x.2 := by decide +kernel
noncomputable def f6_taken (x0 : Nat) (x1 : Int32) (x2 : Int32) (w : Wd) : Option (Int32 × Wd) :=
  (f6_in x2 (0 : Int32) (6 : Int32) w).bind fun z1 => (if z1.1 = (0 : Int32) then (some ((-2 : Int32), z1.2)) else ((f6_in x1 (0 : Int32) (11 : Int32) z1.2).bind fun z5 => (if z5.1 = (0 : Int32) then (some ((-12 : Int32), z5.2)) else (ck (tg z5.2 x0 = 6) (if (x1 - x1 / (6 : Int32) * (6 : Int32)) < (wi z5.2 x0 0) then (if x1 < (6 : Int32) then (if (6 : Int32) ≤ x2 then (some ((-13 : Int32), z5.2)) else (ck (tg z5.2 (wr z5.2 x0 1) = 20 ∧ vp_in x1 (ln z5.2 (wr z5.2 x0 1))) ((f6_isUnder (wi z5.2 (wr z5.2 x0 1) (x1).toNatClampNeg) x2 z5.2).bind fun z14 => (if z14.1 = (0 : Int32) then (some ((-13 : Int32), z14.2)) else (some (x1, z14.2)))))) else (if x2 = (6 : Int32) then (ck (tg z5.2 (wr z5.2 x0 3) = 20 ∧ vp_in (((3 : Int32) * (x1 - (6 : Int32))) + (1 : Int32)) (ln z5.2 (wr z5.2 x0 3))) (some ((wi z5.2 (wr z5.2 x0 3) ((((3 : Int32) * (x1 - (6 : Int32))) + (1 : Int32))).toNatClampNeg), z5.2))) else (some ((-13 : Int32), z5.2)))) else (some ((-11 : Int32), z5.2)))))))
theorem wpf6_taken (X : CX) (w0 : Wd) (x0 : Nat) (x1 : Int32) (x2 : Int32) (w : Wd) : WPe rtI X (mX6_taken, 2, 0, 0, w0) 0 0 (f6_taken x0 x1 x2 w) 0 [(0, vR x0), (1, vI x1), (2, vI x2)] [] w := by
  unfold f6_taken
  refine WPe_iload_n (pc := 0) 2 (dd dtX6_taken 0 rfl) rfl ?_
  refine WPe_iconst (pc := 1) (0 : Int32) (dd dtX6_taken 1 rfl) (by decide) ?_
  refine WPe_bipush (pc := 2) (6 : Int32) (dd dtX6_taken 2 rfl) (by decide) ?_
  refine WPe_callS (pc := 4) (rtc := rtI) (Mc := mX6_in) (d' := 1) (mc' := 0) (ms' := 0) [vI x2, vI (0 : Int32), vI (6 : Int32)] [] rfl (dd dtX6_taken 3 rfl) (okf6_in x2 (0 : Int32) (6 : Int32) w) moX6_in msX6_in (bw_mem4 14 rfl rfl) rfl (Nat.le_of_ble_eq_true rfl) ⟨(Nat.le_of_ble_eq_true rfl), (Nat.le_of_ble_eq_true rfl)⟩ ⟨(Nat.le_of_ble_eq_true rfl), (Nat.le_of_ble_eq_true rfl)⟩ (fun z1 h2 e3 => ?_)
  refine WPe_st (st2 := [vI z1.1]) rfl ?_
  refine WPe_if_ne (pc := 7) 13 (dd dtX6_taken 4 rfl) (by decide) (fun h4 => ?_) (fun h4 => ?_)
  · refine WPe_bipush (pc := 10) (-2 : Int32) (dd dtX6_taken 5 rfl) (by decide) ?_
    exact WPe_ireturn (pc := 12) (dd dtX6_taken 6 rfl) rfl rfl ⟨(Nat.le_of_ble_eq_true rfl), (Nat.le_of_ble_eq_true rfl)⟩
  · refine WPe_iload_n (pc := 13) 1 (dd dtX6_taken 7 rfl) rfl ?_
    refine WPe_iconst (pc := 14) (0 : Int32) (dd dtX6_taken 8 rfl) (by decide) ?_
    refine WPe_bipush (pc := 15) (11 : Int32) (dd dtX6_taken 9 rfl) (by decide) ?_
    refine WPe_callS (pc := 17) (rtc := rtI) (Mc := mX6_in) (d' := 1) (mc' := 0) (ms' := 0) [vI x1, vI (0 : Int32), vI (11 : Int32)] [] rfl (dd dtX6_taken 10 rfl) (okf6_in x1 (0 : Int32) (11 : Int32) z1.2) moX6_in msX6_in (bw_mem4 14 rfl rfl) rfl (Nat.le_of_ble_eq_true rfl) ⟨(Nat.le_of_ble_eq_true rfl), (Nat.le_of_ble_eq_true rfl)⟩ ⟨(Nat.le_of_ble_eq_true rfl), (Nat.le_of_ble_eq_true rfl)⟩ (fun z5 h6 e7 => ?_)
    refine WPe_st (st2 := [vI z5.1]) rfl ?_
    refine WPe_if_ne (pc := 20) 26 (dd dtX6_taken 11 rfl) (by decide) (fun h8 => ?_) (fun h8 => ?_)
    · refine WPe_bipush (pc := 23) (-12 : Int32) (dd dtX6_taken 12 rfl) (by decide) ?_
      exact WPe_ireturn (pc := 25) (dd dtX6_taken 13 rfl) rfl rfl ⟨(Nat.le_of_ble_eq_true rfl), (Nat.le_of_ble_eq_true rfl)⟩
    · refine WPe_iload_n (pc := 26) 1 (dd dtX6_taken 14 rfl) rfl ?_
      refine WPe_bipush (pc := 27) (6 : Int32) (dd dtX6_taken 15 rfl) (by decide) ?_
      refine WPe_irem (pc := 29) (dd dtX6_taken 16 rfl) (by decide) ?_
      refine WPe_aload_n (pc := 30) 0 (dd dtX6_taken 17 rfl) rfl ?_
      refine WPe_ck fun h9 => ?_
      refine WPe_getI (pc := 31) (t := 6) (C := RX6) (T := TX6) 0 (dd dtX6_taken 18 rfl) (shE h9) rfl (Nat.le_of_ble_eq_true rfl) rfl (bw_mem4 53 rfl rfl) ?_
      refine WPe_icmp_lt (pc := 34) 40 (dd dtX6_taken 19 rfl) (by decide) (fun h10 => ?_) (fun h10 => ?_)
      · refine WPe_iload_n (pc := 40) 1 (dd dtX6_taken 22 rfl) rfl ?_
        refine WPe_bipush (pc := 41) (6 : Int32) (dd dtX6_taken 23 rfl) (by decide) ?_
        refine WPe_icmp_lt (pc := 43) 71 (dd dtX6_taken 24 rfl) (by decide) (fun h11 => ?_) (fun h11 => ?_)
        · refine WPe_iload_n (pc := 71) 2 (dd dtX6_taken 41 rfl) rfl ?_
          refine WPe_bipush (pc := 72) (6 : Int32) (dd dtX6_taken 42 rfl) (by decide) ?_
          refine WPe_icmp_ge (pc := 74) 94 (dd dtX6_taken 43 rfl) (by decide) (fun h12 => ?_) (fun h12 => ?_)
          · refine WPe_bipush (pc := 94) (-13 : Int32) (dd dtX6_taken 53 rfl) (by decide) ?_
            exact WPe_ireturn (pc := 96) (dd dtX6_taken 54 rfl) rfl rfl ⟨(Nat.le_of_ble_eq_true rfl), (Nat.le_of_ble_eq_true rfl)⟩
          · refine WPe_aload_n (pc := 77) 0 (dd dtX6_taken 44 rfl) rfl ?_
            refine WPe_getR (pc := 78) (t := 6) (C := RX6) (T := TX6) 1 (dd dtX6_taken 45 rfl) (shE h9) rfl (Nat.le_of_ble_eq_true rfl) rfl (bw_mem4 54 rfl rfl) ?_
            refine WPe_iload_n (pc := 81) 1 (dd dtX6_taken 46 rfl) rfl ?_
            refine WPe_ck fun h13 => ?_
            refine WPe_iald (pc := 82) (dd dtX6_taken 47 rfl) (shE h13.1) h13.2 ?_
            refine WPe_iload_n (pc := 83) 2 (dd dtX6_taken 48 rfl) rfl ?_
            refine WPe_callS (pc := 84) (rtc := rtI) (Mc := mX6_isUnder) (d' := 1) (mc' := 0) (ms' := 0) [vI (wi z5.2 (wr z5.2 x0 1) (x1).toNatClampNeg), vI x2] [] rfl (dd dtX6_taken 49 rfl) (okf6_isUnder (wi z5.2 (wr z5.2 x0 1) (x1).toNatClampNeg) x2 z5.2) moX6_isUnder msX6_isUnder (bw_mem5 189 rfl rfl) rfl (Nat.le_of_ble_eq_true rfl) ⟨(Nat.le_of_ble_eq_true rfl), (Nat.le_of_ble_eq_true rfl)⟩ ⟨(Nat.le_of_ble_eq_true rfl), (Nat.le_of_ble_eq_true rfl)⟩ (fun z14 h15 e16 => ?_)
            refine WPe_st (st2 := [vI z14.1]) rfl ?_
            refine WPe_if_eq (pc := 87) 94 (dd dtX6_taken 50 rfl) (by decide) (fun h17 => ?_) (fun h17 => ?_)
            · refine WPe_bipush (pc := 94) (-13 : Int32) (dd dtX6_taken 53 rfl) (by decide) ?_
              exact WPe_ireturn (pc := 96) (dd dtX6_taken 54 rfl) rfl rfl ⟨(Nat.le_of_ble_eq_true rfl), (Nat.le_of_ble_eq_true rfl)⟩
            · refine WPe_iload_n (pc := 90) 1 (dd dtX6_taken 51 rfl) rfl ?_
              refine WPe_goto (pc := 91) 96 (dd dtX6_taken 52 rfl) (by decide) ?_
              exact WPe_ireturn (pc := 96) (dd dtX6_taken 54 rfl) rfl rfl ⟨(Nat.le_of_ble_eq_true rfl), (Nat.le_of_ble_eq_true rfl)⟩
        · refine WPe_iload_n (pc := 46) 2 (dd dtX6_taken 25 rfl) rfl ?_
          refine WPe_bipush (pc := 47) (6 : Int32) (dd dtX6_taken 26 rfl) (by decide) ?_
          refine WPe_icmp_ne (pc := 49) 68 (dd dtX6_taken 27 rfl) (by decide) (fun h18 => ?_) (fun h18 => ?_)
          · refine WPe_aload_n (pc := 52) 0 (dd dtX6_taken 28 rfl) rfl ?_
            refine WPe_getR (pc := 53) (t := 6) (C := RX6) (T := TX6) 3 (dd dtX6_taken 29 rfl) (shE h9) rfl (Nat.le_of_ble_eq_true rfl) rfl (bw_mem4 56 rfl rfl) ?_
            refine WPe_iconst (pc := 56) (3 : Int32) (dd dtX6_taken 30 rfl) (by decide) ?_
            refine WPe_iload_n (pc := 57) 1 (dd dtX6_taken 31 rfl) rfl ?_
            refine WPe_bipush (pc := 58) (6 : Int32) (dd dtX6_taken 32 rfl) (by decide) ?_
            refine WPe_isub (pc := 60) (dd dtX6_taken 33 rfl) ?_
            refine WPe_imul (pc := 61) (dd dtX6_taken 34 rfl) ?_
            refine WPe_iconst (pc := 62) (1 : Int32) (dd dtX6_taken 35 rfl) (by decide) ?_
            refine WPe_iadd (pc := 63) (dd dtX6_taken 36 rfl) ?_
            refine WPe_ck fun h19 => ?_
            refine WPe_iald (pc := 64) (dd dtX6_taken 37 rfl) (shE h19.1) h19.2 ?_
            refine WPe_goto (pc := 65) 70 (dd dtX6_taken 38 rfl) (by decide) ?_
            exact WPe_ireturn (pc := 70) (dd dtX6_taken 40 rfl) rfl rfl ⟨(Nat.le_of_ble_eq_true rfl), (Nat.le_of_ble_eq_true rfl)⟩
          · refine WPe_bipush (pc := 68) (-13 : Int32) (dd dtX6_taken 39 rfl) (by decide) ?_
            exact WPe_ireturn (pc := 70) (dd dtX6_taken 40 rfl) rfl rfl ⟨(Nat.le_of_ble_eq_true rfl), (Nat.le_of_ble_eq_true rfl)⟩
      · refine WPe_bipush (pc := 37) (-11 : Int32) (dd dtX6_taken 20 rfl) (by decide) ?_
        exact WPe_ireturn (pc := 39) (dd dtX6_taken 21 rfl) rfl rfl ⟨(Nat.le_of_ble_eq_true rfl), (Nat.le_of_ble_eq_true rfl)⟩
theorem okf6_taken (x0 : Nat) (x1 : Int32) (x2 : Int32) (w : Wd) : ∀ z, f6_taken x0 x1 x2 w = some z → OkM mX6_taken 2 0 0 [vR x0, vI x1, vI x2] w (rtI z.1) z.2 :=
  OkM.of (rt := rtI) moX6_taken (Nat.le_of_ble_eq_true rfl) (fun X => wpf6_taken X w x0 x1 x2 w)
