def tbX6_in : List (Nat × Instr × Nat) := [(0, .iload_n 0, 1), (1, .iload_n 1, 1), (2, .if_icmp .lt 12, 3), (5, .iload_n 0, 1), (6, .iload_n 2, 1), (7, .if_icmp .gt 7, 3), (10, .iconst 1, 1), (11, .goto 4, 3), (14, .iconst 0, 1), (15, .ireturn, 1)]
set_option maxRecDepth 20000 in
theorem dtX6_in : ∀ x ∈ tbX6_in, decode cX6_in x.1 = .ok x.2 := by decide +kernel
noncomputable def f6_in (x0 : Int32) (x1 : Int32) (x2 : Int32) (w : Wd) : Option (Int32 × Wd) :=
  if x0 < x1 then (some ((0 : Int32), w)) else (if x2 < x0 then (some ((0 : Int32), w)) else (some ((1 : Int32), w)))
theorem wpf6_in (X : CX) (w0 : Wd) (x0 : Int32) (x1 : Int32) (x2 : Int32) (w : Wd) : WPe rtI X (mX6_in, 1, 0, 0, w0) 0 0 (f6_in x0 x1 x2 w) 0 [(0, vI x0), (1, vI x1), (2, vI x2)] [] w := by
  unfold f6_in
  refine WPe_iload_n (pc := 0) 0 (dd dtX6_in 0 rfl) rfl ?_
  refine WPe_iload_n (pc := 1) 1 (dd dtX6_in 1 rfl) rfl ?_
  refine WPe_icmp_lt (pc := 2) 14 (dd dtX6_in 2 rfl) (by decide) (fun h1 => ?_) (fun h1 => ?_)
  · refine WPe_iconst (pc := 14) (0 : Int32) (dd dtX6_in 8 rfl) (by decide) ?_
    exact WPe_zreturn (pc := 15) (ty := .boolean) (dd dtX6_in 9 rfl) rfl rfl rfl ⟨(Nat.le_of_ble_eq_true rfl), (Nat.le_of_ble_eq_true rfl)⟩
  · refine WPe_iload_n (pc := 5) 0 (dd dtX6_in 3 rfl) rfl ?_
    refine WPe_iload_n (pc := 6) 2 (dd dtX6_in 4 rfl) rfl ?_
    refine WPe_icmp_gt (pc := 7) 14 (dd dtX6_in 5 rfl) (by decide) (fun h2 => ?_) (fun h2 => ?_)
    · refine WPe_iconst (pc := 14) (0 : Int32) (dd dtX6_in 8 rfl) (by decide) ?_
      exact WPe_zreturn (pc := 15) (ty := .boolean) (dd dtX6_in 9 rfl) rfl rfl rfl ⟨(Nat.le_of_ble_eq_true rfl), (Nat.le_of_ble_eq_true rfl)⟩
    · refine WPe_iconst (pc := 10) (1 : Int32) (dd dtX6_in 6 rfl) (by decide) ?_
      refine WPe_goto (pc := 11) 15 (dd dtX6_in 7 rfl) (by decide) ?_
      exact WPe_zreturn (pc := 15) (ty := .boolean) (dd dtX6_in 9 rfl) rfl rfl rfl ⟨(Nat.le_of_ble_eq_true rfl), (Nat.le_of_ble_eq_true rfl)⟩
theorem okf6_in (x0 : Int32) (x1 : Int32) (x2 : Int32) (w : Wd) : ∀ z, f6_in x0 x1 x2 w = some z → OkM mX6_in 1 0 0 [vI x0, vI x1, vI x2] w (rtI z.1) z.2 :=
  OkM.of (rt := rtI) moX6_in (Nat.le_of_ble_eq_true rfl) (fun X => wpf6_in X w x0 x1 x2 w)
def tbX6_wordFrom : List (Nat × Instr × Nat) := [(0, .iconst 0, 1), (1, .istore_n 3, 1), (2, .iload_n 3, 1), (3, .bipush 12, 2), (5, .if_icmp .ge 96, 3), (8, .iload_n 2, 1), (9, .iload_n 1, 1), (10, .isub, 1), (11, .bipush 8, 2), (13, .if_icmp .gt 7, 3), (16, .iconst 1, 1), (17, .goto 4, 3), (20, .iconst 0, 1), (21, .istore 4, 2), (23, .iconst 0, 1), (24, .istore 5, 2), (26, .iload 5, 2), (28, .bipush 8, 2), (30, .if_icmp .ge 58, 3), (33, .iload 4, 2), (35, .ifCond .eq 53, 3), (38, .aload_n 0, 1), (39, .getfield 49, 3), (42, .bipush 8, 2), (44, .iload_n 3, 1), (45, .imul, 1), (46, .iload 5, 2), (48, .iadd, 1), (49, .iaload, 1), (50, .iload_n 1, 1), (51, .iload 5, 2), (53, .iadd, 1), (54, .iload_n 2, 1), (55, .if_icmp .ge 15, 3), (58, .aload_n 0, 1), (59, .getfield 22, 3), (62, .iload_n 1, 1), (63, .iload 5, 2), (65, .iadd, 1), (66, .iaload, 1), (67, .goto 5, 3), (70, .bipush 32, 2), (72, .if_icmp .ne 7, 3), (75, .iconst 1, 1), (76, .goto 4, 3), (79, .iconst 0, 1), (80, .istore 4, 2), (82, .iinc 5 1, 3), (85, .goto (-59), 3), (88, .iload 4, 2), (90, .ifCond .eq 5, 3), (93, .iload_n 3, 1), (94, .ireturn, 1), (95, .iinc 3 1, 3), (98, .goto (-96), 3), (101, .bipush 12, 2), (103, .ireturn, 1)]
set_option maxRecDepth 20000 in
theorem dtX6_wordFrom : ∀ x ∈ tbX6_wordFrom, decode cX6_wordFrom x.1 = .ok x.2 := by decide +kernel
noncomputable def j6_wordFrom_88 (k2 : Nat × Int32 × Int32 × Int32 → Wd → Option (Int32 × Wd)) (x0 : Nat) (x1 : Int32) (x2 : Int32) (x3 : Int32) (x4 : Int32) (w : Wd) : Option (Int32 × Wd) :=
  if x4 = (0 : Int32) then (k2 (x0, x1, x2, (x3 + (1 : Int32))) w) else (some (x3, w))
theorem wpj6_wordFrom_88 (X : CX) (w0 : Wd) (k2 : Nat × Int32 × Int32 × Int32 → Wd → Option (Int32 × Wd)) (hk2 : ∀ (v : Nat × Int32 × Int32 × Int32) (w : Wd), WPe rtI X (mX6_wordFrom, 1, 0, 0, w0) 0 0 (k2 v w) 2 [(0, vR v.1), (1, vI v.2.1), (2, vI v.2.2.1), (3, vI v.2.2.2)] [] w) (x0 : Nat) (x1 : Int32) (x2 : Int32) (x3 : Int32) (x4 : Int32) (w : Wd) : WPe rtI X (mX6_wordFrom, 1, 0, 0, w0) 0 0 (j6_wordFrom_88 k2 x0 x1 x2 x3 x4 w) 88 [(0, vR x0), (1, vI x1), (2, vI x2), (3, vI x3), (4, vI x4)] [] w := by
  unfold j6_wordFrom_88
  refine WPe_iload (pc := 88) 4 (dd dtX6_wordFrom 49 rfl) rfl ?_
  refine WPe_if_eq (pc := 90) 95 (dd dtX6_wordFrom 50 rfl) (by decide) (fun h4 => ?_) (fun h4 => ?_)
  · refine WPe_iinc (pc := 95) (ls' := [(3, vI (x3 + (1 : Int32))), (0, vR x0), (1, vI x1), (2, vI x2), (4, vI x4)]) 3 (x3 + (1 : Int32)) (dd dtX6_wordFrom 53 rfl) rfl (congrArg (HAdd.hAdd _) (by decide : Int32.ofInt (1) = (1 : Int32))) (Nat.le_of_ble_eq_true rfl) rfl ?_
    refine WPe_goto (pc := 98) 2 (dd dtX6_wordFrom 54 rfl) (by decide) ?_
    refine WPe_sub [1, 2, 3, 0] rfl ?_
    exact hk2 (x0, x1, x2, (x3 + (1 : Int32))) w
  · refine WPe_iload_n (pc := 93) 3 (dd dtX6_wordFrom 51 rfl) rfl ?_
    exact WPe_ireturn (pc := 94) (dd dtX6_wordFrom 52 rfl) rfl rfl ⟨(Nat.le_of_ble_eq_true rfl), (Nat.le_of_ble_eq_true rfl)⟩
noncomputable def j6_wordFrom_80 (k2 : Nat × Int32 × Int32 × Int32 → Wd → Option (Int32 × Wd)) (k26 : Nat × Int32 × Int32 × Int32 × Int32 × Int32 → Wd → Option (Int32 × Wd)) (x0 : Nat) (x1 : Int32) (x2 : Int32) (x3 : Int32) (x5 : Int32) (s0 : Int32) (w : Wd) : Option (Int32 × Wd) :=
  k26 (x0, x1, x2, x3, s0, (x5 + (1 : Int32))) w
theorem wpj6_wordFrom_80 (X : CX) (w0 : Wd) (k2 : Nat × Int32 × Int32 × Int32 → Wd → Option (Int32 × Wd)) (hk2 : ∀ (v : Nat × Int32 × Int32 × Int32) (w : Wd), WPe rtI X (mX6_wordFrom, 1, 0, 0, w0) 0 0 (k2 v w) 2 [(0, vR v.1), (1, vI v.2.1), (2, vI v.2.2.1), (3, vI v.2.2.2)] [] w) (k26 : Nat × Int32 × Int32 × Int32 × Int32 × Int32 → Wd → Option (Int32 × Wd)) (hk26 : ∀ (v : Nat × Int32 × Int32 × Int32 × Int32 × Int32) (w : Wd), WPe rtI X (mX6_wordFrom, 1, 0, 0, w0) 0 0 (k26 v w) 26 [(0, vR v.1), (1, vI v.2.1), (2, vI v.2.2.1), (3, vI v.2.2.2.1), (4, vI v.2.2.2.2.1), (5, vI v.2.2.2.2.2)] [] w) (x0 : Nat) (x1 : Int32) (x2 : Int32) (x3 : Int32) (x5 : Int32) (s0 : Int32) (w : Wd) : WPe rtI X (mX6_wordFrom, 1, 0, 0, w0) 0 0 (j6_wordFrom_80 k2 k26 x0 x1 x2 x3 x5 s0 w) 80 [(0, vR x0), (1, vI x1), (2, vI x2), (3, vI x3), (5, vI x5)] [vI s0] w := by
  unfold j6_wordFrom_80
  refine WPe_istore (pc := 80) (ls' := [(4, vI s0), (0, vR x0), (1, vI x1), (2, vI x2), (3, vI x3), (5, vI x5)]) (dd dtX6_wordFrom 46 rfl) (Nat.le_of_ble_eq_true rfl) rfl ?_
  refine WPe_iinc (pc := 82) (ls' := [(5, vI (x5 + (1 : Int32))), (4, vI s0), (0, vR x0), (1, vI x1), (2, vI x2), (3, vI x3)]) 5 (x5 + (1 : Int32)) (dd dtX6_wordFrom 47 rfl) rfl (congrArg (HAdd.hAdd _) (by decide : Int32.ofInt (1) = (1 : Int32))) (Nat.le_of_ble_eq_true rfl) rfl ?_
  refine WPe_goto (pc := 85) 26 (dd dtX6_wordFrom 48 rfl) (by decide) ?_
  refine WPe_sub [2, 3, 4, 5, 1, 0] rfl ?_
  exact hk26 (x0, x1, x2, x3, s0, (x5 + (1 : Int32))) w
noncomputable def j6_wordFrom_72 (k2 : Nat × Int32 × Int32 × Int32 → Wd → Option (Int32 × Wd)) (k26 : Nat × Int32 × Int32 × Int32 × Int32 × Int32 → Wd → Option (Int32 × Wd)) (x0 : Nat) (x1 : Int32) (x2 : Int32) (x3 : Int32) (x5 : Int32) (s0 : Int32) (s1 : Int32) (w : Wd) : Option (Int32 × Wd) :=
  if s1 = s0 then (j6_wordFrom_80 k2 k26 x0 x1 x2 x3 x5 (1 : Int32) w) else (j6_wordFrom_80 k2 k26 x0 x1 x2 x3 x5 (0 : Int32) w)
theorem wpj6_wordFrom_72 (X : CX) (w0 : Wd) (k2 : Nat × Int32 × Int32 × Int32 → Wd → Option (Int32 × Wd)) (hk2 : ∀ (v : Nat × Int32 × Int32 × Int32) (w : Wd), WPe rtI X (mX6_wordFrom, 1, 0, 0, w0) 0 0 (k2 v w) 2 [(0, vR v.1), (1, vI v.2.1), (2, vI v.2.2.1), (3, vI v.2.2.2)] [] w) (k26 : Nat × Int32 × Int32 × Int32 × Int32 × Int32 → Wd → Option (Int32 × Wd)) (hk26 : ∀ (v : Nat × Int32 × Int32 × Int32 × Int32 × Int32) (w : Wd), WPe rtI X (mX6_wordFrom, 1, 0, 0, w0) 0 0 (k26 v w) 26 [(0, vR v.1), (1, vI v.2.1), (2, vI v.2.2.1), (3, vI v.2.2.2.1), (4, vI v.2.2.2.2.1), (5, vI v.2.2.2.2.2)] [] w) (x0 : Nat) (x1 : Int32) (x2 : Int32) (x3 : Int32) (x5 : Int32) (s0 : Int32) (s1 : Int32) (w : Wd) : WPe rtI X (mX6_wordFrom, 1, 0, 0, w0) 0 0 (j6_wordFrom_72 k2 k26 x0 x1 x2 x3 x5 s0 s1 w) 72 [(0, vR x0), (1, vI x1), (2, vI x2), (3, vI x3), (5, vI x5)] [vI s0, vI s1] w := by
  unfold j6_wordFrom_72
  refine WPe_icmp_ne (pc := 72) 79 (dd dtX6_wordFrom 42 rfl) (by decide) (fun h9 => ?_) (fun h9 => ?_)
  · refine WPe_iconst (pc := 75) (1 : Int32) (dd dtX6_wordFrom 43 rfl) (by decide) ?_
    refine WPe_goto (pc := 76) 80 (dd dtX6_wordFrom 44 rfl) (by decide) ?_
    refine WPe_sub [0, 1, 2, 3, 4] rfl ?_
    exact wpj6_wordFrom_80 X w0 k2 hk2 k26 hk26 x0 x1 x2 x3 x5 (1 : Int32) w
  · refine WPe_iconst (pc := 79) (0 : Int32) (dd dtX6_wordFrom 45 rfl) (by decide) ?_
    refine WPe_sub [0, 1, 2, 3, 4] rfl ?_
    exact wpj6_wordFrom_80 X w0 k2 hk2 k26 hk26 x0 x1 x2 x3 x5 (0 : Int32) w
noncomputable def b6_wordFrom_26 (k2 : Nat × Int32 × Int32 × Int32 → Wd → Option (Int32 × Wd)) (k26 : Nat × Int32 × Int32 × Int32 × Int32 × Int32 → Wd → Option (Int32 × Wd)) (v : Nat × Int32 × Int32 × Int32 × Int32 × Int32) (w : Wd) : Option (Int32 × Wd) :=
  if (8 : Int32) ≤ v.2.2.2.2.2 then (j6_wordFrom_88 k2 v.1 v.2.1 v.2.2.1 v.2.2.2.1 v.2.2.2.2.1 w) else (if v.2.2.2.2.1 = (0 : Int32) then (j6_wordFrom_88 k2 v.1 v.2.1 v.2.2.1 v.2.2.2.1 v.2.2.2.2.1 w) else (ck (tg w v.1 = 6) (ck (tg w (wr w v.1 22) = 20 ∧ vp_in (((8 : Int32) * v.2.2.2.1) + v.2.2.2.2.2) (ln w (wr w v.1 22))) (if v.2.2.1 ≤ (v.2.1 + v.2.2.2.2.2) then (j6_wordFrom_72 k2 k26 v.1 v.2.1 v.2.2.1 v.2.2.2.1 v.2.2.2.2.2 (32 : Int32) (wi w (wr w v.1 22) ((((8 : Int32) * v.2.2.2.1) + v.2.2.2.2.2)).toNatClampNeg) w) else (ck (tg w (wr w v.1 5) = 20 ∧ vp_in (v.2.1 + v.2.2.2.2.2) (ln w (wr w v.1 5))) (j6_wordFrom_72 k2 k26 v.1 v.2.1 v.2.2.1 v.2.2.2.1 v.2.2.2.2.2 (wi w (wr w v.1 5) ((v.2.1 + v.2.2.2.2.2)).toNatClampNeg) (wi w (wr w v.1 22) ((((8 : Int32) * v.2.2.2.1) + v.2.2.2.2.2)).toNatClampNeg) w))))))
theorem wpb6_wordFrom_26 (X : CX) (w0 : Wd) (k2 : Nat × Int32 × Int32 × Int32 → Wd → Option (Int32 × Wd)) (hk2 : ∀ (v : Nat × Int32 × Int32 × Int32) (w : Wd), WPe rtI X (mX6_wordFrom, 1, 0, 0, w0) 0 0 (k2 v w) 2 [(0, vR v.1), (1, vI v.2.1), (2, vI v.2.2.1), (3, vI v.2.2.2)] [] w) (k26 : Nat × Int32 × Int32 × Int32 × Int32 × Int32 → Wd → Option (Int32 × Wd)) (hk26 : ∀ (v : Nat × Int32 × Int32 × Int32 × Int32 × Int32) (w : Wd), WPe rtI X (mX6_wordFrom, 1, 0, 0, w0) 0 0 (k26 v w) 26 [(0, vR v.1), (1, vI v.2.1), (2, vI v.2.2.1), (3, vI v.2.2.2.1), (4, vI v.2.2.2.2.1), (5, vI v.2.2.2.2.2)] [] w) (v : Nat × Int32 × Int32 × Int32 × Int32 × Int32) (w : Wd) : WPe rtI X (mX6_wordFrom, 1, 0, 0, w0) 0 0 (b6_wordFrom_26 k2 k26 v w) 26 [(0, vR v.1), (1, vI v.2.1), (2, vI v.2.2.1), (3, vI v.2.2.2.1), (4, vI v.2.2.2.2.1), (5, vI v.2.2.2.2.2)] [] w := by
  unfold b6_wordFrom_26
  refine WPe_iload (pc := 26) 5 (dd dtX6_wordFrom 16 rfl) rfl ?_
  refine WPe_bipush (pc := 28) (8 : Int32) (dd dtX6_wordFrom 17 rfl) (by decide) ?_
  refine WPe_icmp_ge (pc := 30) 88 (dd dtX6_wordFrom 18 rfl) (by decide) (fun h3 => ?_) (fun h3 => ?_)
  · refine WPe_sub [0, 1, 2, 3, 4] rfl ?_
    exact wpj6_wordFrom_88 X w0 k2 hk2 v.1 v.2.1 v.2.2.1 v.2.2.2.1 v.2.2.2.2.1 w
  · refine WPe_iload (pc := 33) 4 (dd dtX6_wordFrom 19 rfl) rfl ?_
    refine WPe_if_eq (pc := 35) 88 (dd dtX6_wordFrom 20 rfl) (by decide) (fun h5 => ?_) (fun h5 => ?_)
    · refine WPe_sub [0, 1, 2, 3, 4] rfl ?_
      exact wpj6_wordFrom_88 X w0 k2 hk2 v.1 v.2.1 v.2.2.1 v.2.2.2.1 v.2.2.2.2.1 w
    · refine WPe_aload_n (pc := 38) 0 (dd dtX6_wordFrom 21 rfl) rfl ?_
      refine WPe_ck fun h6 => ?_
      refine WPe_getR (pc := 39) (t := 6) (C := RX6) (T := TX6) 22 (dd dtX6_wordFrom 22 rfl) (shE h6) rfl (Nat.le_of_ble_eq_true rfl) rfl (bw_mem4 75 rfl rfl) ?_
      refine WPe_bipush (pc := 42) (8 : Int32) (dd dtX6_wordFrom 23 rfl) (by decide) ?_
      refine WPe_iload_n (pc := 44) 3 (dd dtX6_wordFrom 24 rfl) rfl ?_
      refine WPe_imul (pc := 45) (dd dtX6_wordFrom 25 rfl) ?_
      refine WPe_iload (pc := 46) 5 (dd dtX6_wordFrom 26 rfl) rfl ?_
      refine WPe_iadd (pc := 48) (dd dtX6_wordFrom 27 rfl) ?_
      refine WPe_ck fun h7 => ?_
      refine WPe_iald (pc := 49) (dd dtX6_wordFrom 28 rfl) (shE h7.1) h7.2 ?_
      refine WPe_iload_n (pc := 50) 1 (dd dtX6_wordFrom 29 rfl) rfl ?_
      refine WPe_iload (pc := 51) 5 (dd dtX6_wordFrom 30 rfl) rfl ?_
      refine WPe_iadd (pc := 53) (dd dtX6_wordFrom 31 rfl) ?_
      refine WPe_iload_n (pc := 54) 2 (dd dtX6_wordFrom 32 rfl) rfl ?_
      refine WPe_icmp_ge (pc := 55) 70 (dd dtX6_wordFrom 33 rfl) (by decide) (fun h8 => ?_) (fun h8 => ?_)
      · refine WPe_bipush (pc := 70) (32 : Int32) (dd dtX6_wordFrom 41 rfl) (by decide) ?_
        refine WPe_sub [0, 1, 2, 3, 5] rfl ?_
        exact wpj6_wordFrom_72 X w0 k2 hk2 k26 hk26 v.1 v.2.1 v.2.2.1 v.2.2.2.1 v.2.2.2.2.2 (32 : Int32) (wi w (wr w v.1 22) ((((8 : Int32) * v.2.2.2.1) + v.2.2.2.2.2)).toNatClampNeg) w
      · refine WPe_aload_n (pc := 58) 0 (dd dtX6_wordFrom 34 rfl) rfl ?_
        refine WPe_getR (pc := 59) (t := 6) (C := RX6) (T := TX6) 5 (dd dtX6_wordFrom 35 rfl) (shE h6) rfl (Nat.le_of_ble_eq_true rfl) rfl (bw_mem4 58 rfl rfl) ?_
        refine WPe_iload_n (pc := 62) 1 (dd dtX6_wordFrom 36 rfl) rfl ?_
        refine WPe_iload (pc := 63) 5 (dd dtX6_wordFrom 37 rfl) rfl ?_
        refine WPe_iadd (pc := 65) (dd dtX6_wordFrom 38 rfl) ?_
        refine WPe_ck fun h10 => ?_
        refine WPe_iald (pc := 66) (dd dtX6_wordFrom 39 rfl) (shE h10.1) h10.2 ?_
        refine WPe_goto (pc := 67) 72 (dd dtX6_wordFrom 40 rfl) (by decide) ?_
        refine WPe_sub [0, 1, 2, 3, 5] rfl ?_
        exact wpj6_wordFrom_72 X w0 k2 hk2 k26 hk26 v.1 v.2.1 v.2.2.1 v.2.2.2.1 v.2.2.2.2.2 (wi w (wr w v.1 5) ((v.2.1 + v.2.2.2.2.2)).toNatClampNeg) (wi w (wr w v.1 22) ((((8 : Int32) * v.2.2.2.1) + v.2.2.2.2.2)).toNatClampNeg) w
theorem wplb6_wordFrom_26 (X : CX) (w0 : Wd) (k2 : Nat × Int32 × Int32 × Int32 → Wd → Option (Int32 × Wd)) (hk2 : ∀ (v : Nat × Int32 × Int32 × Int32) (w : Wd), WPe rtI X (mX6_wordFrom, 1, 0, 0, w0) 0 0 (k2 v w) 2 [(0, vR v.1), (1, vI v.2.1), (2, vI v.2.2.1), (3, vI v.2.2.2)] [] w) : ∀ (n9 : Nat) (v : Nat × Int32 × Int32 × Int32 × Int32 × Int32) (w : Wd), WPe rtI X (mX6_wordFrom, 1, 0, 0, w0) 0 0 (loopF (b6_wordFrom_26 k2) n9 v w) 26 [(0, vR v.1), (1, vI v.2.1), (2, vI v.2.2.1), (3, vI v.2.2.2.1), (4, vI v.2.2.2.2.1), (5, vI v.2.2.2.2.2)] [] w :=
  WPe_loop (rt := rtI) (X := X) (M := (mX6_wordFrom, 1, 0, 0, w0)) (fun v : Nat × Int32 × Int32 × Int32 × Int32 × Int32 => [(0, vR v.1), (1, vI v.2.1), (2, vI v.2.2.1), (3, vI v.2.2.2.1), (4, vI v.2.2.2.2.1), (5, vI v.2.2.2.2.2)]) (fun k hk v w => wpb6_wordFrom_26 X w0 k2 hk2 k hk v w)
noncomputable def j6_wordFrom_21 (k2 : Nat × Int32 × Int32 × Int32 → Wd → Option (Int32 × Wd)) (x0 : Nat) (x1 : Int32) (x2 : Int32) (x3 : Int32) (s0 : Int32) (w : Wd) : Option (Int32 × Wd) :=
  loopF (b6_wordFrom_26 k2) FU (x0, x1, x2, x3, s0, (0 : Int32)) w
theorem wpj6_wordFrom_21 (X : CX) (w0 : Wd) (k2 : Nat × Int32 × Int32 × Int32 → Wd → Option (Int32 × Wd)) (hk2 : ∀ (v : Nat × Int32 × Int32 × Int32) (w : Wd), WPe rtI X (mX6_wordFrom, 1, 0, 0, w0) 0 0 (k2 v w) 2 [(0, vR v.1), (1, vI v.2.1), (2, vI v.2.2.1), (3, vI v.2.2.2)] [] w) (x0 : Nat) (x1 : Int32) (x2 : Int32) (x3 : Int32) (s0 : Int32) (w : Wd) : WPe rtI X (mX6_wordFrom, 1, 0, 0, w0) 0 0 (j6_wordFrom_21 k2 x0 x1 x2 x3 s0 w) 21 [(0, vR x0), (1, vI x1), (2, vI x2), (3, vI x3)] [vI s0] w := by
  unfold j6_wordFrom_21
  refine WPe_istore (pc := 21) (ls' := [(4, vI s0), (0, vR x0), (1, vI x1), (2, vI x2), (3, vI x3)]) (dd dtX6_wordFrom 13 rfl) (Nat.le_of_ble_eq_true rfl) rfl ?_
  refine WPe_iconst (pc := 23) (0 : Int32) (dd dtX6_wordFrom 14 rfl) (by decide) ?_
  refine WPe_istore (pc := 24) (ls' := [(5, vI (0 : Int32)), (4, vI s0), (0, vR x0), (1, vI x1), (2, vI x2), (3, vI x3)]) (dd dtX6_wordFrom 15 rfl) (Nat.le_of_ble_eq_true rfl) rfl ?_
  refine WPe_sub [2, 3, 4, 5, 1, 0] rfl ?_
  exact wplb6_wordFrom_26 X w0 k2 hk2 FU _ _
noncomputable def b6_wordFrom_2 (k2 : Nat × Int32 × Int32 × Int32 → Wd → Option (Int32 × Wd)) (v : Nat × Int32 × Int32 × Int32) (w : Wd) : Option (Int32 × Wd) :=
  if (12 : Int32) ≤ v.2.2.2 then (some ((12 : Int32), w)) else (if (8 : Int32) < (v.2.2.1 - v.2.1) then (j6_wordFrom_21 k2 v.1 v.2.1 v.2.2.1 v.2.2.2 (0 : Int32) w) else (j6_wordFrom_21 k2 v.1 v.2.1 v.2.2.1 v.2.2.2 (1 : Int32) w))
theorem wpb6_wordFrom_2 (X : CX) (w0 : Wd) (k2 : Nat × Int32 × Int32 × Int32 → Wd → Option (Int32 × Wd)) (hk2 : ∀ (v : Nat × Int32 × Int32 × Int32) (w : Wd), WPe rtI X (mX6_wordFrom, 1, 0, 0, w0) 0 0 (k2 v w) 2 [(0, vR v.1), (1, vI v.2.1), (2, vI v.2.2.1), (3, vI v.2.2.2)] [] w) (v : Nat × Int32 × Int32 × Int32) (w : Wd) : WPe rtI X (mX6_wordFrom, 1, 0, 0, w0) 0 0 (b6_wordFrom_2 k2 v w) 2 [(0, vR v.1), (1, vI v.2.1), (2, vI v.2.2.1), (3, vI v.2.2.2)] [] w := by
  unfold b6_wordFrom_2
  refine WPe_iload_n (pc := 2) 3 (dd dtX6_wordFrom 2 rfl) rfl ?_
  refine WPe_bipush (pc := 3) (12 : Int32) (dd dtX6_wordFrom 3 rfl) (by decide) ?_
  refine WPe_icmp_ge (pc := 5) 101 (dd dtX6_wordFrom 4 rfl) (by decide) (fun h1 => ?_) (fun h1 => ?_)
  · refine WPe_bipush (pc := 101) (12 : Int32) (dd dtX6_wordFrom 55 rfl) (by decide) ?_
    exact WPe_ireturn (pc := 103) (dd dtX6_wordFrom 56 rfl) rfl rfl ⟨(Nat.le_of_ble_eq_true rfl), (Nat.le_of_ble_eq_true rfl)⟩
  · refine WPe_iload_n (pc := 8) 2 (dd dtX6_wordFrom 5 rfl) rfl ?_
    refine WPe_iload_n (pc := 9) 1 (dd dtX6_wordFrom 6 rfl) rfl ?_
    refine WPe_isub (pc := 10) (dd dtX6_wordFrom 7 rfl) ?_
    refine WPe_bipush (pc := 11) (8 : Int32) (dd dtX6_wordFrom 8 rfl) (by decide) ?_
    refine WPe_icmp_gt (pc := 13) 20 (dd dtX6_wordFrom 9 rfl) (by decide) (fun h2 => ?_) (fun h2 => ?_)
    · refine WPe_iconst (pc := 20) (0 : Int32) (dd dtX6_wordFrom 12 rfl) (by decide) ?_
      refine WPe_sub [0, 1, 2, 3] rfl ?_
      exact wpj6_wordFrom_21 X w0 k2 hk2 v.1 v.2.1 v.2.2.1 v.2.2.2 (0 : Int32) w
    · refine WPe_iconst (pc := 16) (1 : Int32) (dd dtX6_wordFrom 10 rfl) (by decide) ?_
      refine WPe_goto (pc := 17) 21 (dd dtX6_wordFrom 11 rfl) (by decide) ?_
      refine WPe_sub [0, 1, 2, 3] rfl ?_
      exact wpj6_wordFrom_21 X w0 k2 hk2 v.1 v.2.1 v.2.2.1 v.2.2.2 (1 : Int32) w
theorem wplb6_wordFrom_2 (X : CX) (w0 : Wd)  : ∀ (n9 : Nat) (v : Nat × Int32 × Int32 × Int32) (w : Wd), WPe rtI X (mX6_wordFrom, 1, 0, 0, w0) 0 0 (loopF (b6_wordFrom_2 ) n9 v w) 2 [(0, vR v.1), (1, vI v.2.1), (2, vI v.2.2.1), (3, vI v.2.2.2)] [] w :=
  WPe_loop (rt := rtI) (X := X) (M := (mX6_wordFrom, 1, 0, 0, w0)) (fun v : Nat × Int32 × Int32 × Int32 => [(0, vR v.1), (1, vI v.2.1), (2, vI v.2.2.1), (3, vI v.2.2.2)]) (fun k hk v w => wpb6_wordFrom_2 X w0  k hk v w)
noncomputable def f6_wordFrom (x0 : Nat) (x1 : Int32) (x2 : Int32) (w : Wd) : Option (Int32 × Wd) :=
  loopF (b6_wordFrom_2) FU (x0, x1, x2, (0 : Int32)) w
theorem wpf6_wordFrom (X : CX) (w0 : Wd) (x0 : Nat) (x1 : Int32) (x2 : Int32) (w : Wd) : WPe rtI X (mX6_wordFrom, 1, 0, 0, w0) 0 0 (f6_wordFrom x0 x1 x2 w) 0 [(0, vR x0), (1, vI x1), (2, vI x2)] [] w := by
  unfold f6_wordFrom
  refine WPe_iconst (pc := 0) (0 : Int32) (dd dtX6_wordFrom 0 rfl) (by decide) ?_
  refine WPe_istore_n (pc := 1) (ls' := [(3, vI (0 : Int32)), (0, vR x0), (1, vI x1), (2, vI x2)]) (dd dtX6_wordFrom 1 rfl) (Nat.le_of_ble_eq_true rfl) rfl ?_
  refine WPe_sub [1, 2, 3, 0] rfl ?_
  exact wplb6_wordFrom_2 X w0  FU _ _
theorem okf6_wordFrom (x0 : Nat) (x1 : Int32) (x2 : Int32) (w : Wd) : ∀ z, f6_wordFrom x0 x1 x2 w = some z → OkM mX6_wordFrom 1 0 0 [vR x0, vI x1, vI x2] w (rtI z.1) z.2 :=
  OkM.of (rt := rtI) moX6_wordFrom (Nat.le_of_ble_eq_true rfl) (fun X => wpf6_wordFrom X w x0 x1 x2 w)
def tbX6_next_0 : List (Nat × Instr × Nat) := [(0, .aload_n 0, 1), (1, .getfield 98, 3), (4, .aload_n 0, 1), (5, .getfield 64, 3), (8, .if_icmp .ge 44, 3), (11, .aload_n 0, 1), (12, .getfield 22, 3), (15, .aload_n 0, 1), (16, .getfield 98, 3), (19, .iaload, 1), (20, .bipush 32, 2), (22, .if_icmp .eq 17, 3), (25, .aload_n 0, 1), (26, .getfield 22, 3), (29, .aload_n 0, 1), (30, .getfield 98, 3), (33, .iaload, 1), (34, .bipush 10, 2), (36, .if_icmp .ne 16, 3), (39, .aload_n 0, 1), (40, .dup, 1), (41, .getfield 98, 3), (44, .iconst 1, 1), (45, .iadd, 1), (46, .putfield 98, 3), (49, .goto (-49), 3), (52, .aload_n 0, 1), (53, .aload_n 0, 1), (54, .getfield 98, 3), (57, .putfield 101, 3), (60, .aload_n 0, 1), (61, .iconst 0, 1), (62, .putfield 104, 3), (65, .aload_n 0, 1), (66, .iconst 0, 1), (67, .putfield 107, 3), (70, .aload_n 0, 1), (71, .getfield 98, 3), (74, .aload_n 0, 1), (75, .getfield 64, 3), (78, .if_icmp .ne 4, 3), (81, .return_, 1), (82, .aload_n 0, 1), (83, .getfield 22, 3), (86, .aload_n 0, 1), (87, .getfield 98, 3), (90, .iaload, 1), (91, .istore_n 1, 1), (92, .iload_n 1, 1), (93, .bipush 97, 2)]
set_option maxRecDepth 20000 in
theorem dtX6_next_0 : ∀ x ∈ tbX6_next_0, decode cX6_next x.1 = .ok x.2 := by decide +kernel
def tbX6_next_1 : List (Nat × Instr × Nat) := [(95, .bipush 122, 2), (97, .invokestatic 75, 3), (100, .ifCond .eq 117, 3), (103, .aload_n 0, 1), (104, .getfield 98, 3), (107, .aload_n 0, 1), (108, .getfield 64, 3), (111, .if_icmp .ge 35, 3), (114, .aload_n 0, 1), (115, .getfield 22, 3), (118, .aload_n 0, 1), (119, .getfield 98, 3), (122, .iaload, 1), (123, .bipush 97, 2), (125, .bipush 122, 2), (127, .invokestatic 75, 3), (130, .ifCond .eq 16, 3), (133, .aload_n 0, 1), (134, .dup, 1), (135, .getfield 98, 3), (138, .iconst 1, 1), (139, .iadd, 1), (140, .putfield 98, 3), (143, .goto (-40), 3), (146, .aload_n 0, 1), (147, .aload_n 0, 1), (148, .getfield 101, 3), (151, .aload_n 0, 1), (152, .getfield 98, 3), (155, .invokevirtual 110, 3), (158, .istore_n 2, 1), (159, .aload_n 0, 1), (160, .iload_n 2, 1), (161, .iconst 3, 1), (162, .if_icmp .ge 7, 3), (165, .iconst 3, 1), (166, .goto 29, 3), (169, .iload_n 2, 1), (170, .bipush 9, 2), (172, .if_icmp .ge 7, 3), (175, .iconst 2, 1), (176, .goto 19, 3), (179, .iload_n 2, 1), (180, .bipush 12, 2), (182, .if_icmp .ne 7, 3), (185, .iconst (-1), 1), (186, .goto 9, 3), (189, .iconst 4, 1), (190, .iload_n 2, 1), (191, .iadd, 1)]
set_option maxRecDepth 20000 in
theorem dtX6_next_1 : ∀ x ∈ tbX6_next_1, decode cX6_next x.1 = .ok x.2 := by decide +kernel
def tbX6_next_2 : List (Nat × Instr × Nat) := [(192, .bipush 9, 2), (194, .isub, 1), (195, .putfield 104, 3), (198, .aload_n 0, 1), (199, .iload_n 2, 1), (200, .iconst 3, 1), (201, .if_icmp .ge 7, 3), (204, .iload_n 2, 1), (205, .goto 6, 3), (208, .iload_n 2, 1), (209, .iconst 3, 1), (210, .isub, 1), (211, .putfield 107, 3), (214, .goto 189, 3), (217, .iload_n 1, 1), (218, .bipush 48, 2), (220, .bipush 57, 2), (222, .invokestatic 75, 3), (225, .ifCond .eq 101, 3), (228, .iconst 0, 1), (229, .istore_n 2, 1), (230, .aload_n 0, 1), (231, .getfield 98, 3), (234, .aload_n 0, 1), (235, .getfield 64, 3), (238, .if_icmp .ge 71, 3), (241, .aload_n 0, 1), (242, .getfield 22, 3), (245, .aload_n 0, 1), (246, .getfield 98, 3), (249, .iaload, 1), (250, .bipush 48, 2), (252, .bipush 57, 2), (254, .invokestatic 75, 3), (257, .ifCond .eq 52, 3), (260, .aload_n 0, 1), (261, .iload_n 2, 1), (262, .iconst 4, 1), (263, .if_icmp .ge 26, 3), (266, .bipush 10, 2), (268, .aload_n 0, 1), (269, .getfield 107, 3), (272, .imul, 1), (273, .aload_n 0, 1), (274, .getfield 22, 3), (277, .aload_n 0, 1), (278, .getfield 98, 3), (281, .iaload, 1), (282, .iadd, 1), (283, .bipush 48, 2)]
set_option maxRecDepth 20000 in
theorem dtX6_next_2 : ∀ x ∈ tbX6_next_2, decode cX6_next x.1 = .ok x.2 := by decide +kernel
def tbX6_next_3 : List (Nat × Instr × Nat) := [(285, .isub, 1), (286, .goto 4, 3), (289, .iconst 0, 1), (290, .putfield 107, 3), (293, .iinc 2 1, 3), (296, .aload_n 0, 1), (297, .dup, 1), (298, .getfield 98, 3), (301, .iconst 1, 1), (302, .iadd, 1), (303, .putfield 98, 3), (306, .goto (-76), 3), (309, .aload_n 0, 1), (310, .iload_n 2, 1), (311, .iconst 4, 1), (312, .if_icmp .le 7, 3), (315, .iconst (-1), 1), (316, .goto 4, 3), (319, .iconst 1, 1), (320, .putfield 104, 3), (323, .goto 80, 3), (326, .iload_n 1, 1), (327, .bipush 40, 2), (329, .if_icmp .eq 45, 3), (332, .iload_n 1, 1), (333, .bipush 41, 2), (335, .if_icmp .eq 39, 3), (338, .iload_n 1, 1), (339, .bipush 59, 2), (341, .if_icmp .eq 33, 3), (344, .iload_n 1, 1), (345, .bipush 43, 2), (347, .if_icmp .eq 27, 3), (350, .iload_n 1, 1), (351, .bipush 45, 2), (353, .if_icmp .eq 21, 3), (356, .iload_n 1, 1), (357, .bipush 42, 2), (359, .if_icmp .eq 15, 3), (362, .iload_n 1, 1), (363, .bipush 60, 2), (365, .if_icmp .eq 9, 3), (368, .iload_n 1, 1), (369, .bipush 61, 2), (371, .if_icmp .ne 7, 3), (374, .iconst 1, 1), (375, .goto 4, 3), (378, .iconst 0, 1), (379, .istore_n 2, 1), (380, .aload_n 0, 1)]
set_option maxRecDepth 20000 in
theorem dtX6_next_3 : ∀ x ∈ tbX6_next_3, decode cX6_next x.1 = .ok x.2 := by decide +kernel
def tbX6_next_4 : List (Nat × Instr × Nat) := [(381, .iload_n 2, 1), (382, .ifCond .eq 7, 3), (385, .iload_n 1, 1), (386, .goto 4, 3), (389, .iconst (-1), 1), (390, .putfield 104, 3), (393, .aload_n 0, 1), (394, .dup, 1), (395, .getfield 98, 3), (398, .iconst 1, 1), (399, .iadd, 1), (400, .putfield 98, 3), (403, .return_, 1)]
set_option maxRecDepth 20000 in
theorem dtX6_next_4 : ∀ x ∈ tbX6_next_4, decode cX6_next x.1 = .ok x.2 := by decide +kernel
noncomputable def j6_next_390  (x0 : Nat) (s0 : Int32) (s1 : Nat) (w : Wd) : Option (Unit × Wd) :=
  ck (tg w s1 = 6) (lw (sI w s1 20 s0) fun w23 => (ck (tg w23 x0 = 6) (lw (sI w23 x0 18 ((wi w23 x0 18) + (1 : Int32))) fun w26 => (some ((), w26)))))
theorem wpj6_next_390 (X : CX) (w0 : Wd)  (x0 : Nat) (s0 : Int32) (s1 : Nat) (w : Wd) : WPe rtV X (mX6_next, 2, 0, 0, w0) 0 0 (j6_next_390  x0 s0 s1 w) 390 [(0, vR x0)] [vI s0, vR s1] w := by
  unfold j6_next_390
  refine WPe_ck fun h22 => ?_
  refine WPe_putI (pc := 390) (t := 6) (C := RX6) (T := TX6) 20 (dd dtX6_next_4 5 rfl) (shE h22) rfl (Nat.le_of_ble_eq_true rfl) (bw_mem4 73 rfl rfl) (Or.inl rfl) rfl rfl rfl ?_
  refine WPe_lw fun w23 e24 => ?_
  refine WPe_aload_n (pc := 393) 0 (dd dtX6_next_4 6 rfl) rfl ?_
  refine WPe_dup (pc := 394) (dd dtX6_next_4 7 rfl) rfl ?_
  refine WPe_ck fun h25 => ?_
  refine WPe_getI (pc := 395) (t := 6) (C := RX6) (T := TX6) 18 (dd dtX6_next_4 8 rfl) (shE h25) rfl (Nat.le_of_ble_eq_true rfl) rfl (bw_mem4 71 rfl rfl) ?_
  refine WPe_iconst (pc := 398) (1 : Int32) (dd dtX6_next_4 9 rfl) (by decide) ?_
  refine WPe_iadd (pc := 399) (dd dtX6_next_4 10 rfl) ?_
  refine WPe_putI (pc := 400) (t := 6) (C := RX6) (T := TX6) 18 (dd dtX6_next_4 11 rfl) (shE h25) rfl (Nat.le_of_ble_eq_true rfl) (bw_mem4 71 rfl rfl) (Or.inl rfl) rfl rfl rfl ?_
  refine WPe_lw fun w26 e27 => ?_
  exact WPe_return (pc := 403) (dd dtX6_next_4 12 rfl) rfl rfl ⟨(Nat.le_of_ble_eq_true rfl), (Nat.le_of_ble_eq_true rfl)⟩
noncomputable def j6_next_379  (x0 : Nat) (x1 : Int32) (s0 : Int32) (w : Wd) : Option (Unit × Wd) :=
  if s0 = (0 : Int32) then (j6_next_390 x0 (-1 : Int32) x0 w) else (j6_next_390 x0 x1 x0 w)
theorem wpj6_next_379 (X : CX) (w0 : Wd)  (x0 : Nat) (x1 : Int32) (s0 : Int32) (w : Wd) : WPe rtV X (mX6_next, 2, 0, 0, w0) 0 0 (j6_next_379  x0 x1 s0 w) 379 [(0, vR x0), (1, vI x1)] [vI s0] w := by
  unfold j6_next_379
  refine WPe_istore_n (pc := 379) (ls' := [(2, vI s0), (0, vR x0), (1, vI x1)]) (dd dtX6_next_3 48 rfl) (Nat.le_of_ble_eq_true rfl) rfl ?_
  refine WPe_aload_n (pc := 380) 1 (dd dtX6_next_3 49 rfl) rfl ?_
  refine WPe_iload_n (pc := 381) 0 (dd dtX6_next_4 0 rfl) rfl ?_
  refine WPe_if_eq (pc := 382) 389 (dd dtX6_next_4 1 rfl) (by decide) (fun h21 => ?_) (fun h21 => ?_)
  · refine WPe_iconst (pc := 389) (-1 : Int32) (dd dtX6_next_4 4 rfl) (by decide) ?_
    refine WPe_sub [1] rfl ?_
    exact wpj6_next_390 X w0  x0 (-1 : Int32) x0 w
  · refine WPe_iload_n (pc := 385) 2 (dd dtX6_next_4 2 rfl) rfl ?_
    refine WPe_goto (pc := 386) 390 (dd dtX6_next_4 3 rfl) (by decide) ?_
    refine WPe_sub [1] rfl ?_
    exact wpj6_next_390 X w0  x0 x1 x0 w
noncomputable def j6_next_374  (x0 : Nat) (x1 : Int32) (w : Wd) : Option (Unit × Wd) :=
  j6_next_379 x0 x1 (1 : Int32) w
theorem wpj6_next_374 (X : CX) (w0 : Wd)  (x0 : Nat) (x1 : Int32) (w : Wd) : WPe rtV X (mX6_next, 2, 0, 0, w0) 0 0 (j6_next_374  x0 x1 w) 374 [(0, vR x0), (1, vI x1)] [] w := by
  unfold j6_next_374
  refine WPe_iconst (pc := 374) (1 : Int32) (dd dtX6_next_3 45 rfl) (by decide) ?_
  refine WPe_goto (pc := 375) 379 (dd dtX6_next_3 46 rfl) (by decide) ?_
  refine WPe_sub [0, 1] rfl ?_
  exact wpj6_next_379 X w0  x0 x1 (1 : Int32) w
noncomputable def j6_next_309  (x0 : Nat) (x2 : Int32) (w : Wd) : Option (Unit × Wd) :=
  if x2 ≤ (4 : Int32) then (ck (tg w x0 = 6) (lw (sI w x0 20 (1 : Int32)) fun w39 => (some ((), w39)))) else (ck (tg w x0 = 6) (lw (sI w x0 20 (-1 : Int32)) fun w42 => (some ((), w42))))
theorem wpj6_next_309 (X : CX) (w0 : Wd)  (x0 : Nat) (x2 : Int32) (w : Wd) : WPe rtV X (mX6_next, 2, 0, 0, w0) 0 0 (j6_next_309  x0 x2 w) 309 [(0, vR x0), (2, vI x2)] [] w := by
  unfold j6_next_309
  refine WPe_aload_n (pc := 309) 0 (dd dtX6_next_3 12 rfl) rfl ?_
  refine WPe_iload_n (pc := 310) 1 (dd dtX6_next_3 13 rfl) rfl ?_
  refine WPe_iconst (pc := 311) (4 : Int32) (dd dtX6_next_3 14 rfl) (by decide) ?_
  refine WPe_icmp_le (pc := 312) 319 (dd dtX6_next_3 15 rfl) (by decide) (fun h37 => ?_) (fun h37 => ?_)
  · refine WPe_iconst (pc := 319) (1 : Int32) (dd dtX6_next_3 18 rfl) (by decide) ?_
    refine WPe_ck fun h38 => ?_
    refine WPe_putI (pc := 320) (t := 6) (C := RX6) (T := TX6) 20 (dd dtX6_next_3 19 rfl) (shE h38) rfl (Nat.le_of_ble_eq_true rfl) (bw_mem4 73 rfl rfl) (Or.inl rfl) rfl rfl rfl ?_
    refine WPe_lw fun w39 e40 => ?_
    refine WPe_goto (pc := 323) 403 (dd dtX6_next_3 20 rfl) (by decide) ?_
    exact WPe_return (pc := 403) (dd dtX6_next_4 12 rfl) rfl rfl ⟨(Nat.le_of_ble_eq_true rfl), (Nat.le_of_ble_eq_true rfl)⟩
  · refine WPe_iconst (pc := 315) (-1 : Int32) (dd dtX6_next_3 16 rfl) (by decide) ?_
    refine WPe_goto (pc := 316) 320 (dd dtX6_next_3 17 rfl) (by decide) ?_
    refine WPe_ck fun h41 => ?_
    refine WPe_putI (pc := 320) (t := 6) (C := RX6) (T := TX6) 20 (dd dtX6_next_3 19 rfl) (shE h41) rfl (Nat.le_of_ble_eq_true rfl) (bw_mem4 73 rfl rfl) (Or.inl rfl) rfl rfl rfl ?_
    refine WPe_lw fun w42 e43 => ?_
    refine WPe_goto (pc := 323) 403 (dd dtX6_next_3 20 rfl) (by decide) ?_
    exact WPe_return (pc := 403) (dd dtX6_next_4 12 rfl) rfl rfl ⟨(Nat.le_of_ble_eq_true rfl), (Nat.le_of_ble_eq_true rfl)⟩
noncomputable def j6_next_290 (k230 : Nat × Int32 → Wd → Option (Unit × Wd)) (x0 : Nat) (x2 : Int32) (s0 : Int32) (s1 : Nat) (w : Wd) : Option (Unit × Wd) :=
  ck (tg w s1 = 6) (lw (sI w s1 21 s0) fun w51 => (ck (tg w51 x0 = 6) (lw (sI w51 x0 18 ((wi w51 x0 18) + (1 : Int32))) fun w54 => (k230 (x0, (x2 + (1 : Int32))) w54))))
theorem wpj6_next_290 (X : CX) (w0 : Wd) (k230 : Nat × Int32 → Wd → Option (Unit × Wd)) (hk230 : ∀ (v : Nat × Int32) (w : Wd), WPe rtV X (mX6_next, 2, 0, 0, w0) 0 0 (k230 v w) 230 [(0, vR v.1), (2, vI v.2)] [] w) (x0 : Nat) (x2 : Int32) (s0 : Int32) (s1 : Nat) (w : Wd) : WPe rtV X (mX6_next, 2, 0, 0, w0) 0 0 (j6_next_290 k230 x0 x2 s0 s1 w) 290 [(0, vR x0), (2, vI x2)] [vI s0, vR s1] w := by
  unfold j6_next_290
  refine WPe_ck fun h50 => ?_
  refine WPe_putI (pc := 290) (t := 6) (C := RX6) (T := TX6) 21 (dd dtX6_next_3 3 rfl) (shE h50) rfl (Nat.le_of_ble_eq_true rfl) (bw_mem4 74 rfl rfl) (Or.inl rfl) rfl rfl rfl ?_
  refine WPe_lw fun w51 e52 => ?_
  refine WPe_iinc (pc := 293) (ls' := [(2, vI (x2 + (1 : Int32))), (0, vR x0)]) 1 (x2 + (1 : Int32)) (dd dtX6_next_3 4 rfl) rfl (congrArg (HAdd.hAdd _) (by decide : Int32.ofInt (1) = (1 : Int32))) (Nat.le_of_ble_eq_true rfl) rfl ?_
  refine WPe_aload_n (pc := 296) 1 (dd dtX6_next_3 5 rfl) rfl ?_
  refine WPe_dup (pc := 297) (dd dtX6_next_3 6 rfl) rfl ?_
  refine WPe_ck fun h53 => ?_
  refine WPe_getI (pc := 298) (t := 6) (C := RX6) (T := TX6) 18 (dd dtX6_next_3 7 rfl) (shE h53) rfl (Nat.le_of_ble_eq_true rfl) rfl (bw_mem4 71 rfl rfl) ?_
  refine WPe_iconst (pc := 301) (1 : Int32) (dd dtX6_next_3 8 rfl) (by decide) ?_
  refine WPe_iadd (pc := 302) (dd dtX6_next_3 9 rfl) ?_
  refine WPe_putI (pc := 303) (t := 6) (C := RX6) (T := TX6) 18 (dd dtX6_next_3 10 rfl) (shE h53) rfl (Nat.le_of_ble_eq_true rfl) (bw_mem4 71 rfl rfl) (Or.inl rfl) rfl rfl rfl ?_
  refine WPe_lw fun w54 e55 => ?_
  refine WPe_goto (pc := 306) 230 (dd dtX6_next_3 11 rfl) (by decide) ?_
  refine WPe_sub [1, 0] rfl ?_
  exact hk230 (x0, (x2 + (1 : Int32))) w54
noncomputable def b6_next_230 (k230 : Nat × Int32 → Wd → Option (Unit × Wd)) (v : Nat × Int32) (w : Wd) : Option (Unit × Wd) :=
  ck (tg w v.1 = 6) (if (wi w v.1 6) ≤ (wi w v.1 18) then (j6_next_309 v.1 v.2 w) else (ck (tg w (wr w v.1 5) = 20 ∧ vp_in (wi w v.1 18) (ln w (wr w v.1 5))) ((f6_in (wi w (wr w v.1 5) ((wi w v.1 18)).toNatClampNeg) (48 : Int32) (57 : Int32) w).bind fun z45 => (if z45.1 = (0 : Int32) then (j6_next_309 v.1 v.2 z45.2) else (if (4 : Int32) ≤ v.2 then (j6_next_290 k230 v.1 v.2 (0 : Int32) v.1 z45.2) else (ck (tg z45.2 (wr z45.2 v.1 5) = 20 ∧ vp_in (wi z45.2 v.1 18) (ln z45.2 (wr z45.2 v.1 5))) (j6_next_290 k230 v.1 v.2 ((((10 : Int32) * (wi z45.2 v.1 21)) + (wi z45.2 (wr z45.2 v.1 5) ((wi z45.2 v.1 18)).toNatClampNeg)) - (48 : Int32)) v.1 z45.2)))))))
theorem wpb6_next_230 (X : CX) (w0 : Wd) (k230 : Nat × Int32 → Wd → Option (Unit × Wd)) (hk230 : ∀ (v : Nat × Int32) (w : Wd), WPe rtV X (mX6_next, 2, 0, 0, w0) 0 0 (k230 v w) 230 [(0, vR v.1), (2, vI v.2)] [] w) (v : Nat × Int32) (w : Wd) : WPe rtV X (mX6_next, 2, 0, 0, w0) 0 0 (b6_next_230 k230 v w) 230 [(0, vR v.1), (2, vI v.2)] [] w := by
  unfold b6_next_230
  refine WPe_aload_n (pc := 230) 0 (dd dtX6_next_2 21 rfl) rfl ?_
  refine WPe_ck fun h35 => ?_
  refine WPe_getI (pc := 231) (t := 6) (C := RX6) (T := TX6) 18 (dd dtX6_next_2 22 rfl) (shE h35) rfl (Nat.le_of_ble_eq_true rfl) rfl (bw_mem4 71 rfl rfl) ?_
  refine WPe_aload_n (pc := 234) 0 (dd dtX6_next_2 23 rfl) rfl ?_
  refine WPe_getI (pc := 235) (t := 6) (C := RX6) (T := TX6) 6 (dd dtX6_next_2 24 rfl) (shE h35) rfl (Nat.le_of_ble_eq_true rfl) rfl (bw_mem4 59 rfl rfl) ?_
  refine WPe_icmp_ge (pc := 238) 309 (dd dtX6_next_2 25 rfl) (by decide) (fun h36 => ?_) (fun h36 => ?_)
  · refine WPe_sub [0, 1] rfl ?_
    exact wpj6_next_309 X w0  v.1 v.2 w
  · refine WPe_aload_n (pc := 241) 0 (dd dtX6_next_2 26 rfl) rfl ?_
    refine WPe_getR (pc := 242) (t := 6) (C := RX6) (T := TX6) 5 (dd dtX6_next_2 27 rfl) (shE h35) rfl (Nat.le_of_ble_eq_true rfl) rfl (bw_mem4 58 rfl rfl) ?_
    refine WPe_aload_n (pc := 245) 0 (dd dtX6_next_2 28 rfl) rfl ?_
    refine WPe_getI (pc := 246) (t := 6) (C := RX6) (T := TX6) 18 (dd dtX6_next_2 29 rfl) (shE h35) rfl (Nat.le_of_ble_eq_true rfl) rfl (bw_mem4 71 rfl rfl) ?_
    refine WPe_ck fun h44 => ?_
    refine WPe_iald (pc := 249) (dd dtX6_next_2 30 rfl) (shE h44.1) h44.2 ?_
    refine WPe_bipush (pc := 250) (48 : Int32) (dd dtX6_next_2 31 rfl) (by decide) ?_
    refine WPe_bipush (pc := 252) (57 : Int32) (dd dtX6_next_2 32 rfl) (by decide) ?_
    refine WPe_callS (pc := 254) (rtc := rtI) (Mc := mX6_in) (d' := 1) (mc' := 0) (ms' := 0) [vI (wi w (wr w v.1 5) ((wi w v.1 18)).toNatClampNeg), vI (48 : Int32), vI (57 : Int32)] [] rfl (dd dtX6_next_2 33 rfl) (okf6_in (wi w (wr w v.1 5) ((wi w v.1 18)).toNatClampNeg) (48 : Int32) (57 : Int32) w) moX6_in msX6_in (bw_mem4 14 rfl rfl) rfl (Nat.le_of_ble_eq_true rfl) ⟨(Nat.le_of_ble_eq_true rfl), (Nat.le_of_ble_eq_true rfl)⟩ ⟨(Nat.le_of_ble_eq_true rfl), (Nat.le_of_ble_eq_true rfl)⟩ (fun z45 h46 e47 => ?_)
    refine WPe_st (st2 := [vI z45.1]) rfl ?_
    refine WPe_if_eq (pc := 257) 309 (dd dtX6_next_2 34 rfl) (by decide) (fun h48 => ?_) (fun h48 => ?_)
    · refine WPe_sub [0, 1] rfl ?_
      exact wpj6_next_309 X w0  v.1 v.2 z45.2
    · refine WPe_aload_n (pc := 260) 0 (dd dtX6_next_2 35 rfl) rfl ?_
      refine WPe_iload_n (pc := 261) 1 (dd dtX6_next_2 36 rfl) rfl ?_
      refine WPe_iconst (pc := 262) (4 : Int32) (dd dtX6_next_2 37 rfl) (by decide) ?_
      refine WPe_icmp_ge (pc := 263) 289 (dd dtX6_next_2 38 rfl) (by decide) (fun h49 => ?_) (fun h49 => ?_)
      · refine WPe_iconst (pc := 289) (0 : Int32) (dd dtX6_next_3 2 rfl) (by decide) ?_
        refine WPe_sub [0, 1] rfl ?_
        exact wpj6_next_290 X w0 k230 hk230 v.1 v.2 (0 : Int32) v.1 z45.2
      · refine WPe_bipush (pc := 266) (10 : Int32) (dd dtX6_next_2 39 rfl) (by decide) ?_
        refine WPe_aload_n (pc := 268) 0 (dd dtX6_next_2 40 rfl) rfl ?_
        refine WPe_getI (pc := 269) (t := 6) (C := RX6) (T := TX6) 21 (dd dtX6_next_2 41 rfl) (e47.at (shE h35) (by decide)) rfl (Nat.le_of_ble_eq_true rfl) rfl (bw_mem4 74 rfl rfl) ?_
        refine WPe_imul (pc := 272) (dd dtX6_next_2 42 rfl) ?_
        refine WPe_aload_n (pc := 273) 0 (dd dtX6_next_2 43 rfl) rfl ?_
        refine WPe_getR (pc := 274) (t := 6) (C := RX6) (T := TX6) 5 (dd dtX6_next_2 44 rfl) (e47.at (shE h35) (by decide)) rfl (Nat.le_of_ble_eq_true rfl) rfl (bw_mem4 58 rfl rfl) ?_
        refine WPe_aload_n (pc := 277) 0 (dd dtX6_next_2 45 rfl) rfl ?_
        refine WPe_getI (pc := 278) (t := 6) (C := RX6) (T := TX6) 18 (dd dtX6_next_2 46 rfl) (e47.at (shE h35) (by decide)) rfl (Nat.le_of_ble_eq_true rfl) rfl (bw_mem4 71 rfl rfl) ?_
        refine WPe_ck fun h56 => ?_
        refine WPe_iald (pc := 281) (dd dtX6_next_2 47 rfl) (shE h56.1) h56.2 ?_
        refine WPe_iadd (pc := 282) (dd dtX6_next_2 48 rfl) ?_
        refine WPe_bipush (pc := 283) (48 : Int32) (dd dtX6_next_2 49 rfl) (by decide) ?_
        refine WPe_isub (pc := 285) (dd dtX6_next_3 0 rfl) ?_
        refine WPe_goto (pc := 286) 290 (dd dtX6_next_3 1 rfl) (by decide) ?_
        refine WPe_sub [0, 1] rfl ?_
        exact wpj6_next_290 X w0 k230 hk230 v.1 v.2 ((((10 : Int32) * (wi z45.2 v.1 21)) + (wi z45.2 (wr z45.2 v.1 5) ((wi z45.2 v.1 18)).toNatClampNeg)) - (48 : Int32)) v.1 z45.2
theorem wplb6_next_230 (X : CX) (w0 : Wd)  : ∀ (n9 : Nat) (v : Nat × Int32) (w : Wd), WPe rtV X (mX6_next, 2, 0, 0, w0) 0 0 (loopF (b6_next_230 ) n9 v w) 230 [(0, vR v.1), (2, vI v.2)] [] w :=
  WPe_loop (rt := rtV) (X := X) (M := (mX6_next, 2, 0, 0, w0)) (fun v : Nat × Int32 => [(0, vR v.1), (2, vI v.2)]) (fun k hk v w => wpb6_next_230 X w0  k hk v w)
noncomputable def j6_next_195  (x0 : Nat) (x2 : Int32) (s0 : Int32) (s1 : Nat) (w : Wd) : Option (Unit × Wd) :=
  ck (tg w s1 = 6) (lw (sI w s1 20 s0) fun w67 => (if (3 : Int32) ≤ x2 then (ck (tg w67 x0 = 6) (lw (sI w67 x0 21 (x2 - (3 : Int32))) fun w71 => (some ((), w71)))) else (ck (tg w67 x0 = 6) (lw (sI w67 x0 21 x2) fun w74 => (some ((), w74))))))
theorem wpj6_next_195 (X : CX) (w0 : Wd)  (x0 : Nat) (x2 : Int32) (s0 : Int32) (s1 : Nat) (w : Wd) : WPe rtV X (mX6_next, 2, 0, 0, w0) 0 0 (j6_next_195  x0 x2 s0 s1 w) 195 [(0, vR x0), (2, vI x2)] [vI s0, vR s1] w := by
  unfold j6_next_195
  refine WPe_ck fun h66 => ?_
  refine WPe_putI (pc := 195) (t := 6) (C := RX6) (T := TX6) 20 (dd dtX6_next_2 2 rfl) (shE h66) rfl (Nat.le_of_ble_eq_true rfl) (bw_mem4 73 rfl rfl) (Or.inl rfl) rfl rfl rfl ?_
  refine WPe_lw fun w67 e68 => ?_
  refine WPe_aload_n (pc := 198) 0 (dd dtX6_next_2 3 rfl) rfl ?_
  refine WPe_iload_n (pc := 199) 1 (dd dtX6_next_2 4 rfl) rfl ?_
  refine WPe_iconst (pc := 200) (3 : Int32) (dd dtX6_next_2 5 rfl) (by decide) ?_
  refine WPe_icmp_ge (pc := 201) 208 (dd dtX6_next_2 6 rfl) (by decide) (fun h69 => ?_) (fun h69 => ?_)
  · refine WPe_iload_n (pc := 208) 1 (dd dtX6_next_2 9 rfl) rfl ?_
    refine WPe_iconst (pc := 209) (3 : Int32) (dd dtX6_next_2 10 rfl) (by decide) ?_
    refine WPe_isub (pc := 210) (dd dtX6_next_2 11 rfl) ?_
    refine WPe_ck fun h70 => ?_
    refine WPe_putI (pc := 211) (t := 6) (C := RX6) (T := TX6) 21 (dd dtX6_next_2 12 rfl) (shE h70) rfl (Nat.le_of_ble_eq_true rfl) (bw_mem4 74 rfl rfl) (Or.inl rfl) rfl rfl rfl ?_
    refine WPe_lw fun w71 e72 => ?_
    refine WPe_goto (pc := 214) 403 (dd dtX6_next_2 13 rfl) (by decide) ?_
    exact WPe_return (pc := 403) (dd dtX6_next_4 12 rfl) rfl rfl ⟨(Nat.le_of_ble_eq_true rfl), (Nat.le_of_ble_eq_true rfl)⟩
  · refine WPe_iload_n (pc := 204) 1 (dd dtX6_next_2 7 rfl) rfl ?_
    refine WPe_goto (pc := 205) 211 (dd dtX6_next_2 8 rfl) (by decide) ?_
    refine WPe_ck fun h73 => ?_
    refine WPe_putI (pc := 211) (t := 6) (C := RX6) (T := TX6) 21 (dd dtX6_next_2 12 rfl) (shE h73) rfl (Nat.le_of_ble_eq_true rfl) (bw_mem4 74 rfl rfl) (Or.inl rfl) rfl rfl rfl ?_
    refine WPe_lw fun w74 e75 => ?_
    refine WPe_goto (pc := 214) 403 (dd dtX6_next_2 13 rfl) (by decide) ?_
    exact WPe_return (pc := 403) (dd dtX6_next_4 12 rfl) rfl rfl ⟨(Nat.le_of_ble_eq_true rfl), (Nat.le_of_ble_eq_true rfl)⟩
noncomputable def j6_next_146  (x0 : Nat) (w : Wd) : Option (Unit × Wd) :=
  ck (tg w x0 = 6) ((f6_wordFrom x0 (wi w x0 19) (wi w x0 18) w).bind fun z60 => (if (3 : Int32) ≤ z60.1 then (if (9 : Int32) ≤ z60.1 then (if z60.1 = (12 : Int32) then (j6_next_195 x0 z60.1 (-1 : Int32) x0 z60.2) else (j6_next_195 x0 z60.1 (((4 : Int32) + z60.1) - (9 : Int32)) x0 z60.2)) else (j6_next_195 x0 z60.1 (2 : Int32) x0 z60.2)) else (j6_next_195 x0 z60.1 (3 : Int32) x0 z60.2)))
theorem wpj6_next_146 (X : CX) (w0 : Wd)  (x0 : Nat) (w : Wd) : WPe rtV X (mX6_next, 2, 0, 0, w0) 0 0 (j6_next_146  x0 w) 146 [(0, vR x0)] [] w := by
  unfold j6_next_146
  refine WPe_aload_n (pc := 146) 0 (dd dtX6_next_1 24 rfl) rfl ?_
  refine WPe_aload_n (pc := 147) 0 (dd dtX6_next_1 25 rfl) rfl ?_
  refine WPe_ck fun h59 => ?_
  refine WPe_getI (pc := 148) (t := 6) (C := RX6) (T := TX6) 19 (dd dtX6_next_1 26 rfl) (shE h59) rfl (Nat.le_of_ble_eq_true rfl) rfl (bw_mem4 72 rfl rfl) ?_
  refine WPe_aload_n (pc := 151) 0 (dd dtX6_next_1 27 rfl) rfl ?_
  refine WPe_getI (pc := 152) (t := 6) (C := RX6) (T := TX6) 18 (dd dtX6_next_1 28 rfl) (shE h59) rfl (Nat.le_of_ble_eq_true rfl) rfl (bw_mem4 71 rfl rfl) ?_
  refine WPe_callV (pc := 155) (rtc := rtI) (Mc := mX6_wordFrom) (d' := 1) (mc' := 0) (ms' := 0) [vI (wi w x0 19), vI (wi w x0 18)] [] rfl (dd dtX6_next_1 29 rfl) (okf6_wordFrom x0 (wi w x0 19) (wi w x0 18) w) moX6_wordFrom miX6_wordFrom (bw_mem4 17 rfl rfl) (Or.inl ⟨_, _, _, _, (shE h59), rfl⟩) rfl (Nat.le_of_ble_eq_true rfl) ⟨(Nat.le_of_ble_eq_true rfl), (Nat.le_of_ble_eq_true rfl)⟩ ⟨(Nat.le_of_ble_eq_true rfl), (Nat.le_of_ble_eq_true rfl)⟩ (fun z60 h61 e62 => ?_)
  refine WPe_st (st2 := [vI z60.1]) rfl ?_
  refine WPe_istore_n (pc := 158) (ls' := [(2, vI z60.1), (0, vR x0)]) (dd dtX6_next_1 30 rfl) (Nat.le_of_ble_eq_true rfl) rfl ?_
  refine WPe_aload_n (pc := 159) 1 (dd dtX6_next_1 31 rfl) rfl ?_
  refine WPe_iload_n (pc := 160) 0 (dd dtX6_next_1 32 rfl) rfl ?_
  refine WPe_iconst (pc := 161) (3 : Int32) (dd dtX6_next_1 33 rfl) (by decide) ?_
  refine WPe_icmp_ge (pc := 162) 169 (dd dtX6_next_1 34 rfl) (by decide) (fun h63 => ?_) (fun h63 => ?_)
  · refine WPe_iload_n (pc := 169) 0 (dd dtX6_next_1 37 rfl) rfl ?_
    refine WPe_bipush (pc := 170) (9 : Int32) (dd dtX6_next_1 38 rfl) (by decide) ?_
    refine WPe_icmp_ge (pc := 172) 179 (dd dtX6_next_1 39 rfl) (by decide) (fun h64 => ?_) (fun h64 => ?_)
    · refine WPe_iload_n (pc := 179) 0 (dd dtX6_next_1 42 rfl) rfl ?_
      refine WPe_bipush (pc := 180) (12 : Int32) (dd dtX6_next_1 43 rfl) (by decide) ?_
      refine WPe_icmp_ne (pc := 182) 189 (dd dtX6_next_1 44 rfl) (by decide) (fun h65 => ?_) (fun h65 => ?_)
      · refine WPe_iconst (pc := 185) (-1 : Int32) (dd dtX6_next_1 45 rfl) (by decide) ?_
        refine WPe_goto (pc := 186) 195 (dd dtX6_next_1 46 rfl) (by decide) ?_
        refine WPe_sub [1, 0] rfl ?_
        exact wpj6_next_195 X w0  x0 z60.1 (-1 : Int32) x0 z60.2
      · refine WPe_iconst (pc := 189) (4 : Int32) (dd dtX6_next_1 47 rfl) (by decide) ?_
        refine WPe_iload_n (pc := 190) 0 (dd dtX6_next_1 48 rfl) rfl ?_
        refine WPe_iadd (pc := 191) (dd dtX6_next_1 49 rfl) ?_
        refine WPe_bipush (pc := 192) (9 : Int32) (dd dtX6_next_2 0 rfl) (by decide) ?_
        refine WPe_isub (pc := 194) (dd dtX6_next_2 1 rfl) ?_
        refine WPe_sub [1, 0] rfl ?_
        exact wpj6_next_195 X w0  x0 z60.1 (((4 : Int32) + z60.1) - (9 : Int32)) x0 z60.2
    · refine WPe_iconst (pc := 175) (2 : Int32) (dd dtX6_next_1 40 rfl) (by decide) ?_
      refine WPe_goto (pc := 176) 195 (dd dtX6_next_1 41 rfl) (by decide) ?_
      refine WPe_sub [1, 0] rfl ?_
      exact wpj6_next_195 X w0  x0 z60.1 (2 : Int32) x0 z60.2
  · refine WPe_iconst (pc := 165) (3 : Int32) (dd dtX6_next_1 35 rfl) (by decide) ?_
    refine WPe_goto (pc := 166) 195 (dd dtX6_next_1 36 rfl) (by decide) ?_
    refine WPe_sub [1, 0] rfl ?_
    exact wpj6_next_195 X w0  x0 z60.1 (3 : Int32) x0 z60.2
noncomputable def b6_next_103 (k103 : Nat → Wd → Option (Unit × Wd)) (v : Nat) (w : Wd) : Option (Unit × Wd) :=
  ck (tg w v = 6) (if (wi w v 6) ≤ (wi w v 18) then (j6_next_146 v w) else (ck (tg w (wr w v 5) = 20 ∧ vp_in (wi w v 18) (ln w (wr w v 5))) ((f6_in (wi w (wr w v 5) ((wi w v 18)).toNatClampNeg) (97 : Int32) (122 : Int32) w).bind fun z77 => (if z77.1 = (0 : Int32) then (j6_next_146 v z77.2) else (lw (sI z77.2 v 18 ((wi z77.2 v 18) + (1 : Int32))) fun w81 => (k103 v w81))))))
theorem wpb6_next_103 (X : CX) (w0 : Wd) (k103 : Nat → Wd → Option (Unit × Wd)) (hk103 : ∀ (v : Nat) (w : Wd), WPe rtV X (mX6_next, 2, 0, 0, w0) 0 0 (k103 v w) 103 [(0, vR v)] [] w) (v : Nat) (w : Wd) : WPe rtV X (mX6_next, 2, 0, 0, w0) 0 0 (b6_next_103 k103 v w) 103 [(0, vR v)] [] w := by
  unfold b6_next_103
  refine WPe_aload_n (pc := 103) 0 (dd dtX6_next_1 3 rfl) rfl ?_
  refine WPe_ck fun h57 => ?_
  refine WPe_getI (pc := 104) (t := 6) (C := RX6) (T := TX6) 18 (dd dtX6_next_1 4 rfl) (shE h57) rfl (Nat.le_of_ble_eq_true rfl) rfl (bw_mem4 71 rfl rfl) ?_
  refine WPe_aload_n (pc := 107) 0 (dd dtX6_next_1 5 rfl) rfl ?_
  refine WPe_getI (pc := 108) (t := 6) (C := RX6) (T := TX6) 6 (dd dtX6_next_1 6 rfl) (shE h57) rfl (Nat.le_of_ble_eq_true rfl) rfl (bw_mem4 59 rfl rfl) ?_
  refine WPe_icmp_ge (pc := 111) 146 (dd dtX6_next_1 7 rfl) (by decide) (fun h58 => ?_) (fun h58 => ?_)
  · refine WPe_sub [0] rfl ?_
    exact wpj6_next_146 X w0  v w
  · refine WPe_aload_n (pc := 114) 0 (dd dtX6_next_1 8 rfl) rfl ?_
    refine WPe_getR (pc := 115) (t := 6) (C := RX6) (T := TX6) 5 (dd dtX6_next_1 9 rfl) (shE h57) rfl (Nat.le_of_ble_eq_true rfl) rfl (bw_mem4 58 rfl rfl) ?_
    refine WPe_aload_n (pc := 118) 0 (dd dtX6_next_1 10 rfl) rfl ?_
    refine WPe_getI (pc := 119) (t := 6) (C := RX6) (T := TX6) 18 (dd dtX6_next_1 11 rfl) (shE h57) rfl (Nat.le_of_ble_eq_true rfl) rfl (bw_mem4 71 rfl rfl) ?_
    refine WPe_ck fun h76 => ?_
    refine WPe_iald (pc := 122) (dd dtX6_next_1 12 rfl) (shE h76.1) h76.2 ?_
    refine WPe_bipush (pc := 123) (97 : Int32) (dd dtX6_next_1 13 rfl) (by decide) ?_
    refine WPe_bipush (pc := 125) (122 : Int32) (dd dtX6_next_1 14 rfl) (by decide) ?_
    refine WPe_callS (pc := 127) (rtc := rtI) (Mc := mX6_in) (d' := 1) (mc' := 0) (ms' := 0) [vI (wi w (wr w v 5) ((wi w v 18)).toNatClampNeg), vI (97 : Int32), vI (122 : Int32)] [] rfl (dd dtX6_next_1 15 rfl) (okf6_in (wi w (wr w v 5) ((wi w v 18)).toNatClampNeg) (97 : Int32) (122 : Int32) w) moX6_in msX6_in (bw_mem4 14 rfl rfl) rfl (Nat.le_of_ble_eq_true rfl) ⟨(Nat.le_of_ble_eq_true rfl), (Nat.le_of_ble_eq_true rfl)⟩ ⟨(Nat.le_of_ble_eq_true rfl), (Nat.le_of_ble_eq_true rfl)⟩ (fun z77 h78 e79 => ?_)
    refine WPe_st (st2 := [vI z77.1]) rfl ?_
    refine WPe_if_eq (pc := 130) 146 (dd dtX6_next_1 16 rfl) (by decide) (fun h80 => ?_) (fun h80 => ?_)
    · refine WPe_sub [0] rfl ?_
      exact wpj6_next_146 X w0  v z77.2
    · refine WPe_aload_n (pc := 133) 0 (dd dtX6_next_1 17 rfl) rfl ?_
      refine WPe_dup (pc := 134) (dd dtX6_next_1 18 rfl) rfl ?_
      refine WPe_getI (pc := 135) (t := 6) (C := RX6) (T := TX6) 18 (dd dtX6_next_1 19 rfl) (e79.at (shE h57) (by decide)) rfl (Nat.le_of_ble_eq_true rfl) rfl (bw_mem4 71 rfl rfl) ?_
      refine WPe_iconst (pc := 138) (1 : Int32) (dd dtX6_next_1 20 rfl) (by decide) ?_
      refine WPe_iadd (pc := 139) (dd dtX6_next_1 21 rfl) ?_
      refine WPe_putI (pc := 140) (t := 6) (C := RX6) (T := TX6) 18 (dd dtX6_next_1 22 rfl) (e79.at (shE h57) (by decide)) rfl (Nat.le_of_ble_eq_true rfl) (bw_mem4 71 rfl rfl) (Or.inl rfl) rfl rfl rfl ?_
      refine WPe_lw fun w81 e82 => ?_
      refine WPe_goto (pc := 143) 103 (dd dtX6_next_1 23 rfl) (by decide) ?_
      refine WPe_sub [0] rfl ?_
      exact hk103 v w81
theorem wplb6_next_103 (X : CX) (w0 : Wd)  : ∀ (n9 : Nat) (v : Nat) (w : Wd), WPe rtV X (mX6_next, 2, 0, 0, w0) 0 0 (loopF (b6_next_103 ) n9 v w) 103 [(0, vR v)] [] w :=
  WPe_loop (rt := rtV) (X := X) (M := (mX6_next, 2, 0, 0, w0)) (fun v : Nat => [(0, vR v)]) (fun k hk v w => wpb6_next_103 X w0  k hk v w)
noncomputable def j6_next_52  (x0 : Nat) (w : Wd) : Option (Unit × Wd) :=
  ck (tg w x0 = 6) (lw (sI w x0 19 (wi w x0 18)) fun w4 => (lw (sI w4 x0 20 (0 : Int32)) fun w6 => (lw (sI w6 x0 21 (0 : Int32)) fun w8 => (if (wi w8 x0 18) = (wi w8 x0 6) then (some ((), w8)) else (ck (tg w8 (wr w8 x0 5) = 20 ∧ vp_in (wi w8 x0 18) (ln w8 (wr w8 x0 5))) ((f6_in (wi w8 (wr w8 x0 5) ((wi w8 x0 18)).toNatClampNeg) (97 : Int32) (122 : Int32) w8).bind fun z12 => (if z12.1 = (0 : Int32) then ((f6_in (wi w8 (wr w8 x0 5) ((wi w8 x0 18)).toNatClampNeg) (48 : Int32) (57 : Int32) z12.2).bind fun z16 => (if z16.1 = (0 : Int32) then (if (wi w8 (wr w8 x0 5) ((wi w8 x0 18)).toNatClampNeg) = (40 : Int32) then (j6_next_374 x0 (wi w8 (wr w8 x0 5) ((wi w8 x0 18)).toNatClampNeg) z16.2) else (if (wi w8 (wr w8 x0 5) ((wi w8 x0 18)).toNatClampNeg) = (41 : Int32) then (j6_next_374 x0 (wi w8 (wr w8 x0 5) ((wi w8 x0 18)).toNatClampNeg) z16.2) else (if (wi w8 (wr w8 x0 5) ((wi w8 x0 18)).toNatClampNeg) = (59 : Int32) then (j6_next_374 x0 (wi w8 (wr w8 x0 5) ((wi w8 x0 18)).toNatClampNeg) z16.2) else (if (wi w8 (wr w8 x0 5) ((wi w8 x0 18)).toNatClampNeg) = (43 : Int32) then (j6_next_374 x0 (wi w8 (wr w8 x0 5) ((wi w8 x0 18)).toNatClampNeg) z16.2) else (if (wi w8 (wr w8 x0 5) ((wi w8 x0 18)).toNatClampNeg) = (45 : Int32) then (j6_next_374 x0 (wi w8 (wr w8 x0 5) ((wi w8 x0 18)).toNatClampNeg) z16.2) else (if (wi w8 (wr w8 x0 5) ((wi w8 x0 18)).toNatClampNeg) = (42 : Int32) then (j6_next_374 x0 (wi w8 (wr w8 x0 5) ((wi w8 x0 18)).toNatClampNeg) z16.2) else (if (wi w8 (wr w8 x0 5) ((wi w8 x0 18)).toNatClampNeg) = (60 : Int32) then (j6_next_374 x0 (wi w8 (wr w8 x0 5) ((wi w8 x0 18)).toNatClampNeg) z16.2) else (if (wi w8 (wr w8 x0 5) ((wi w8 x0 18)).toNatClampNeg) = (61 : Int32) then (j6_next_374 x0 (wi w8 (wr w8 x0 5) ((wi w8 x0 18)).toNatClampNeg) z16.2) else (j6_next_379 x0 (wi w8 (wr w8 x0 5) ((wi w8 x0 18)).toNatClampNeg) (0 : Int32) z16.2))))))))) else (loopF (b6_next_230) FU (x0, (0 : Int32)) z16.2))) else (loopF (b6_next_103) FU x0 z12.2))))))))
theorem wpj6_next_52 (X : CX) (w0 : Wd)  (x0 : Nat) (w : Wd) : WPe rtV X (mX6_next, 2, 0, 0, w0) 0 0 (j6_next_52  x0 w) 52 [(0, vR x0)] [] w := by
  unfold j6_next_52
  refine WPe_aload_n (pc := 52) 0 (dd dtX6_next_0 26 rfl) rfl ?_
  refine WPe_aload_n (pc := 53) 0 (dd dtX6_next_0 27 rfl) rfl ?_
  refine WPe_ck fun h3 => ?_
  refine WPe_getI (pc := 54) (t := 6) (C := RX6) (T := TX6) 18 (dd dtX6_next_0 28 rfl) (shE h3) rfl (Nat.le_of_ble_eq_true rfl) rfl (bw_mem4 71 rfl rfl) ?_
  refine WPe_putI (pc := 57) (t := 6) (C := RX6) (T := TX6) 19 (dd dtX6_next_0 29 rfl) (shE h3) rfl (Nat.le_of_ble_eq_true rfl) (bw_mem4 72 rfl rfl) (Or.inl rfl) rfl rfl rfl ?_
  refine WPe_lw fun w4 e5 => ?_
  refine WPe_aload_n (pc := 60) 0 (dd dtX6_next_0 30 rfl) rfl ?_
  refine WPe_iconst (pc := 61) (0 : Int32) (dd dtX6_next_0 31 rfl) (by decide) ?_
  refine WPe_putI (pc := 62) (t := 6) (C := RX6) (T := TX6) 20 (dd dtX6_next_0 32 rfl) (shI e5 (shE h3)) rfl (Nat.le_of_ble_eq_true rfl) (bw_mem4 73 rfl rfl) (Or.inl rfl) rfl rfl rfl ?_
  refine WPe_lw fun w6 e7 => ?_
  refine WPe_aload_n (pc := 65) 0 (dd dtX6_next_0 33 rfl) rfl ?_
  refine WPe_iconst (pc := 66) (0 : Int32) (dd dtX6_next_0 34 rfl) (by decide) ?_
  refine WPe_putI (pc := 67) (t := 6) (C := RX6) (T := TX6) 21 (dd dtX6_next_0 35 rfl) (shI e7 (shI e5 (shE h3))) rfl (Nat.le_of_ble_eq_true rfl) (bw_mem4 74 rfl rfl) (Or.inl rfl) rfl rfl rfl ?_
  refine WPe_lw fun w8 e9 => ?_
  refine WPe_aload_n (pc := 70) 0 (dd dtX6_next_0 36 rfl) rfl ?_
  refine WPe_getI (pc := 71) (t := 6) (C := RX6) (T := TX6) 18 (dd dtX6_next_0 37 rfl) (shI e9 (shI e7 (shI e5 (shE h3)))) rfl (Nat.le_of_ble_eq_true rfl) rfl (bw_mem4 71 rfl rfl) ?_
  refine WPe_aload_n (pc := 74) 0 (dd dtX6_next_0 38 rfl) rfl ?_
  refine WPe_getI (pc := 75) (t := 6) (C := RX6) (T := TX6) 6 (dd dtX6_next_0 39 rfl) (shI e9 (shI e7 (shI e5 (shE h3)))) rfl (Nat.le_of_ble_eq_true rfl) rfl (bw_mem4 59 rfl rfl) ?_
  refine WPe_icmp_ne (pc := 78) 82 (dd dtX6_next_0 40 rfl) (by decide) (fun h10 => ?_) (fun h10 => ?_)
  · exact WPe_return (pc := 81) (dd dtX6_next_0 41 rfl) rfl rfl ⟨(Nat.le_of_ble_eq_true rfl), (Nat.le_of_ble_eq_true rfl)⟩
  · refine WPe_aload_n (pc := 82) 0 (dd dtX6_next_0 42 rfl) rfl ?_
    refine WPe_getR (pc := 83) (t := 6) (C := RX6) (T := TX6) 5 (dd dtX6_next_0 43 rfl) (shI e9 (shI e7 (shI e5 (shE h3)))) rfl (Nat.le_of_ble_eq_true rfl) rfl (bw_mem4 58 rfl rfl) ?_
    refine WPe_aload_n (pc := 86) 0 (dd dtX6_next_0 44 rfl) rfl ?_
    refine WPe_getI (pc := 87) (t := 6) (C := RX6) (T := TX6) 18 (dd dtX6_next_0 45 rfl) (shI e9 (shI e7 (shI e5 (shE h3)))) rfl (Nat.le_of_ble_eq_true rfl) rfl (bw_mem4 71 rfl rfl) ?_
    refine WPe_ck fun h11 => ?_
    refine WPe_iald (pc := 90) (dd dtX6_next_0 46 rfl) (shE h11.1) h11.2 ?_
    refine WPe_istore_n (pc := 91) (ls' := [(1, vI (wi w8 (wr w8 x0 5) ((wi w8 x0 18)).toNatClampNeg)), (0, vR x0)]) (dd dtX6_next_0 47 rfl) (Nat.le_of_ble_eq_true rfl) rfl ?_
    refine WPe_iload_n (pc := 92) 0 (dd dtX6_next_0 48 rfl) rfl ?_
    refine WPe_bipush (pc := 93) (97 : Int32) (dd dtX6_next_0 49 rfl) (by decide) ?_
    refine WPe_bipush (pc := 95) (122 : Int32) (dd dtX6_next_1 0 rfl) (by decide) ?_
    refine WPe_callS (pc := 97) (rtc := rtI) (Mc := mX6_in) (d' := 1) (mc' := 0) (ms' := 0) [vI (wi w8 (wr w8 x0 5) ((wi w8 x0 18)).toNatClampNeg), vI (97 : Int32), vI (122 : Int32)] [] rfl (dd dtX6_next_1 1 rfl) (okf6_in (wi w8 (wr w8 x0 5) ((wi w8 x0 18)).toNatClampNeg) (97 : Int32) (122 : Int32) w8) moX6_in msX6_in (bw_mem4 14 rfl rfl) rfl (Nat.le_of_ble_eq_true rfl) ⟨(Nat.le_of_ble_eq_true rfl), (Nat.le_of_ble_eq_true rfl)⟩ ⟨(Nat.le_of_ble_eq_true rfl), (Nat.le_of_ble_eq_true rfl)⟩ (fun z12 h13 e14 => ?_)
    refine WPe_st (st2 := [vI z12.1]) rfl ?_
    refine WPe_if_eq (pc := 100) 217 (dd dtX6_next_1 2 rfl) (by decide) (fun h15 => ?_) (fun h15 => ?_)
    · refine WPe_iload_n (pc := 217) 0 (dd dtX6_next_2 14 rfl) rfl ?_
      refine WPe_bipush (pc := 218) (48 : Int32) (dd dtX6_next_2 15 rfl) (by decide) ?_
      refine WPe_bipush (pc := 220) (57 : Int32) (dd dtX6_next_2 16 rfl) (by decide) ?_
      refine WPe_callS (pc := 222) (rtc := rtI) (Mc := mX6_in) (d' := 1) (mc' := 0) (ms' := 0) [vI (wi w8 (wr w8 x0 5) ((wi w8 x0 18)).toNatClampNeg), vI (48 : Int32), vI (57 : Int32)] [] rfl (dd dtX6_next_2 17 rfl) (okf6_in (wi w8 (wr w8 x0 5) ((wi w8 x0 18)).toNatClampNeg) (48 : Int32) (57 : Int32) z12.2) moX6_in msX6_in (bw_mem4 14 rfl rfl) rfl (Nat.le_of_ble_eq_true rfl) ⟨(Nat.le_of_ble_eq_true rfl), (Nat.le_of_ble_eq_true rfl)⟩ ⟨(Nat.le_of_ble_eq_true rfl), (Nat.le_of_ble_eq_true rfl)⟩ (fun z16 h17 e18 => ?_)
      refine WPe_st (st2 := [vI z16.1]) rfl ?_
      refine WPe_if_eq (pc := 225) 326 (dd dtX6_next_2 18 rfl) (by decide) (fun h19 => ?_) (fun h19 => ?_)
      · refine WPe_iload_n (pc := 326) 0 (dd dtX6_next_3 21 rfl) rfl ?_
        refine WPe_bipush (pc := 327) (40 : Int32) (dd dtX6_next_3 22 rfl) (by decide) ?_
        refine WPe_icmp_eq (pc := 329) 374 (dd dtX6_next_3 23 rfl) (by decide) (fun h20 => ?_) (fun h20 => ?_)
        · refine WPe_sub [1, 0] rfl ?_
          exact wpj6_next_374 X w0  x0 (wi w8 (wr w8 x0 5) ((wi w8 x0 18)).toNatClampNeg) z16.2
        · refine WPe_iload_n (pc := 332) 0 (dd dtX6_next_3 24 rfl) rfl ?_
          refine WPe_bipush (pc := 333) (41 : Int32) (dd dtX6_next_3 25 rfl) (by decide) ?_
          refine WPe_icmp_eq (pc := 335) 374 (dd dtX6_next_3 26 rfl) (by decide) (fun h28 => ?_) (fun h28 => ?_)
          · refine WPe_sub [1, 0] rfl ?_
            exact wpj6_next_374 X w0  x0 (wi w8 (wr w8 x0 5) ((wi w8 x0 18)).toNatClampNeg) z16.2
          · refine WPe_iload_n (pc := 338) 0 (dd dtX6_next_3 27 rfl) rfl ?_
            refine WPe_bipush (pc := 339) (59 : Int32) (dd dtX6_next_3 28 rfl) (by decide) ?_
            refine WPe_icmp_eq (pc := 341) 374 (dd dtX6_next_3 29 rfl) (by decide) (fun h29 => ?_) (fun h29 => ?_)
            · refine WPe_sub [1, 0] rfl ?_
              exact wpj6_next_374 X w0  x0 (wi w8 (wr w8 x0 5) ((wi w8 x0 18)).toNatClampNeg) z16.2
            · refine WPe_iload_n (pc := 344) 0 (dd dtX6_next_3 30 rfl) rfl ?_
              refine WPe_bipush (pc := 345) (43 : Int32) (dd dtX6_next_3 31 rfl) (by decide) ?_
              refine WPe_icmp_eq (pc := 347) 374 (dd dtX6_next_3 32 rfl) (by decide) (fun h30 => ?_) (fun h30 => ?_)
              · refine WPe_sub [1, 0] rfl ?_
                exact wpj6_next_374 X w0  x0 (wi w8 (wr w8 x0 5) ((wi w8 x0 18)).toNatClampNeg) z16.2
              · refine WPe_iload_n (pc := 350) 0 (dd dtX6_next_3 33 rfl) rfl ?_
                refine WPe_bipush (pc := 351) (45 : Int32) (dd dtX6_next_3 34 rfl) (by decide) ?_
                refine WPe_icmp_eq (pc := 353) 374 (dd dtX6_next_3 35 rfl) (by decide) (fun h31 => ?_) (fun h31 => ?_)
                · refine WPe_sub [1, 0] rfl ?_
                  exact wpj6_next_374 X w0  x0 (wi w8 (wr w8 x0 5) ((wi w8 x0 18)).toNatClampNeg) z16.2
                · refine WPe_iload_n (pc := 356) 0 (dd dtX6_next_3 36 rfl) rfl ?_
                  refine WPe_bipush (pc := 357) (42 : Int32) (dd dtX6_next_3 37 rfl) (by decide) ?_
                  refine WPe_icmp_eq (pc := 359) 374 (dd dtX6_next_3 38 rfl) (by decide) (fun h32 => ?_) (fun h32 => ?_)
                  · refine WPe_sub [1, 0] rfl ?_
                    exact wpj6_next_374 X w0  x0 (wi w8 (wr w8 x0 5) ((wi w8 x0 18)).toNatClampNeg) z16.2
                  · refine WPe_iload_n (pc := 362) 0 (dd dtX6_next_3 39 rfl) rfl ?_
                    refine WPe_bipush (pc := 363) (60 : Int32) (dd dtX6_next_3 40 rfl) (by decide) ?_
                    refine WPe_icmp_eq (pc := 365) 374 (dd dtX6_next_3 41 rfl) (by decide) (fun h33 => ?_) (fun h33 => ?_)
                    · refine WPe_sub [1, 0] rfl ?_
                      exact wpj6_next_374 X w0  x0 (wi w8 (wr w8 x0 5) ((wi w8 x0 18)).toNatClampNeg) z16.2
                    · refine WPe_iload_n (pc := 368) 0 (dd dtX6_next_3 42 rfl) rfl ?_
                      refine WPe_bipush (pc := 369) (61 : Int32) (dd dtX6_next_3 43 rfl) (by decide) ?_
                      refine WPe_icmp_ne (pc := 371) 378 (dd dtX6_next_3 44 rfl) (by decide) (fun h34 => ?_) (fun h34 => ?_)
                      · refine WPe_sub [1, 0] rfl ?_
                        exact wpj6_next_374 X w0  x0 (wi w8 (wr w8 x0 5) ((wi w8 x0 18)).toNatClampNeg) z16.2
                      · refine WPe_iconst (pc := 378) (0 : Int32) (dd dtX6_next_3 47 rfl) (by decide) ?_
                        refine WPe_sub [1, 0] rfl ?_
                        exact wpj6_next_379 X w0  x0 (wi w8 (wr w8 x0 5) ((wi w8 x0 18)).toNatClampNeg) (0 : Int32) z16.2
      · refine WPe_iconst (pc := 228) (0 : Int32) (dd dtX6_next_2 19 rfl) (by decide) ?_
        refine WPe_istore_n (pc := 229) (ls' := [(2, vI (0 : Int32)), (1, vI (wi w8 (wr w8 x0 5) ((wi w8 x0 18)).toNatClampNeg)), (0, vR x0)]) (dd dtX6_next_2 20 rfl) (Nat.le_of_ble_eq_true rfl) rfl ?_
        refine WPe_sub [2, 0] rfl ?_
        exact wplb6_next_230 X w0  FU _ _
    · refine WPe_sub [1] rfl ?_
      exact wplb6_next_103 X w0  FU _ _
noncomputable def j6_next_39 (k0 : Nat → Wd → Option (Unit × Wd)) (x0 : Nat) (w : Wd) : Option (Unit × Wd) :=
  ck (tg w x0 = 6) (lw (sI w x0 18 ((wi w x0 18) + (1 : Int32))) fun w86 => (k0 x0 w86))
theorem wpj6_next_39 (X : CX) (w0 : Wd) (k0 : Nat → Wd → Option (Unit × Wd)) (hk0 : ∀ (v : Nat) (w : Wd), WPe rtV X (mX6_next, 2, 0, 0, w0) 0 0 (k0 v w) 0 [(0, vR v)] [] w) (x0 : Nat) (w : Wd) : WPe rtV X (mX6_next, 2, 0, 0, w0) 0 0 (j6_next_39 k0 x0 w) 39 [(0, vR x0)] [] w := by
  unfold j6_next_39
  refine WPe_aload_n (pc := 39) 0 (dd dtX6_next_0 19 rfl) rfl ?_
  refine WPe_dup (pc := 40) (dd dtX6_next_0 20 rfl) rfl ?_
  refine WPe_ck fun h85 => ?_
  refine WPe_getI (pc := 41) (t := 6) (C := RX6) (T := TX6) 18 (dd dtX6_next_0 21 rfl) (shE h85) rfl (Nat.le_of_ble_eq_true rfl) rfl (bw_mem4 71 rfl rfl) ?_
  refine WPe_iconst (pc := 44) (1 : Int32) (dd dtX6_next_0 22 rfl) (by decide) ?_
  refine WPe_iadd (pc := 45) (dd dtX6_next_0 23 rfl) ?_
  refine WPe_putI (pc := 46) (t := 6) (C := RX6) (T := TX6) 18 (dd dtX6_next_0 24 rfl) (shE h85) rfl (Nat.le_of_ble_eq_true rfl) (bw_mem4 71 rfl rfl) (Or.inl rfl) rfl rfl rfl ?_
  refine WPe_lw fun w86 e87 => ?_
  refine WPe_goto (pc := 49) 0 (dd dtX6_next_0 25 rfl) (by decide) ?_
  refine WPe_sub [0] rfl ?_
  exact hk0 x0 w86
noncomputable def b6_next_0 (k0 : Nat → Wd → Option (Unit × Wd)) (v : Nat) (w : Wd) : Option (Unit × Wd) :=
  ck (tg w v = 6) (if (wi w v 6) ≤ (wi w v 18) then (j6_next_52 v w) else (ck (tg w (wr w v 5) = 20 ∧ vp_in (wi w v 18) (ln w (wr w v 5))) (if (wi w (wr w v 5) ((wi w v 18)).toNatClampNeg) = (32 : Int32) then (j6_next_39 k0 v w) else (ck (vp_in (wi w v 18) (ln w (wr w v 5))) (if (wi w (wr w v 5) ((wi w v 18)).toNatClampNeg) = (10 : Int32) then (j6_next_39 k0 v w) else (j6_next_52 v w))))))
theorem wpb6_next_0 (X : CX) (w0 : Wd) (k0 : Nat → Wd → Option (Unit × Wd)) (hk0 : ∀ (v : Nat) (w : Wd), WPe rtV X (mX6_next, 2, 0, 0, w0) 0 0 (k0 v w) 0 [(0, vR v)] [] w) (v : Nat) (w : Wd) : WPe rtV X (mX6_next, 2, 0, 0, w0) 0 0 (b6_next_0 k0 v w) 0 [(0, vR v)] [] w := by
  unfold b6_next_0
  refine WPe_aload_n (pc := 0) 0 (dd dtX6_next_0 0 rfl) rfl ?_
  refine WPe_ck fun h1 => ?_
  refine WPe_getI (pc := 1) (t := 6) (C := RX6) (T := TX6) 18 (dd dtX6_next_0 1 rfl) (shE h1) rfl (Nat.le_of_ble_eq_true rfl) rfl (bw_mem4 71 rfl rfl) ?_
  refine WPe_aload_n (pc := 4) 0 (dd dtX6_next_0 2 rfl) rfl ?_
  refine WPe_getI (pc := 5) (t := 6) (C := RX6) (T := TX6) 6 (dd dtX6_next_0 3 rfl) (shE h1) rfl (Nat.le_of_ble_eq_true rfl) rfl (bw_mem4 59 rfl rfl) ?_
  refine WPe_icmp_ge (pc := 8) 52 (dd dtX6_next_0 4 rfl) (by decide) (fun h2 => ?_) (fun h2 => ?_)
  · refine WPe_sub [0] rfl ?_
    exact wpj6_next_52 X w0  v w
  · refine WPe_aload_n (pc := 11) 0 (dd dtX6_next_0 5 rfl) rfl ?_
    refine WPe_getR (pc := 12) (t := 6) (C := RX6) (T := TX6) 5 (dd dtX6_next_0 6 rfl) (shE h1) rfl (Nat.le_of_ble_eq_true rfl) rfl (bw_mem4 58 rfl rfl) ?_
    refine WPe_aload_n (pc := 15) 0 (dd dtX6_next_0 7 rfl) rfl ?_
    refine WPe_getI (pc := 16) (t := 6) (C := RX6) (T := TX6) 18 (dd dtX6_next_0 8 rfl) (shE h1) rfl (Nat.le_of_ble_eq_true rfl) rfl (bw_mem4 71 rfl rfl) ?_
    refine WPe_ck fun h83 => ?_
    refine WPe_iald (pc := 19) (dd dtX6_next_0 9 rfl) (shE h83.1) h83.2 ?_
    refine WPe_bipush (pc := 20) (32 : Int32) (dd dtX6_next_0 10 rfl) (by decide) ?_
    refine WPe_icmp_eq (pc := 22) 39 (dd dtX6_next_0 11 rfl) (by decide) (fun h84 => ?_) (fun h84 => ?_)
    · refine WPe_sub [0] rfl ?_
      exact wpj6_next_39 X w0 k0 hk0 v w
    · refine WPe_aload_n (pc := 25) 0 (dd dtX6_next_0 12 rfl) rfl ?_
      refine WPe_getR (pc := 26) (t := 6) (C := RX6) (T := TX6) 5 (dd dtX6_next_0 13 rfl) (shE h1) rfl (Nat.le_of_ble_eq_true rfl) rfl (bw_mem4 58 rfl rfl) ?_
      refine WPe_aload_n (pc := 29) 0 (dd dtX6_next_0 14 rfl) rfl ?_
      refine WPe_getI (pc := 30) (t := 6) (C := RX6) (T := TX6) 18 (dd dtX6_next_0 15 rfl) (shE h1) rfl (Nat.le_of_ble_eq_true rfl) rfl (bw_mem4 71 rfl rfl) ?_
      refine WPe_ck fun h88 => ?_
      refine WPe_iald (pc := 33) (dd dtX6_next_0 16 rfl) (shL (shE h83.1)) h88 ?_
      refine WPe_bipush (pc := 34) (10 : Int32) (dd dtX6_next_0 17 rfl) (by decide) ?_
      refine WPe_icmp_ne (pc := 36) 52 (dd dtX6_next_0 18 rfl) (by decide) (fun h89 => ?_) (fun h89 => ?_)
      · refine WPe_sub [0] rfl ?_
        exact wpj6_next_39 X w0 k0 hk0 v w
      · refine WPe_sub [0] rfl ?_
        exact wpj6_next_52 X w0  v w
theorem wplb6_next_0 (X : CX) (w0 : Wd)  : ∀ (n9 : Nat) (v : Nat) (w : Wd), WPe rtV X (mX6_next, 2, 0, 0, w0) 0 0 (loopF (b6_next_0 ) n9 v w) 0 [(0, vR v)] [] w :=
  WPe_loop (rt := rtV) (X := X) (M := (mX6_next, 2, 0, 0, w0)) (fun v : Nat => [(0, vR v)]) (fun k hk v w => wpb6_next_0 X w0  k hk v w)
noncomputable def f6_next (x0 : Nat) (w : Wd) : Option (Unit × Wd) :=
  loopF (b6_next_0) FU x0 w
theorem wpf6_next (X : CX) (w0 : Wd) (x0 : Nat) (w : Wd) : WPe rtV X (mX6_next, 2, 0, 0, w0) 0 0 (f6_next x0 w) 0 [(0, vR x0)] [] w := by
  unfold f6_next
  refine WPe_sub [0] rfl ?_
  exact wplb6_next_0 X w0  FU _ _
theorem okf6_next (x0 : Nat) (w : Wd) : ∀ z, f6_next x0 w = some z → OkM mX6_next 2 0 0 [vR x0] w (rtV z.1) z.2 :=
  OkM.of (rt := rtV) moX6_next (Nat.le_of_ble_eq_true rfl) (fun X => wpf6_next X w x0 w)
def tbX6_puts : List (Nat × Instr × Nat) := [(0, .aload_n 0, 1), (1, .getfield 25, 3), (4, .sipush 200, 3), (7, .aload_n 0, 1), (8, .getfield 89, 3), (11, .imul, 1), (12, .aload_n 0, 1), (13, .getfield 114, 3), (16, .iadd, 1), (17, .iload_n 1, 1), (18, .iastore, 1), (19, .aload_n 0, 1), (20, .dup, 1), (21, .getfield 114, 3), (24, .iconst 1, 1), (25, .iadd, 1), (26, .putfield 114, 3), (29, .return_, 1)]
set_option maxRecDepth 20000 in
theorem dtX6_puts : ∀ x ∈ tbX6_puts, decode cX6_puts x.1 = .ok x.2 := by decide +kernel
noncomputable def f6_puts (x0 : Nat) (x1 : Int32) (w : Wd) : Option (Unit × Wd) :=
  ck (tg w x0 = 6) (ck (tg w (wr w x0 7) = 20 ∧ vp_in (((200 : Int32) * (wi w x0 9)) + (wi w x0 26)) (ln w (wr w x0 7))) (lw (sI w (wr w x0 7) ((((200 : Int32) * (wi w x0 9)) + (wi w x0 26))).toNatClampNeg x1) fun w3 => (lw (sI w3 x0 26 ((wi w3 x0 26) + (1 : Int32))) fun w5 => (some ((), w5)))))
theorem wpf6_puts (X : CX) (w0 : Wd) (x0 : Nat) (x1 : Int32) (w : Wd) : WPe rtV X (mX6_puts, 1, 0, 0, w0) 0 0 (f6_puts x0 x1 w) 0 [(0, vR x0), (1, vI x1)] [] w := by
  unfold f6_puts
  refine WPe_aload_n (pc := 0) 0 (dd dtX6_puts 0 rfl) rfl ?_
  refine WPe_ck fun h1 => ?_
  refine WPe_getR (pc := 1) (t := 6) (C := RX6) (T := TX6) 7 (dd dtX6_puts 1 rfl) (shE h1) rfl (Nat.le_of_ble_eq_true rfl) rfl (bw_mem4 60 rfl rfl) ?_
  refine WPe_sipush (pc := 4) (200 : Int32) (dd dtX6_puts 2 rfl) (by decide) ?_
  refine WPe_aload_n (pc := 7) 0 (dd dtX6_puts 3 rfl) rfl ?_
  refine WPe_getI (pc := 8) (t := 6) (C := RX6) (T := TX6) 9 (dd dtX6_puts 4 rfl) (shE h1) rfl (Nat.le_of_ble_eq_true rfl) rfl (bw_mem4 62 rfl rfl) ?_
  refine WPe_imul (pc := 11) (dd dtX6_puts 5 rfl) ?_
  refine WPe_aload_n (pc := 12) 0 (dd dtX6_puts 6 rfl) rfl ?_
  refine WPe_getI (pc := 13) (t := 6) (C := RX6) (T := TX6) 26 (dd dtX6_puts 7 rfl) (shE h1) rfl (Nat.le_of_ble_eq_true rfl) rfl (bw_mem4 79 rfl rfl) ?_
  refine WPe_iadd (pc := 16) (dd dtX6_puts 8 rfl) ?_
  refine WPe_iload_n (pc := 17) 1 (dd dtX6_puts 9 rfl) rfl ?_
  refine WPe_ck fun h2 => ?_
  refine WPe_iast (pc := 18) (dd dtX6_puts 10 rfl) (shE h2.1) h2.2 ?_
  refine WPe_lw fun w3 e4 => ?_
  refine WPe_aload_n (pc := 19) 0 (dd dtX6_puts 11 rfl) rfl ?_
  refine WPe_dup (pc := 20) (dd dtX6_puts 12 rfl) rfl ?_
  refine WPe_getI (pc := 21) (t := 6) (C := RX6) (T := TX6) 26 (dd dtX6_puts 13 rfl) (shI e4 (shE h1)) rfl (Nat.le_of_ble_eq_true rfl) rfl (bw_mem4 79 rfl rfl) ?_
  refine WPe_iconst (pc := 24) (1 : Int32) (dd dtX6_puts 14 rfl) (by decide) ?_
  refine WPe_iadd (pc := 25) (dd dtX6_puts 15 rfl) ?_
  refine WPe_putI (pc := 26) (t := 6) (C := RX6) (T := TX6) 26 (dd dtX6_puts 16 rfl) (shI e4 (shE h1)) rfl (Nat.le_of_ble_eq_true rfl) (bw_mem4 79 rfl rfl) (Or.inl rfl) rfl rfl rfl ?_
  refine WPe_lw fun w5 e6 => ?_
  exact WPe_return (pc := 29) (dd dtX6_puts 17 rfl) rfl rfl ⟨(Nat.le_of_ble_eq_true rfl), (Nat.le_of_ble_eq_true rfl)⟩
theorem okf6_puts (x0 : Nat) (x1 : Int32) (w : Wd) : ∀ z, f6_puts x0 x1 w = some z → OkM mX6_puts 1 0 0 [vR x0, vI x1] w (rtV z.1) z.2 :=
  OkM.of (rt := rtV) moX6_puts (Nat.le_of_ble_eq_true rfl) (fun X => wpf6_puts X w x0 x1 w)
def tbX6_rank : List (Nat × Instr × Nat) := [(0, .iload_n 0, 1), (1, .ifCond .ne 7, 3), (4, .iconst 0, 1), (5, .goto 66, 3), (8, .iload_n 0, 1), (9, .bipush 11, 2), (11, .if_icmp .ne 7, 3), (14, .iconst 1, 1), (15, .goto 56, 3), (18, .iload_n 0, 1), (19, .bipush 12, 2), (21, .if_icmp .ne 7, 3), (24, .iconst 2, 1), (25, .goto 46, 3), (28, .iload_n 0, 1), (29, .bipush 13, 2), (31, .if_icmp .ne 7, 3), (34, .iconst 3, 1), (35, .goto 36, 3), (38, .iload_n 0, 1), (39, .bipush 15, 2), (41, .if_icmp .gt 7, 3), (44, .iconst 4, 1), (45, .goto 26, 3), (48, .iload_n 0, 1), (49, .bipush 17, 2), (51, .if_icmp .gt 7, 3), (54, .iconst 5, 1), (55, .goto 16, 3), (58, .iload_n 0, 1), (59, .bipush 18, 2), (61, .if_icmp .ne 8, 3), (64, .bipush 6, 2), (66, .goto 5, 3), (69, .bipush 7, 2), (71, .ireturn, 1)]
set_option maxRecDepth 20000 in
theorem dtX6_rank : ∀ x ∈ tbX6_rank, decode cX6_rank x.1 = .ok x.2 := by decide +kernel
noncomputable def f6_rank (x0 : Int32) (w : Wd) : Option (Int32 × Wd) :=
  if x0 = (0 : Int32) then (some ((0 : Int32), w)) else (if x0 = (11 : Int32) then (some ((1 : Int32), w)) else (if x0 = (12 : Int32) then (some ((2 : Int32), w)) else (if x0 = (13 : Int32) then (some ((3 : Int32), w)) else (if (15 : Int32) < x0 then (if (17 : Int32) < x0 then (if x0 = (18 : Int32) then (some ((6 : Int32), w)) else (some ((7 : Int32), w))) else (some ((5 : Int32), w))) else (some ((4 : Int32), w))))))
theorem wpf6_rank (X : CX) (w0 : Wd) (x0 : Int32) (w : Wd) : WPe rtI X (mX6_rank, 1, 0, 0, w0) 0 0 (f6_rank x0 w) 0 [(0, vI x0)] [] w := by
  unfold f6_rank
  refine WPe_iload_n (pc := 0) 0 (dd dtX6_rank 0 rfl) rfl ?_
  refine WPe_if_ne (pc := 1) 8 (dd dtX6_rank 1 rfl) (by decide) (fun h1 => ?_) (fun h1 => ?_)
  · refine WPe_iconst (pc := 4) (0 : Int32) (dd dtX6_rank 2 rfl) (by decide) ?_
    refine WPe_goto (pc := 5) 71 (dd dtX6_rank 3 rfl) (by decide) ?_
    exact WPe_ireturn (pc := 71) (dd dtX6_rank 35 rfl) rfl rfl ⟨(Nat.le_of_ble_eq_true rfl), (Nat.le_of_ble_eq_true rfl)⟩
  · refine WPe_iload_n (pc := 8) 0 (dd dtX6_rank 4 rfl) rfl ?_
    refine WPe_bipush (pc := 9) (11 : Int32) (dd dtX6_rank 5 rfl) (by decide) ?_
    refine WPe_icmp_ne (pc := 11) 18 (dd dtX6_rank 6 rfl) (by decide) (fun h2 => ?_) (fun h2 => ?_)
    · refine WPe_iconst (pc := 14) (1 : Int32) (dd dtX6_rank 7 rfl) (by decide) ?_
      refine WPe_goto (pc := 15) 71 (dd dtX6_rank 8 rfl) (by decide) ?_
      exact WPe_ireturn (pc := 71) (dd dtX6_rank 35 rfl) rfl rfl ⟨(Nat.le_of_ble_eq_true rfl), (Nat.le_of_ble_eq_true rfl)⟩
    · refine WPe_iload_n (pc := 18) 0 (dd dtX6_rank 9 rfl) rfl ?_
      refine WPe_bipush (pc := 19) (12 : Int32) (dd dtX6_rank 10 rfl) (by decide) ?_
      refine WPe_icmp_ne (pc := 21) 28 (dd dtX6_rank 11 rfl) (by decide) (fun h3 => ?_) (fun h3 => ?_)
      · refine WPe_iconst (pc := 24) (2 : Int32) (dd dtX6_rank 12 rfl) (by decide) ?_
        refine WPe_goto (pc := 25) 71 (dd dtX6_rank 13 rfl) (by decide) ?_
        exact WPe_ireturn (pc := 71) (dd dtX6_rank 35 rfl) rfl rfl ⟨(Nat.le_of_ble_eq_true rfl), (Nat.le_of_ble_eq_true rfl)⟩
      · refine WPe_iload_n (pc := 28) 0 (dd dtX6_rank 14 rfl) rfl ?_
        refine WPe_bipush (pc := 29) (13 : Int32) (dd dtX6_rank 15 rfl) (by decide) ?_
        refine WPe_icmp_ne (pc := 31) 38 (dd dtX6_rank 16 rfl) (by decide) (fun h4 => ?_) (fun h4 => ?_)
        · refine WPe_iconst (pc := 34) (3 : Int32) (dd dtX6_rank 17 rfl) (by decide) ?_
          refine WPe_goto (pc := 35) 71 (dd dtX6_rank 18 rfl) (by decide) ?_
          exact WPe_ireturn (pc := 71) (dd dtX6_rank 35 rfl) rfl rfl ⟨(Nat.le_of_ble_eq_true rfl), (Nat.le_of_ble_eq_true rfl)⟩
        · refine WPe_iload_n (pc := 38) 0 (dd dtX6_rank 19 rfl) rfl ?_
          refine WPe_bipush (pc := 39) (15 : Int32) (dd dtX6_rank 20 rfl) (by decide) ?_
          refine WPe_icmp_gt (pc := 41) 48 (dd dtX6_rank 21 rfl) (by decide) (fun h5 => ?_) (fun h5 => ?_)
          · refine WPe_iload_n (pc := 48) 0 (dd dtX6_rank 24 rfl) rfl ?_
            refine WPe_bipush (pc := 49) (17 : Int32) (dd dtX6_rank 25 rfl) (by decide) ?_
            refine WPe_icmp_gt (pc := 51) 58 (dd dtX6_rank 26 rfl) (by decide) (fun h6 => ?_) (fun h6 => ?_)
            · refine WPe_iload_n (pc := 58) 0 (dd dtX6_rank 29 rfl) rfl ?_
              refine WPe_bipush (pc := 59) (18 : Int32) (dd dtX6_rank 30 rfl) (by decide) ?_
              refine WPe_icmp_ne (pc := 61) 69 (dd dtX6_rank 31 rfl) (by decide) (fun h7 => ?_) (fun h7 => ?_)
              · refine WPe_bipush (pc := 64) (6 : Int32) (dd dtX6_rank 32 rfl) (by decide) ?_
                refine WPe_goto (pc := 66) 71 (dd dtX6_rank 33 rfl) (by decide) ?_
                exact WPe_ireturn (pc := 71) (dd dtX6_rank 35 rfl) rfl rfl ⟨(Nat.le_of_ble_eq_true rfl), (Nat.le_of_ble_eq_true rfl)⟩
              · refine WPe_bipush (pc := 69) (7 : Int32) (dd dtX6_rank 34 rfl) (by decide) ?_
                exact WPe_ireturn (pc := 71) (dd dtX6_rank 35 rfl) rfl rfl ⟨(Nat.le_of_ble_eq_true rfl), (Nat.le_of_ble_eq_true rfl)⟩
            · refine WPe_iconst (pc := 54) (5 : Int32) (dd dtX6_rank 27 rfl) (by decide) ?_
              refine WPe_goto (pc := 55) 71 (dd dtX6_rank 28 rfl) (by decide) ?_
              exact WPe_ireturn (pc := 71) (dd dtX6_rank 35 rfl) rfl rfl ⟨(Nat.le_of_ble_eq_true rfl), (Nat.le_of_ble_eq_true rfl)⟩
          · refine WPe_iconst (pc := 44) (4 : Int32) (dd dtX6_rank 22 rfl) (by decide) ?_
            refine WPe_goto (pc := 45) 71 (dd dtX6_rank 23 rfl) (by decide) ?_
            exact WPe_ireturn (pc := 71) (dd dtX6_rank 35 rfl) rfl rfl ⟨(Nat.le_of_ble_eq_true rfl), (Nat.le_of_ble_eq_true rfl)⟩
theorem okf6_rank (x0 : Int32) (w : Wd) : ∀ z, f6_rank x0 w = some z → OkM mX6_rank 1 0 0 [vI x0] w (rtI z.1) z.2 :=
  OkM.of (rt := rtI) moX6_rank (Nat.le_of_ble_eq_true rfl) (fun X => wpf6_rank X w x0 w)
def tbX6_unwinds : List (Nat × Instr × Nat) := [(0, .aload_n 0, 1), (1, .getfield 117, 3), (4, .ifCond .le 75, 3), (7, .aload_n 0, 1), (8, .getfield 52, 3), (11, .aload_n 0, 1), (12, .getfield 117, 3), (15, .iconst 1, 1), (16, .isub, 1), (17, .iaload, 1), (18, .invokestatic 120, 3), (21, .iload_n 1, 1), (22, .if_icmp .lt 57, 3), (25, .aload_n 0, 1), (26, .dup, 1), (27, .getfield 117, 3), (30, .iconst 1, 1), (31, .isub, 1), (32, .putfield 117, 3), (35, .aload_n 0, 1), (36, .getfield 52, 3), (39, .aload_n 0, 1), (40, .getfield 117, 3), (43, .iaload, 1), (44, .istore_n 2, 1), (45, .aload_n 0, 1), (46, .dup, 1), (47, .getfield 124, 3), (50, .iload_n 2, 1), (51, .bipush 13, 2), (53, .if_icmp .eq 9, 3), (56, .iload_n 2, 1), (57, .bipush 19, 2), (59, .if_icmp .ne 7, 3), (62, .iconst 1, 1), (63, .goto 4, 3), (66, .iconst 0, 1), (67, .isub, 1), (68, .putfield 124, 3), (71, .aload_n 0, 1), (72, .iload_n 2, 1), (73, .invokevirtual 127, 3), (76, .goto (-76), 3), (79, .return_, 1)]
set_option maxRecDepth 20000 in
theorem dtX6_unwinds : ∀ x ∈ tbX6_unwinds, decode cX6_unwinds x.1 = .ok x.2 := by decide +kernel
noncomputable def j6_unwinds_67 (k0 : Nat × Int32 → Wd → Option (Unit × Wd)) (x0 : Nat) (x1 : Int32) (x2 : Int32) (s0 : Int32) (s1 : Int32) (s2 : Nat) (w : Wd) : Option (Unit × Wd) :=
  ck (tg w s2 = 6) (lw (sI w s2 25 (s1 - s0)) fun w13 => (ck (tg w13 x0 = 6) ((f6_puts x0 x2 w13).bind fun z16 => (k0 (x0, x1) z16.2))))
theorem wpj6_unwinds_67 (X : CX) (w0 : Wd) (k0 : Nat × Int32 → Wd → Option (Unit × Wd)) (hk0 : ∀ (v : Nat × Int32) (w : Wd), WPe rtV X (mX6_unwinds, 2, 0, 0, w0) 0 0 (k0 v w) 0 [(0, vR v.1), (1, vI v.2)] [] w) (x0 : Nat) (x1 : Int32) (x2 : Int32) (s0 : Int32) (s1 : Int32) (s2 : Nat) (w : Wd) : WPe rtV X (mX6_unwinds, 2, 0, 0, w0) 0 0 (j6_unwinds_67 k0 x0 x1 x2 s0 s1 s2 w) 67 [(0, vR x0), (1, vI x1), (2, vI x2)] [vI s0, vI s1, vR s2] w := by
  unfold j6_unwinds_67
  refine WPe_isub (pc := 67) (dd dtX6_unwinds 37 rfl) ?_
  refine WPe_ck fun h12 => ?_
  refine WPe_putI (pc := 68) (t := 6) (C := RX6) (T := TX6) 25 (dd dtX6_unwinds 38 rfl) (shE h12) rfl (Nat.le_of_ble_eq_true rfl) (bw_mem4 78 rfl rfl) (Or.inl rfl) rfl rfl rfl ?_
  refine WPe_lw fun w13 e14 => ?_
  refine WPe_aload_n (pc := 71) 0 (dd dtX6_unwinds 39 rfl) rfl ?_
  refine WPe_iload_n (pc := 72) 2 (dd dtX6_unwinds 40 rfl) rfl ?_
  refine WPe_ck fun h15 => ?_
  refine WPe_callV (pc := 73) (rtc := rtV) (Mc := mX6_puts) (d' := 1) (mc' := 0) (ms' := 0) [vI x2] [] rfl (dd dtX6_unwinds 41 rfl) (okf6_puts x0 x2 w13) moX6_puts miX6_puts (bw_mem4 26 rfl rfl) (Or.inl ⟨_, _, _, _, (shE h15), rfl⟩) rfl (Nat.le_of_ble_eq_true rfl) ⟨(Nat.le_of_ble_eq_true rfl), (Nat.le_of_ble_eq_true rfl)⟩ ⟨(Nat.le_of_ble_eq_true rfl), (Nat.le_of_ble_eq_true rfl)⟩ (fun z16 h17 e18 => ?_)
  refine WPe_st (st2 := []) rfl ?_
  refine WPe_goto (pc := 76) 0 (dd dtX6_unwinds 42 rfl) (by decide) ?_
  refine WPe_sub [0, 1] rfl ?_
  exact hk0 (x0, x1) z16.2
noncomputable def j6_unwinds_62 (k0 : Nat × Int32 → Wd → Option (Unit × Wd)) (x0 : Nat) (x1 : Int32) (x2 : Int32) (s0 : Int32) (s1 : Nat) (w : Wd) : Option (Unit × Wd) :=
  j6_unwinds_67 k0 x0 x1 x2 (1 : Int32) s0 s1 w
theorem wpj6_unwinds_62 (X : CX) (w0 : Wd) (k0 : Nat × Int32 → Wd → Option (Unit × Wd)) (hk0 : ∀ (v : Nat × Int32) (w : Wd), WPe rtV X (mX6_unwinds, 2, 0, 0, w0) 0 0 (k0 v w) 0 [(0, vR v.1), (1, vI v.2)] [] w) (x0 : Nat) (x1 : Int32) (x2 : Int32) (s0 : Int32) (s1 : Nat) (w : Wd) : WPe rtV X (mX6_unwinds, 2, 0, 0, w0) 0 0 (j6_unwinds_62 k0 x0 x1 x2 s0 s1 w) 62 [(0, vR x0), (1, vI x1), (2, vI x2)] [vI s0, vR s1] w := by
  unfold j6_unwinds_62
  refine WPe_iconst (pc := 62) (1 : Int32) (dd dtX6_unwinds 34 rfl) (by decide) ?_
  refine WPe_goto (pc := 63) 67 (dd dtX6_unwinds 35 rfl) (by decide) ?_
  refine WPe_sub [0, 1, 2] rfl ?_
  exact wpj6_unwinds_67 X w0 k0 hk0 x0 x1 x2 (1 : Int32) s0 s1 w
noncomputable def b6_unwinds_0 (k0 : Nat × Int32 → Wd → Option (Unit × Wd)) (v : Nat × Int32) (w : Wd) : Option (Unit × Wd) :=
  ck (tg w v.1 = 6) (if (wi w v.1 24) ≤ (0 : Int32) then (some ((), w)) else (ck (tg w (wr w v.1 23) = 20 ∧ vp_in ((wi w v.1 24) - (1 : Int32)) (ln w (wr w v.1 23))) ((f6_rank (wi w (wr w v.1 23) (((wi w v.1 24) - (1 : Int32))).toNatClampNeg) w).bind fun z4 => (if z4.1 < v.2 then (some ((), z4.2)) else (lw (sI z4.2 v.1 24 ((wi z4.2 v.1 24) - (1 : Int32))) fun w8 => (ck (tg w8 (wr w8 v.1 23) = 20 ∧ vp_in (wi w8 v.1 24) (ln w8 (wr w8 v.1 23))) (if (wi w8 (wr w8 v.1 23) ((wi w8 v.1 24)).toNatClampNeg) = (13 : Int32) then (j6_unwinds_62 k0 v.1 v.2 (wi w8 (wr w8 v.1 23) ((wi w8 v.1 24)).toNatClampNeg) (wi w8 v.1 25) v.1 w8) else (if (wi w8 (wr w8 v.1 23) ((wi w8 v.1 24)).toNatClampNeg) = (19 : Int32) then (j6_unwinds_62 k0 v.1 v.2 (wi w8 (wr w8 v.1 23) ((wi w8 v.1 24)).toNatClampNeg) (wi w8 v.1 25) v.1 w8) else (j6_unwinds_67 k0 v.1 v.2 (wi w8 (wr w8 v.1 23) ((wi w8 v.1 24)).toNatClampNeg) (0 : Int32) (wi w8 v.1 25) v.1 w8)))))))))
theorem wpb6_unwinds_0 (X : CX) (w0 : Wd) (k0 : Nat × Int32 → Wd → Option (Unit × Wd)) (hk0 : ∀ (v : Nat × Int32) (w : Wd), WPe rtV X (mX6_unwinds, 2, 0, 0, w0) 0 0 (k0 v w) 0 [(0, vR v.1), (1, vI v.2)] [] w) (v : Nat × Int32) (w : Wd) : WPe rtV X (mX6_unwinds, 2, 0, 0, w0) 0 0 (b6_unwinds_0 k0 v w) 0 [(0, vR v.1), (1, vI v.2)] [] w := by
  unfold b6_unwinds_0
  refine WPe_aload_n (pc := 0) 0 (dd dtX6_unwinds 0 rfl) rfl ?_
  refine WPe_ck fun h1 => ?_
  refine WPe_getI (pc := 1) (t := 6) (C := RX6) (T := TX6) 24 (dd dtX6_unwinds 1 rfl) (shE h1) rfl (Nat.le_of_ble_eq_true rfl) rfl (bw_mem4 77 rfl rfl) ?_
  refine WPe_if_le (pc := 4) 79 (dd dtX6_unwinds 2 rfl) (by decide) (fun h2 => ?_) (fun h2 => ?_)
  · exact WPe_return (pc := 79) (dd dtX6_unwinds 43 rfl) rfl rfl ⟨(Nat.le_of_ble_eq_true rfl), (Nat.le_of_ble_eq_true rfl)⟩
  · refine WPe_aload_n (pc := 7) 0 (dd dtX6_unwinds 3 rfl) rfl ?_
    refine WPe_getR (pc := 8) (t := 6) (C := RX6) (T := TX6) 23 (dd dtX6_unwinds 4 rfl) (shE h1) rfl (Nat.le_of_ble_eq_true rfl) rfl (bw_mem4 76 rfl rfl) ?_
    refine WPe_aload_n (pc := 11) 0 (dd dtX6_unwinds 5 rfl) rfl ?_
    refine WPe_getI (pc := 12) (t := 6) (C := RX6) (T := TX6) 24 (dd dtX6_unwinds 6 rfl) (shE h1) rfl (Nat.le_of_ble_eq_true rfl) rfl (bw_mem4 77 rfl rfl) ?_
    refine WPe_iconst (pc := 15) (1 : Int32) (dd dtX6_unwinds 7 rfl) (by decide) ?_
    refine WPe_isub (pc := 16) (dd dtX6_unwinds 8 rfl) ?_
    refine WPe_ck fun h3 => ?_
    refine WPe_iald (pc := 17) (dd dtX6_unwinds 9 rfl) (shE h3.1) h3.2 ?_
    refine WPe_callS (pc := 18) (rtc := rtI) (Mc := mX6_rank) (d' := 1) (mc' := 0) (ms' := 0) [vI (wi w (wr w v.1 23) (((wi w v.1 24) - (1 : Int32))).toNatClampNeg)] [] rfl (dd dtX6_unwinds 10 rfl) (okf6_rank (wi w (wr w v.1 23) (((wi w v.1 24) - (1 : Int32))).toNatClampNeg) w) moX6_rank msX6_rank (bw_mem4 34 rfl rfl) rfl (Nat.le_of_ble_eq_true rfl) ⟨(Nat.le_of_ble_eq_true rfl), (Nat.le_of_ble_eq_true rfl)⟩ ⟨(Nat.le_of_ble_eq_true rfl), (Nat.le_of_ble_eq_true rfl)⟩ (fun z4 h5 e6 => ?_)
    refine WPe_st (st2 := [vI z4.1]) rfl ?_
    refine WPe_iload_n (pc := 21) 1 (dd dtX6_unwinds 11 rfl) rfl ?_
    refine WPe_icmp_lt (pc := 22) 79 (dd dtX6_unwinds 12 rfl) (by decide) (fun h7 => ?_) (fun h7 => ?_)
    · exact WPe_return (pc := 79) (dd dtX6_unwinds 43 rfl) rfl rfl ⟨(Nat.le_of_ble_eq_true rfl), (Nat.le_of_ble_eq_true rfl)⟩
    · refine WPe_aload_n (pc := 25) 0 (dd dtX6_unwinds 13 rfl) rfl ?_
      refine WPe_dup (pc := 26) (dd dtX6_unwinds 14 rfl) rfl ?_
      refine WPe_getI (pc := 27) (t := 6) (C := RX6) (T := TX6) 24 (dd dtX6_unwinds 15 rfl) (e6.at (shE h1) (by decide)) rfl (Nat.le_of_ble_eq_true rfl) rfl (bw_mem4 77 rfl rfl) ?_
      refine WPe_iconst (pc := 30) (1 : Int32) (dd dtX6_unwinds 16 rfl) (by decide) ?_
      refine WPe_isub (pc := 31) (dd dtX6_unwinds 17 rfl) ?_
      refine WPe_putI (pc := 32) (t := 6) (C := RX6) (T := TX6) 24 (dd dtX6_unwinds 18 rfl) (e6.at (shE h1) (by decide)) rfl (Nat.le_of_ble_eq_true rfl) (bw_mem4 77 rfl rfl) (Or.inl rfl) rfl rfl rfl ?_
      refine WPe_lw fun w8 e9 => ?_
      refine WPe_aload_n (pc := 35) 0 (dd dtX6_unwinds 19 rfl) rfl ?_
      refine WPe_getR (pc := 36) (t := 6) (C := RX6) (T := TX6) 23 (dd dtX6_unwinds 20 rfl) (shI e9 (e6.at (shE h1) (by decide))) rfl (Nat.le_of_ble_eq_true rfl) rfl (bw_mem4 76 rfl rfl) ?_
      refine WPe_aload_n (pc := 39) 0 (dd dtX6_unwinds 21 rfl) rfl ?_
      refine WPe_getI (pc := 40) (t := 6) (C := RX6) (T := TX6) 24 (dd dtX6_unwinds 22 rfl) (shI e9 (e6.at (shE h1) (by decide))) rfl (Nat.le_of_ble_eq_true rfl) rfl (bw_mem4 77 rfl rfl) ?_
      refine WPe_ck fun h10 => ?_
      refine WPe_iald (pc := 43) (dd dtX6_unwinds 23 rfl) (shE h10.1) h10.2 ?_
      refine WPe_istore_n (pc := 44) (ls' := [(2, vI (wi w8 (wr w8 v.1 23) ((wi w8 v.1 24)).toNatClampNeg)), (0, vR v.1), (1, vI v.2)]) (dd dtX6_unwinds 24 rfl) (Nat.le_of_ble_eq_true rfl) rfl ?_
      refine WPe_aload_n (pc := 45) 1 (dd dtX6_unwinds 25 rfl) rfl ?_
      refine WPe_dup (pc := 46) (dd dtX6_unwinds 26 rfl) rfl ?_
      refine WPe_getI (pc := 47) (t := 6) (C := RX6) (T := TX6) 25 (dd dtX6_unwinds 27 rfl) (shI e9 (e6.at (shE h1) (by decide))) rfl (Nat.le_of_ble_eq_true rfl) rfl (bw_mem4 78 rfl rfl) ?_
      refine WPe_iload_n (pc := 50) 0 (dd dtX6_unwinds 28 rfl) rfl ?_
      refine WPe_bipush (pc := 51) (13 : Int32) (dd dtX6_unwinds 29 rfl) (by decide) ?_
      refine WPe_icmp_eq (pc := 53) 62 (dd dtX6_unwinds 30 rfl) (by decide) (fun h11 => ?_) (fun h11 => ?_)
      · refine WPe_sub [1, 2, 0] rfl ?_
        exact wpj6_unwinds_62 X w0 k0 hk0 v.1 v.2 (wi w8 (wr w8 v.1 23) ((wi w8 v.1 24)).toNatClampNeg) (wi w8 v.1 25) v.1 w8
      · refine WPe_iload_n (pc := 56) 0 (dd dtX6_unwinds 31 rfl) rfl ?_
        refine WPe_bipush (pc := 57) (19 : Int32) (dd dtX6_unwinds 32 rfl) (by decide) ?_
        refine WPe_icmp_ne (pc := 59) 66 (dd dtX6_unwinds 33 rfl) (by decide) (fun h19 => ?_) (fun h19 => ?_)
        · refine WPe_sub [1, 2, 0] rfl ?_
          exact wpj6_unwinds_62 X w0 k0 hk0 v.1 v.2 (wi w8 (wr w8 v.1 23) ((wi w8 v.1 24)).toNatClampNeg) (wi w8 v.1 25) v.1 w8
        · refine WPe_iconst (pc := 66) (0 : Int32) (dd dtX6_unwinds 36 rfl) (by decide) ?_
          refine WPe_sub [1, 2, 0] rfl ?_
          exact wpj6_unwinds_67 X w0 k0 hk0 v.1 v.2 (wi w8 (wr w8 v.1 23) ((wi w8 v.1 24)).toNatClampNeg) (0 : Int32) (wi w8 v.1 25) v.1 w8
theorem wplb6_unwinds_0 (X : CX) (w0 : Wd)  : ∀ (n9 : Nat) (v : Nat × Int32) (w : Wd), WPe rtV X (mX6_unwinds, 2, 0, 0, w0) 0 0 (loopF (b6_unwinds_0 ) n9 v w) 0 [(0, vR v.1), (1, vI v.2)] [] w :=
  WPe_loop (rt := rtV) (X := X) (M := (mX6_unwinds, 2, 0, 0, w0)) (fun v : Nat × Int32 => [(0, vR v.1), (1, vI v.2)]) (fun k hk v w => wpb6_unwinds_0 X w0  k hk v w)
noncomputable def f6_unwinds (x0 : Nat) (x1 : Int32) (w : Wd) : Option (Unit × Wd) :=
  loopF (b6_unwinds_0) FU (x0, x1) w
theorem wpf6_unwinds (X : CX) (w0 : Wd) (x0 : Nat) (x1 : Int32) (w : Wd) : WPe rtV X (mX6_unwinds, 2, 0, 0, w0) 0 0 (f6_unwinds x0 x1 w) 0 [(0, vR x0), (1, vI x1)] [] w := by
  unfold f6_unwinds
  refine WPe_sub [0, 1] rfl ?_
  exact wplb6_unwinds_0 X w0  FU _ _
theorem okf6_unwinds (x0 : Nat) (x1 : Int32) (w : Wd) : ∀ z, f6_unwinds x0 x1 w = some z → OkM mX6_unwinds 2 0 0 [vR x0, vI x1] w (rtV z.1) z.2 :=
  OkM.of (rt := rtV) moX6_unwinds (Nat.le_of_ble_eq_true rfl) (fun X => wpf6_unwinds X w x0 x1 w)
def tbX6_holds : List (Nat × Instr × Nat) := [(0, .aload_n 0, 1), (1, .getfield 52, 3), (4, .aload_n 0, 1), (5, .getfield 117, 3), (8, .iload_n 1, 1), (9, .iastore, 1), (10, .aload_n 0, 1), (11, .dup, 1), (12, .getfield 117, 3), (15, .iconst 1, 1), (16, .iadd, 1), (17, .putfield 117, 3), (20, .return_, 1)]
set_option maxRecDepth 20000 in
theorem dtX6_holds : ∀ x ∈ tbX6_holds, decode cX6_holds x.1 = .ok x.2 := by decide +kernel
noncomputable def f6_holds (x0 : Nat) (x1 : Int32) (w : Wd) : Option (Unit × Wd) :=
  ck (tg w x0 = 6) (ck (tg w (wr w x0 23) = 20 ∧ vp_in (wi w x0 24) (ln w (wr w x0 23))) (lw (sI w (wr w x0 23) ((wi w x0 24)).toNatClampNeg x1) fun w3 => (lw (sI w3 x0 24 ((wi w3 x0 24) + (1 : Int32))) fun w5 => (some ((), w5)))))
theorem wpf6_holds (X : CX) (w0 : Wd) (x0 : Nat) (x1 : Int32) (w : Wd) : WPe rtV X (mX6_holds, 1, 0, 0, w0) 0 0 (f6_holds x0 x1 w) 0 [(0, vR x0), (1, vI x1)] [] w := by
  unfold f6_holds
  refine WPe_aload_n (pc := 0) 0 (dd dtX6_holds 0 rfl) rfl ?_
  refine WPe_ck fun h1 => ?_
  refine WPe_getR (pc := 1) (t := 6) (C := RX6) (T := TX6) 23 (dd dtX6_holds 1 rfl) (shE h1) rfl (Nat.le_of_ble_eq_true rfl) rfl (bw_mem4 76 rfl rfl) ?_
  refine WPe_aload_n (pc := 4) 0 (dd dtX6_holds 2 rfl) rfl ?_
  refine WPe_getI (pc := 5) (t := 6) (C := RX6) (T := TX6) 24 (dd dtX6_holds 3 rfl) (shE h1) rfl (Nat.le_of_ble_eq_true rfl) rfl (bw_mem4 77 rfl rfl) ?_
  refine WPe_iload_n (pc := 8) 1 (dd dtX6_holds 4 rfl) rfl ?_
  refine WPe_ck fun h2 => ?_
  refine WPe_iast (pc := 9) (dd dtX6_holds 5 rfl) (shE h2.1) h2.2 ?_
  refine WPe_lw fun w3 e4 => ?_
  refine WPe_aload_n (pc := 10) 0 (dd dtX6_holds 6 rfl) rfl ?_
  refine WPe_dup (pc := 11) (dd dtX6_holds 7 rfl) rfl ?_
  refine WPe_getI (pc := 12) (t := 6) (C := RX6) (T := TX6) 24 (dd dtX6_holds 8 rfl) (shI e4 (shE h1)) rfl (Nat.le_of_ble_eq_true rfl) rfl (bw_mem4 77 rfl rfl) ?_
  refine WPe_iconst (pc := 15) (1 : Int32) (dd dtX6_holds 9 rfl) (by decide) ?_
  refine WPe_iadd (pc := 16) (dd dtX6_holds 10 rfl) ?_
  refine WPe_putI (pc := 17) (t := 6) (C := RX6) (T := TX6) 24 (dd dtX6_holds 11 rfl) (shI e4 (shE h1)) rfl (Nat.le_of_ble_eq_true rfl) (bw_mem4 77 rfl rfl) (Or.inl rfl) rfl rfl rfl ?_
  refine WPe_lw fun w5 e6 => ?_
  exact WPe_return (pc := 20) (dd dtX6_holds 12 rfl) rfl rfl ⟨(Nat.le_of_ble_eq_true rfl), (Nat.le_of_ble_eq_true rfl)⟩
theorem okf6_holds (x0 : Nat) (x1 : Int32) (w : Wd) : ∀ z, f6_holds x0 x1 w = some z → OkM mX6_holds 1 0 0 [vR x0, vI x1] w (rtV z.1) z.2 :=
  OkM.of (rt := rtV) moX6_holds (Nat.le_of_ble_eq_true rfl) (fun X => wpf6_holds X w x0 x1 w)
def tbX6_opensOne : List (Nat × Instr × Nat) := [(0, .aload_n 0, 1), (1, .getfield 124, 3), (4, .iconst 5, 1), (5, .if_icmp .ne 5, 3), (8, .iconst 0, 1), (9, .ireturn, 1), (10, .aload_n 0, 1), (11, .dup, 1), (12, .getfield 124, 3), (15, .iconst 1, 1), (16, .iadd, 1), (17, .putfield 124, 3), (20, .aload_n 0, 1), (21, .iload_n 1, 1), (22, .invokevirtual 131, 3), (25, .iconst 1, 1), (26, .ireturn, 1)]
set_option maxRecDepth 20000 in
theorem dtX6_opensOne : ∀ x ∈ tbX6_opensOne, decode cX6_opensOne x.1 = .ok x.2 := by decide +kernel
noncomputable def f6_opensOne (x0 : Nat) (x1 : Int32) (w : Wd) : Option (Int32 × Wd) :=
  ck (tg w x0 = 6) (if (wi w x0 25) = (5 : Int32) then (some ((0 : Int32), w)) else (lw (sI w x0 25 ((wi w x0 25) + (1 : Int32))) fun w3 => ((f6_holds x0 x1 w3).bind fun z5 => (some ((1 : Int32), z5.2)))))
theorem wpf6_opensOne (X : CX) (w0 : Wd) (x0 : Nat) (x1 : Int32) (w : Wd) : WPe rtI X (mX6_opensOne, 2, 0, 0, w0) 0 0 (f6_opensOne x0 x1 w) 0 [(0, vR x0), (1, vI x1)] [] w := by
  unfold f6_opensOne
  refine WPe_aload_n (pc := 0) 0 (dd dtX6_opensOne 0 rfl) rfl ?_
  refine WPe_ck fun h1 => ?_
  refine WPe_getI (pc := 1) (t := 6) (C := RX6) (T := TX6) 25 (dd dtX6_opensOne 1 rfl) (shE h1) rfl (Nat.le_of_ble_eq_true rfl) rfl (bw_mem4 78 rfl rfl) ?_
  refine WPe_iconst (pc := 4) (5 : Int32) (dd dtX6_opensOne 2 rfl) (by decide) ?_
  refine WPe_icmp_ne (pc := 5) 10 (dd dtX6_opensOne 3 rfl) (by decide) (fun h2 => ?_) (fun h2 => ?_)
  · refine WPe_iconst (pc := 8) (0 : Int32) (dd dtX6_opensOne 4 rfl) (by decide) ?_
    exact WPe_zreturn (pc := 9) (ty := .boolean) (dd dtX6_opensOne 5 rfl) rfl rfl rfl ⟨(Nat.le_of_ble_eq_true rfl), (Nat.le_of_ble_eq_true rfl)⟩
  · refine WPe_aload_n (pc := 10) 0 (dd dtX6_opensOne 6 rfl) rfl ?_
    refine WPe_dup (pc := 11) (dd dtX6_opensOne 7 rfl) rfl ?_
    refine WPe_getI (pc := 12) (t := 6) (C := RX6) (T := TX6) 25 (dd dtX6_opensOne 8 rfl) (shE h1) rfl (Nat.le_of_ble_eq_true rfl) rfl (bw_mem4 78 rfl rfl) ?_
    refine WPe_iconst (pc := 15) (1 : Int32) (dd dtX6_opensOne 9 rfl) (by decide) ?_
    refine WPe_iadd (pc := 16) (dd dtX6_opensOne 10 rfl) ?_
    refine WPe_putI (pc := 17) (t := 6) (C := RX6) (T := TX6) 25 (dd dtX6_opensOne 11 rfl) (shE h1) rfl (Nat.le_of_ble_eq_true rfl) (bw_mem4 78 rfl rfl) (Or.inl rfl) rfl rfl rfl ?_
    refine WPe_lw fun w3 e4 => ?_
    refine WPe_aload_n (pc := 20) 0 (dd dtX6_opensOne 12 rfl) rfl ?_
    refine WPe_iload_n (pc := 21) 1 (dd dtX6_opensOne 13 rfl) rfl ?_
    refine WPe_callV (pc := 22) (rtc := rtV) (Mc := mX6_holds) (d' := 1) (mc' := 0) (ms' := 0) [vI x1] [] rfl (dd dtX6_opensOne 14 rfl) (okf6_holds x0 x1 w3) moX6_holds miX6_holds (bw_mem4 41 rfl rfl) (Or.inl ⟨_, _, _, _, (shI e4 (shE h1)), rfl⟩) rfl (Nat.le_of_ble_eq_true rfl) ⟨(Nat.le_of_ble_eq_true rfl), (Nat.le_of_ble_eq_true rfl)⟩ ⟨(Nat.le_of_ble_eq_true rfl), (Nat.le_of_ble_eq_true rfl)⟩ (fun z5 h6 e7 => ?_)
    refine WPe_st (st2 := []) rfl ?_
    refine WPe_iconst (pc := 25) (1 : Int32) (dd dtX6_opensOne 15 rfl) (by decide) ?_
    exact WPe_zreturn (pc := 26) (ty := .boolean) (dd dtX6_opensOne 16 rfl) rfl rfl rfl ⟨(Nat.le_of_ble_eq_true rfl), (Nat.le_of_ble_eq_true rfl)⟩
theorem okf6_opensOne (x0 : Nat) (x1 : Int32) (w : Wd) : ∀ z, f6_opensOne x0 x1 w = some z → OkM mX6_opensOne 2 0 0 [vR x0, vI x1] w (rtI z.1) z.2 :=
  OkM.of (rt := rtI) moX6_opensOne (Nat.le_of_ble_eq_true rfl) (fun X => wpf6_opensOne X w x0 x1 w)
def tbX6_signOf : List (Nat × Instr × Nat) := [(0, .aload_n 0, 1), (1, .getfield 104, 3), (4, .iconst 4, 1), (5, .if_icmp .ne 8, 3), (8, .bipush 11, 2), (10, .goto 87, 3), (13, .aload_n 0, 1), (14, .getfield 104, 3), (17, .iconst 5, 1), (18, .if_icmp .ne 8, 3), (21, .bipush 12, 2), (23, .goto 74, 3), (26, .aload_n 0, 1), (27, .getfield 104, 3), (30, .bipush 60, 2), (32, .if_icmp .ne 8, 3), (35, .bipush 14, 2), (37, .goto 60, 3), (40, .aload_n 0, 1), (41, .getfield 104, 3), (44, .bipush 61, 2), (46, .if_icmp .ne 8, 3), (49, .bipush 15, 2), (51, .goto 46, 3), (54, .aload_n 0, 1), (55, .getfield 104, 3), (58, .bipush 43, 2), (60, .if_icmp .ne 8, 3), (63, .bipush 16, 2), (65, .goto 32, 3), (68, .aload_n 0, 1), (69, .getfield 104, 3), (72, .bipush 45, 2), (74, .if_icmp .ne 8, 3), (77, .bipush 17, 2), (79, .goto 18, 3), (82, .aload_n 0, 1), (83, .getfield 104, 3), (86, .bipush 42, 2), (88, .if_icmp .ne 8, 3), (91, .bipush 18, 2), (93, .goto 4, 3), (96, .iconst (-1), 1), (97, .ireturn, 1)]
set_option maxRecDepth 20000 in
theorem dtX6_signOf : ∀ x ∈ tbX6_signOf, decode cX6_signOf x.1 = .ok x.2 := by decide +kernel
noncomputable def f6_signOf (x0 : Nat) (w : Wd) : Option (Int32 × Wd) :=
  ck (tg w x0 = 6) (if (wi w x0 20) = (4 : Int32) then (some ((11 : Int32), w)) else (if (wi w x0 20) = (5 : Int32) then (some ((12 : Int32), w)) else (if (wi w x0 20) = (60 : Int32) then (some ((14 : Int32), w)) else (if (wi w x0 20) = (61 : Int32) then (some ((15 : Int32), w)) else (if (wi w x0 20) = (43 : Int32) then (some ((16 : Int32), w)) else (if (wi w x0 20) = (45 : Int32) then (some ((17 : Int32), w)) else (if (wi w x0 20) = (42 : Int32) then (some ((18 : Int32), w)) else (some ((-1 : Int32), w)))))))))
theorem wpf6_signOf (X : CX) (w0 : Wd) (x0 : Nat) (w : Wd) : WPe rtI X (mX6_signOf, 1, 0, 0, w0) 0 0 (f6_signOf x0 w) 0 [(0, vR x0)] [] w := by
  unfold f6_signOf
  refine WPe_aload_n (pc := 0) 0 (dd dtX6_signOf 0 rfl) rfl ?_
  refine WPe_ck fun h1 => ?_
  refine WPe_getI (pc := 1) (t := 6) (C := RX6) (T := TX6) 20 (dd dtX6_signOf 1 rfl) (shE h1) rfl (Nat.le_of_ble_eq_true rfl) rfl (bw_mem4 73 rfl rfl) ?_
  refine WPe_iconst (pc := 4) (4 : Int32) (dd dtX6_signOf 2 rfl) (by decide) ?_
  refine WPe_icmp_ne (pc := 5) 13 (dd dtX6_signOf 3 rfl) (by decide) (fun h2 => ?_) (fun h2 => ?_)
  · refine WPe_bipush (pc := 8) (11 : Int32) (dd dtX6_signOf 4 rfl) (by decide) ?_
    refine WPe_goto (pc := 10) 97 (dd dtX6_signOf 5 rfl) (by decide) ?_
    exact WPe_ireturn (pc := 97) (dd dtX6_signOf 43 rfl) rfl rfl ⟨(Nat.le_of_ble_eq_true rfl), (Nat.le_of_ble_eq_true rfl)⟩
  · refine WPe_aload_n (pc := 13) 0 (dd dtX6_signOf 6 rfl) rfl ?_
    refine WPe_getI (pc := 14) (t := 6) (C := RX6) (T := TX6) 20 (dd dtX6_signOf 7 rfl) (shE h1) rfl (Nat.le_of_ble_eq_true rfl) rfl (bw_mem4 73 rfl rfl) ?_
    refine WPe_iconst (pc := 17) (5 : Int32) (dd dtX6_signOf 8 rfl) (by decide) ?_
    refine WPe_icmp_ne (pc := 18) 26 (dd dtX6_signOf 9 rfl) (by decide) (fun h3 => ?_) (fun h3 => ?_)
    · refine WPe_bipush (pc := 21) (12 : Int32) (dd dtX6_signOf 10 rfl) (by decide) ?_
      refine WPe_goto (pc := 23) 97 (dd dtX6_signOf 11 rfl) (by decide) ?_
      exact WPe_ireturn (pc := 97) (dd dtX6_signOf 43 rfl) rfl rfl ⟨(Nat.le_of_ble_eq_true rfl), (Nat.le_of_ble_eq_true rfl)⟩
    · refine WPe_aload_n (pc := 26) 0 (dd dtX6_signOf 12 rfl) rfl ?_
      refine WPe_getI (pc := 27) (t := 6) (C := RX6) (T := TX6) 20 (dd dtX6_signOf 13 rfl) (shE h1) rfl (Nat.le_of_ble_eq_true rfl) rfl (bw_mem4 73 rfl rfl) ?_
      refine WPe_bipush (pc := 30) (60 : Int32) (dd dtX6_signOf 14 rfl) (by decide) ?_
      refine WPe_icmp_ne (pc := 32) 40 (dd dtX6_signOf 15 rfl) (by decide) (fun h4 => ?_) (fun h4 => ?_)
      · refine WPe_bipush (pc := 35) (14 : Int32) (dd dtX6_signOf 16 rfl) (by decide) ?_
        refine WPe_goto (pc := 37) 97 (dd dtX6_signOf 17 rfl) (by decide) ?_
        exact WPe_ireturn (pc := 97) (dd dtX6_signOf 43 rfl) rfl rfl ⟨(Nat.le_of_ble_eq_true rfl), (Nat.le_of_ble_eq_true rfl)⟩
      · refine WPe_aload_n (pc := 40) 0 (dd dtX6_signOf 18 rfl) rfl ?_
        refine WPe_getI (pc := 41) (t := 6) (C := RX6) (T := TX6) 20 (dd dtX6_signOf 19 rfl) (shE h1) rfl (Nat.le_of_ble_eq_true rfl) rfl (bw_mem4 73 rfl rfl) ?_
        refine WPe_bipush (pc := 44) (61 : Int32) (dd dtX6_signOf 20 rfl) (by decide) ?_
        refine WPe_icmp_ne (pc := 46) 54 (dd dtX6_signOf 21 rfl) (by decide) (fun h5 => ?_) (fun h5 => ?_)
        · refine WPe_bipush (pc := 49) (15 : Int32) (dd dtX6_signOf 22 rfl) (by decide) ?_
          refine WPe_goto (pc := 51) 97 (dd dtX6_signOf 23 rfl) (by decide) ?_
          exact WPe_ireturn (pc := 97) (dd dtX6_signOf 43 rfl) rfl rfl ⟨(Nat.le_of_ble_eq_true rfl), (Nat.le_of_ble_eq_true rfl)⟩
        · refine WPe_aload_n (pc := 54) 0 (dd dtX6_signOf 24 rfl) rfl ?_
          refine WPe_getI (pc := 55) (t := 6) (C := RX6) (T := TX6) 20 (dd dtX6_signOf 25 rfl) (shE h1) rfl (Nat.le_of_ble_eq_true rfl) rfl (bw_mem4 73 rfl rfl) ?_
          refine WPe_bipush (pc := 58) (43 : Int32) (dd dtX6_signOf 26 rfl) (by decide) ?_
          refine WPe_icmp_ne (pc := 60) 68 (dd dtX6_signOf 27 rfl) (by decide) (fun h6 => ?_) (fun h6 => ?_)
          · refine WPe_bipush (pc := 63) (16 : Int32) (dd dtX6_signOf 28 rfl) (by decide) ?_
            refine WPe_goto (pc := 65) 97 (dd dtX6_signOf 29 rfl) (by decide) ?_
            exact WPe_ireturn (pc := 97) (dd dtX6_signOf 43 rfl) rfl rfl ⟨(Nat.le_of_ble_eq_true rfl), (Nat.le_of_ble_eq_true rfl)⟩
          · refine WPe_aload_n (pc := 68) 0 (dd dtX6_signOf 30 rfl) rfl ?_
            refine WPe_getI (pc := 69) (t := 6) (C := RX6) (T := TX6) 20 (dd dtX6_signOf 31 rfl) (shE h1) rfl (Nat.le_of_ble_eq_true rfl) rfl (bw_mem4 73 rfl rfl) ?_
            refine WPe_bipush (pc := 72) (45 : Int32) (dd dtX6_signOf 32 rfl) (by decide) ?_
            refine WPe_icmp_ne (pc := 74) 82 (dd dtX6_signOf 33 rfl) (by decide) (fun h7 => ?_) (fun h7 => ?_)
            · refine WPe_bipush (pc := 77) (17 : Int32) (dd dtX6_signOf 34 rfl) (by decide) ?_
              refine WPe_goto (pc := 79) 97 (dd dtX6_signOf 35 rfl) (by decide) ?_
              exact WPe_ireturn (pc := 97) (dd dtX6_signOf 43 rfl) rfl rfl ⟨(Nat.le_of_ble_eq_true rfl), (Nat.le_of_ble_eq_true rfl)⟩
            · refine WPe_aload_n (pc := 82) 0 (dd dtX6_signOf 36 rfl) rfl ?_
              refine WPe_getI (pc := 83) (t := 6) (C := RX6) (T := TX6) 20 (dd dtX6_signOf 37 rfl) (shE h1) rfl (Nat.le_of_ble_eq_true rfl) rfl (bw_mem4 73 rfl rfl) ?_
              refine WPe_bipush (pc := 86) (42 : Int32) (dd dtX6_signOf 38 rfl) (by decide) ?_
              refine WPe_icmp_ne (pc := 88) 96 (dd dtX6_signOf 39 rfl) (by decide) (fun h8 => ?_) (fun h8 => ?_)
              · refine WPe_bipush (pc := 91) (18 : Int32) (dd dtX6_signOf 40 rfl) (by decide) ?_
                refine WPe_goto (pc := 93) 97 (dd dtX6_signOf 41 rfl) (by decide) ?_
                exact WPe_ireturn (pc := 97) (dd dtX6_signOf 43 rfl) rfl rfl ⟨(Nat.le_of_ble_eq_true rfl), (Nat.le_of_ble_eq_true rfl)⟩
              · refine WPe_iconst (pc := 96) (-1 : Int32) (dd dtX6_signOf 42 rfl) (by decide) ?_
                exact WPe_ireturn (pc := 97) (dd dtX6_signOf 43 rfl) rfl rfl ⟨(Nat.le_of_ble_eq_true rfl), (Nat.le_of_ble_eq_true rfl)⟩
theorem okf6_signOf (x0 : Nat) (w : Wd) : ∀ z, f6_signOf x0 w = some z → OkM mX6_signOf 1 0 0 [vR x0] w (rtI z.1) z.2 :=
  OkM.of (rt := rtI) moX6_signOf (Nat.le_of_ble_eq_true rfl) (fun X => wpf6_signOf X w x0 w)
def tbX6_between : List (Nat × Instr × Nat) := [(0, .aload_n 0, 1), (1, .iload_n 1, 1), (2, .invokestatic 120, 3), (5, .iconst 4, 1), (6, .if_icmp .ne 7, 3), (9, .iconst 5, 1), (10, .goto 7, 3), (13, .iload_n 1, 1), (14, .invokestatic 120, 3), (17, .invokevirtual 134, 3), (20, .iload_n 1, 1), (21, .invokestatic 120, 3), (24, .iconst 4, 1), (25, .if_icmp .ne 30, 3), (28, .aload_n 0, 1), (29, .getfield 117, 3), (32, .ifCond .le 23, 3), (35, .aload_n 0, 1), (36, .getfield 52, 3), (39, .aload_n 0, 1), (40, .getfield 117, 3), (43, .iconst 1, 1), (44, .isub, 1), (45, .iaload, 1), (46, .invokestatic 120, 3), (49, .iconst 4, 1), (50, .if_icmp .ne 5, 3), (53, .iconst 0, 1), (54, .ireturn, 1), (55, .aload_n 0, 1), (56, .iload_n 1, 1), (57, .invokevirtual 131, 3), (60, .iconst 1, 1), (61, .ireturn, 1)]
set_option maxRecDepth 20000 in
theorem dtX6_between : ∀ x ∈ tbX6_between, decode cX6_between x.1 = .ok x.2 := by decide +kernel
noncomputable def j6_between_55  (x0 : Nat) (x1 : Int32) (w : Wd) : Option (Int32 × Wd) :=
  ck (tg w x0 = 6) ((f6_holds x0 x1 w).bind fun z16 => (some ((1 : Int32), z16.2)))
theorem wpj6_between_55 (X : CX) (w0 : Wd)  (x0 : Nat) (x1 : Int32) (w : Wd) : WPe rtI X (mX6_between, 3, 0, 0, w0) 0 0 (j6_between_55  x0 x1 w) 55 [(0, vR x0), (1, vI x1)] [] w := by
  unfold j6_between_55
  refine WPe_aload_n (pc := 55) 0 (dd dtX6_between 29 rfl) rfl ?_
  refine WPe_iload_n (pc := 56) 1 (dd dtX6_between 30 rfl) rfl ?_
  refine WPe_ck fun h15 => ?_
  refine WPe_callV (pc := 57) (rtc := rtV) (Mc := mX6_holds) (d' := 1) (mc' := 0) (ms' := 0) [vI x1] [] rfl (dd dtX6_between 31 rfl) (okf6_holds x0 x1 w) moX6_holds miX6_holds (bw_mem4 41 rfl rfl) (Or.inl ⟨_, _, _, _, (shE h15), rfl⟩) rfl (Nat.le_of_ble_eq_true rfl) ⟨(Nat.le_of_ble_eq_true rfl), (Nat.le_of_ble_eq_true rfl)⟩ ⟨(Nat.le_of_ble_eq_true rfl), (Nat.le_of_ble_eq_true rfl)⟩ (fun z16 h17 e18 => ?_)
  refine WPe_st (st2 := []) rfl ?_
  refine WPe_iconst (pc := 60) (1 : Int32) (dd dtX6_between 32 rfl) (by decide) ?_
  exact WPe_zreturn (pc := 61) (ty := .boolean) (dd dtX6_between 33 rfl) rfl rfl rfl ⟨(Nat.le_of_ble_eq_true rfl), (Nat.le_of_ble_eq_true rfl)⟩
noncomputable def j6_between_17  (x0 : Nat) (x1 : Int32) (s0 : Int32) (s1 : Nat) (w : Wd) : Option (Int32 × Wd) :=
  ck (tg w s1 = 6) ((f6_unwinds s1 s0 w).bind fun z6 => ((f6_rank x1 z6.2).bind fun z9 => (if z9.1 = (4 : Int32) then (ck (tg z9.2 x0 = 6) (if (wi z9.2 x0 24) ≤ (0 : Int32) then (j6_between_55 x0 x1 z9.2) else (ck (tg z9.2 (wr z9.2 x0 23) = 20 ∧ vp_in ((wi z9.2 x0 24) - (1 : Int32)) (ln z9.2 (wr z9.2 x0 23))) ((f6_rank (wi z9.2 (wr z9.2 x0 23) (((wi z9.2 x0 24) - (1 : Int32))).toNatClampNeg) z9.2).bind fun z20 => (if z20.1 = (4 : Int32) then (some ((0 : Int32), z20.2)) else (j6_between_55 x0 x1 z20.2)))))) else (j6_between_55 x0 x1 z9.2))))
theorem wpj6_between_17 (X : CX) (w0 : Wd)  (x0 : Nat) (x1 : Int32) (s0 : Int32) (s1 : Nat) (w : Wd) : WPe rtI X (mX6_between, 3, 0, 0, w0) 0 0 (j6_between_17  x0 x1 s0 s1 w) 17 [(0, vR x0), (1, vI x1)] [vI s0, vR s1] w := by
  unfold j6_between_17
  refine WPe_ck fun h5 => ?_
  refine WPe_callV (pc := 17) (rtc := rtV) (Mc := mX6_unwinds) (d' := 2) (mc' := 0) (ms' := 0) [vI s0] [] rfl (dd dtX6_between 9 rfl) (okf6_unwinds s1 s0 w) moX6_unwinds miX6_unwinds (bw_mem4 30 rfl rfl) (Or.inl ⟨_, _, _, _, (shE h5), rfl⟩) rfl (Nat.le_of_ble_eq_true rfl) ⟨(Nat.le_of_ble_eq_true rfl), (Nat.le_of_ble_eq_true rfl)⟩ ⟨(Nat.le_of_ble_eq_true rfl), (Nat.le_of_ble_eq_true rfl)⟩ (fun z6 h7 e8 => ?_)
  refine WPe_st (st2 := []) rfl ?_
  refine WPe_iload_n (pc := 20) 1 (dd dtX6_between 10 rfl) rfl ?_
  refine WPe_callS (pc := 21) (rtc := rtI) (Mc := mX6_rank) (d' := 1) (mc' := 0) (ms' := 0) [vI x1] [] rfl (dd dtX6_between 11 rfl) (okf6_rank x1 z6.2) moX6_rank msX6_rank (bw_mem4 34 rfl rfl) rfl (Nat.le_of_ble_eq_true rfl) ⟨(Nat.le_of_ble_eq_true rfl), (Nat.le_of_ble_eq_true rfl)⟩ ⟨(Nat.le_of_ble_eq_true rfl), (Nat.le_of_ble_eq_true rfl)⟩ (fun z9 h10 e11 => ?_)
  refine WPe_st (st2 := [vI z9.1]) rfl ?_
  refine WPe_iconst (pc := 24) (4 : Int32) (dd dtX6_between 12 rfl) (by decide) ?_
  refine WPe_icmp_ne (pc := 25) 55 (dd dtX6_between 13 rfl) (by decide) (fun h12 => ?_) (fun h12 => ?_)
  · refine WPe_aload_n (pc := 28) 0 (dd dtX6_between 14 rfl) rfl ?_
    refine WPe_ck fun h13 => ?_
    refine WPe_getI (pc := 29) (t := 6) (C := RX6) (T := TX6) 24 (dd dtX6_between 15 rfl) (shE h13) rfl (Nat.le_of_ble_eq_true rfl) rfl (bw_mem4 77 rfl rfl) ?_
    refine WPe_if_le (pc := 32) 55 (dd dtX6_between 16 rfl) (by decide) (fun h14 => ?_) (fun h14 => ?_)
    · refine WPe_sub [0, 1] rfl ?_
      exact wpj6_between_55 X w0  x0 x1 z9.2
    · refine WPe_aload_n (pc := 35) 0 (dd dtX6_between 17 rfl) rfl ?_
      refine WPe_getR (pc := 36) (t := 6) (C := RX6) (T := TX6) 23 (dd dtX6_between 18 rfl) (shE h13) rfl (Nat.le_of_ble_eq_true rfl) rfl (bw_mem4 76 rfl rfl) ?_
      refine WPe_aload_n (pc := 39) 0 (dd dtX6_between 19 rfl) rfl ?_
      refine WPe_getI (pc := 40) (t := 6) (C := RX6) (T := TX6) 24 (dd dtX6_between 20 rfl) (shE h13) rfl (Nat.le_of_ble_eq_true rfl) rfl (bw_mem4 77 rfl rfl) ?_
      refine WPe_iconst (pc := 43) (1 : Int32) (dd dtX6_between 21 rfl) (by decide) ?_
      refine WPe_isub (pc := 44) (dd dtX6_between 22 rfl) ?_
      refine WPe_ck fun h19 => ?_
      refine WPe_iald (pc := 45) (dd dtX6_between 23 rfl) (shE h19.1) h19.2 ?_
      refine WPe_callS (pc := 46) (rtc := rtI) (Mc := mX6_rank) (d' := 1) (mc' := 0) (ms' := 0) [vI (wi z9.2 (wr z9.2 x0 23) (((wi z9.2 x0 24) - (1 : Int32))).toNatClampNeg)] [] rfl (dd dtX6_between 24 rfl) (okf6_rank (wi z9.2 (wr z9.2 x0 23) (((wi z9.2 x0 24) - (1 : Int32))).toNatClampNeg) z9.2) moX6_rank msX6_rank (bw_mem4 34 rfl rfl) rfl (Nat.le_of_ble_eq_true rfl) ⟨(Nat.le_of_ble_eq_true rfl), (Nat.le_of_ble_eq_true rfl)⟩ ⟨(Nat.le_of_ble_eq_true rfl), (Nat.le_of_ble_eq_true rfl)⟩ (fun z20 h21 e22 => ?_)
      refine WPe_st (st2 := [vI z20.1]) rfl ?_
      refine WPe_iconst (pc := 49) (4 : Int32) (dd dtX6_between 25 rfl) (by decide) ?_
      refine WPe_icmp_ne (pc := 50) 55 (dd dtX6_between 26 rfl) (by decide) (fun h23 => ?_) (fun h23 => ?_)
      · refine WPe_iconst (pc := 53) (0 : Int32) (dd dtX6_between 27 rfl) (by decide) ?_
        exact WPe_zreturn (pc := 54) (ty := .boolean) (dd dtX6_between 28 rfl) rfl rfl rfl ⟨(Nat.le_of_ble_eq_true rfl), (Nat.le_of_ble_eq_true rfl)⟩
      · refine WPe_sub [0, 1] rfl ?_
        exact wpj6_between_55 X w0  x0 x1 z20.2
  · refine WPe_sub [0, 1] rfl ?_
    exact wpj6_between_55 X w0  x0 x1 z9.2
noncomputable def f6_between (x0 : Nat) (x1 : Int32) (w : Wd) : Option (Int32 × Wd) :=
  (f6_rank x1 w).bind fun z1 => (if z1.1 = (4 : Int32) then (j6_between_17 x0 x1 (5 : Int32) x0 z1.2) else ((f6_rank x1 z1.2).bind fun z24 => (j6_between_17 x0 x1 z24.1 x0 z24.2)))
theorem wpf6_between (X : CX) (w0 : Wd) (x0 : Nat) (x1 : Int32) (w : Wd) : WPe rtI X (mX6_between, 3, 0, 0, w0) 0 0 (f6_between x0 x1 w) 0 [(0, vR x0), (1, vI x1)] [] w := by
  unfold f6_between
  refine WPe_aload_n (pc := 0) 0 (dd dtX6_between 0 rfl) rfl ?_
  refine WPe_iload_n (pc := 1) 1 (dd dtX6_between 1 rfl) rfl ?_
  refine WPe_callS (pc := 2) (rtc := rtI) (Mc := mX6_rank) (d' := 1) (mc' := 0) (ms' := 0) [vI x1] [vR x0] rfl (dd dtX6_between 2 rfl) (okf6_rank x1 w) moX6_rank msX6_rank (bw_mem4 34 rfl rfl) rfl (Nat.le_of_ble_eq_true rfl) ⟨(Nat.le_of_ble_eq_true rfl), (Nat.le_of_ble_eq_true rfl)⟩ ⟨(Nat.le_of_ble_eq_true rfl), (Nat.le_of_ble_eq_true rfl)⟩ (fun z1 h2 e3 => ?_)
  refine WPe_st (st2 := [vI z1.1, vR x0]) rfl ?_
  refine WPe_iconst (pc := 5) (4 : Int32) (dd dtX6_between 3 rfl) (by decide) ?_
  refine WPe_icmp_ne (pc := 6) 13 (dd dtX6_between 4 rfl) (by decide) (fun h4 => ?_) (fun h4 => ?_)
  · refine WPe_iconst (pc := 9) (5 : Int32) (dd dtX6_between 5 rfl) (by decide) ?_
    refine WPe_goto (pc := 10) 17 (dd dtX6_between 6 rfl) (by decide) ?_
    refine WPe_sub [0, 1] rfl ?_
    exact wpj6_between_17 X w0  x0 x1 (5 : Int32) x0 z1.2
  · refine WPe_iload_n (pc := 13) 1 (dd dtX6_between 7 rfl) rfl ?_
    refine WPe_callS (pc := 14) (rtc := rtI) (Mc := mX6_rank) (d' := 1) (mc' := 0) (ms' := 0) [vI x1] [vR x0] rfl (dd dtX6_between 8 rfl) (okf6_rank x1 z1.2) moX6_rank msX6_rank (bw_mem4 34 rfl rfl) rfl (Nat.le_of_ble_eq_true rfl) ⟨(Nat.le_of_ble_eq_true rfl), (Nat.le_of_ble_eq_true rfl)⟩ ⟨(Nat.le_of_ble_eq_true rfl), (Nat.le_of_ble_eq_true rfl)⟩ (fun z24 h25 e26 => ?_)
    refine WPe_st (st2 := [vI z24.1, vR x0]) rfl ?_
    refine WPe_sub [0, 1] rfl ?_
    exact wpj6_between_17 X w0  x0 x1 z24.1 x0 z24.2
theorem okf6_between (x0 : Nat) (x1 : Int32) (w : Wd) : ∀ z, f6_between x0 x1 w = some z → OkM mX6_between 3 0 0 [vR x0, vI x1] w (rtI z.1) z.2 :=
  OkM.of (rt := rtI) moX6_between (Nat.le_of_ble_eq_true rfl) (fun X => wpf6_between X w x0 x1 w)
def tbX6_eRead_0 : List (Nat × Instr × Nat) := [(0, .aload_n 0, 1), (1, .iconst 0, 1), (2, .putfield 117, 3), (5, .aload_n 0, 1), (6, .iconst 0, 1), (7, .putfield 124, 3), (10, .iconst 1, 1), (11, .istore_n 1, 1), (12, .iconst 1, 1), (13, .istore_n 2, 1), (14, .aload_n 0, 1), (15, .invokevirtual 137, 3), (18, .iload_n 1, 1), (19, .ifCond .eq 131, 3), (22, .aload_n 0, 1), (23, .getfield 104, 3), (26, .iconst 1, 1), (27, .if_icmp .eq 11, 3), (30, .aload_n 0, 1), (31, .getfield 104, 3), (34, .iconst 2, 1), (35, .if_icmp .ne 40, 3), (38, .aload_n 0, 1), (39, .aload_n 0, 1), (40, .getfield 104, 3), (43, .iconst 1, 1), (44, .if_icmp .ne 13, 3), (47, .ldc 140, 2), (49, .aload_n 0, 1), (50, .getfield 107, 3), (53, .iadd, 1), (54, .goto 7, 3), (57, .aload_n 0, 1), (58, .getfield 107, 3), (61, .invokevirtual 127, 3), (64, .aload_n 0, 1), (65, .bipush 7, 2), (67, .invokevirtual 134, 3), (70, .iconst 0, 1), (71, .istore_n 1, 1), (72, .goto (-58), 3), (75, .aload_n 0, 1), (76, .getfield 104, 3), (79, .bipush 6, 2), (81, .if_icmp .ne 18, 3), (84, .iload_n 2, 1), (85, .ifCond .eq 14, 3), (88, .aload_n 0, 1), (89, .bipush 13, 2), (91, .invokevirtual 141, 3)]
set_option maxRecDepth 20000 in
theorem dtX6_eRead_0 : ∀ x ∈ tbX6_eRead_0, decode cX6_eRead x.1 = .ok x.2 := by decide +kernel
def tbX6_eRead_1 : List (Nat × Instr × Nat) := [(94, .ifCond .ne (-80), 3), (97, .iconst 0, 1), (98, .ireturn, 1), (99, .aload_n 0, 1), (100, .getfield 104, 3), (103, .bipush 45, 2), (105, .if_icmp .ne 19, 3), (108, .aload_n 0, 1), (109, .bipush 19, 2), (111, .invokevirtual 141, 3), (114, .ifCond .ne 5, 3), (117, .iconst 0, 1), (118, .ireturn, 1), (119, .iconst 0, 1), (120, .istore_n 2, 1), (121, .goto (-107), 3), (124, .aload_n 0, 1), (125, .getfield 104, 3), (128, .bipush 40, 2), (130, .if_icmp .ne 18, 3), (133, .aload_n 0, 1), (134, .iconst 0, 1), (135, .invokevirtual 141, 3), (138, .ifCond .ne 5, 3), (141, .iconst 0, 1), (142, .ireturn, 1), (143, .iconst 1, 1), (144, .istore_n 2, 1), (145, .goto (-131), 3), (148, .iconst 0, 1), (149, .ireturn, 1), (150, .aload_n 0, 1), (151, .getfield 104, 3), (154, .bipush 59, 2), (156, .if_icmp .ne 21, 3), (159, .aload_n 0, 1), (160, .iconst 1, 1), (161, .invokevirtual 134, 3), (164, .aload_n 0, 1), (165, .getfield 117, 3), (168, .ifCond .ne 7, 3), (171, .iconst 1, 1), (172, .goto 4, 3), (175, .iconst 0, 1), (176, .ireturn, 1), (177, .aload_n 0, 1), (178, .getfield 104, 3), (181, .bipush 41, 2), (183, .if_icmp .ne 46, 3), (186, .aload_n 0, 1)]
set_option maxRecDepth 20000 in
theorem dtX6_eRead_1 : ∀ x ∈ tbX6_eRead_1, decode cX6_eRead x.1 = .ok x.2 := by decide +kernel
def tbX6_eRead_2 : List (Nat × Instr × Nat) := [(187, .iconst 1, 1), (188, .invokevirtual 134, 3), (191, .aload_n 0, 1), (192, .getfield 117, 3), (195, .ifCond .ne 5, 3), (198, .iconst 0, 1), (199, .ireturn, 1), (200, .aload_n 0, 1), (201, .dup, 1), (202, .getfield 117, 3), (205, .iconst 1, 1), (206, .isub, 1), (207, .putfield 117, 3), (210, .aload_n 0, 1), (211, .dup, 1), (212, .getfield 124, 3), (215, .iconst 1, 1), (216, .isub, 1), (217, .putfield 124, 3), (220, .aload_n 0, 1), (221, .bipush 7, 2), (223, .invokevirtual 134, 3), (226, .goto (-212), 3), (229, .aload_n 0, 1), (230, .invokevirtual 144, 3), (233, .istore_n 3, 1), (234, .iload_n 3, 1), (235, .iconst (-1), 1), (236, .if_icmp .eq 11, 3), (239, .aload_n 0, 1), (240, .iload_n 3, 1), (241, .invokevirtual 147, 3), (244, .ifCond .ne 5, 3), (247, .iconst 0, 1), (248, .ireturn, 1), (249, .iconst 1, 1), (250, .istore_n 1, 1), (251, .iload_n 3, 1), (252, .bipush 12, 2), (254, .if_icmp .gt 7, 3), (257, .iconst 1, 1), (258, .goto 4, 3), (261, .iconst 0, 1), (262, .istore_n 2, 1), (263, .goto (-249), 3)]
set_option maxRecDepth 20000 in
theorem dtX6_eRead_2 : ∀ x ∈ tbX6_eRead_2, decode cX6_eRead x.1 = .ok x.2 := by decide +kernel
noncomputable def j6_eRead_262 (k14 : Nat × Int32 × Int32 → Wd → Option (Int32 × Wd)) (x0 : Nat) (x1 : Int32) (s0 : Int32) (w : Wd) : Option (Int32 × Wd) :=
  k14 (x0, x1, s0) w
theorem wpj6_eRead_262 (X : CX) (w0 : Wd) (k14 : Nat × Int32 × Int32 → Wd → Option (Int32 × Wd)) (hk14 : ∀ (v : Nat × Int32 × Int32) (w : Wd), WPe rtI X (mX6_eRead, 4, 0, 0, w0) 0 0 (k14 v w) 14 [(0, vR v.1), (1, vI v.2.1), (2, vI v.2.2)] [] w) (x0 : Nat) (x1 : Int32) (s0 : Int32) (w : Wd) : WPe rtI X (mX6_eRead, 4, 0, 0, w0) 0 0 (j6_eRead_262 k14 x0 x1 s0 w) 262 [(0, vR x0), (1, vI x1)] [vI s0] w := by
  unfold j6_eRead_262
  refine WPe_istore_n (pc := 262) (ls' := [(2, vI s0), (0, vR x0), (1, vI x1)]) (dd dtX6_eRead_2 43 rfl) (Nat.le_of_ble_eq_true rfl) rfl ?_
  refine WPe_goto (pc := 263) 14 (dd dtX6_eRead_2 44 rfl) (by decide) ?_
  refine WPe_sub [1, 2, 0] rfl ?_
  exact hk14 (x0, x1, s0) w
noncomputable def j6_eRead_61 (k14 : Nat × Int32 × Int32 → Wd → Option (Int32 × Wd)) (x0 : Nat) (x2 : Int32) (s0 : Int32) (s1 : Nat) (w : Wd) : Option (Int32 × Wd) :=
  ck (tg w s1 = 6) ((f6_puts s1 s0 w).bind fun z41 => (ck (tg z41.2 x0 = 6) ((f6_unwinds x0 (7 : Int32) z41.2).bind fun z45 => (k14 (x0, (0 : Int32), x2) z45.2))))
theorem wpj6_eRead_61 (X : CX) (w0 : Wd) (k14 : Nat × Int32 × Int32 → Wd → Option (Int32 × Wd)) (hk14 : ∀ (v : Nat × Int32 × Int32) (w : Wd), WPe rtI X (mX6_eRead, 4, 0, 0, w0) 0 0 (k14 v w) 14 [(0, vR v.1), (1, vI v.2.1), (2, vI v.2.2)] [] w) (x0 : Nat) (x2 : Int32) (s0 : Int32) (s1 : Nat) (w : Wd) : WPe rtI X (mX6_eRead, 4, 0, 0, w0) 0 0 (j6_eRead_61 k14 x0 x2 s0 s1 w) 61 [(0, vR x0), (2, vI x2)] [vI s0, vR s1] w := by
  unfold j6_eRead_61
  refine WPe_ck fun h40 => ?_
  refine WPe_callV (pc := 61) (rtc := rtV) (Mc := mX6_puts) (d' := 1) (mc' := 0) (ms' := 0) [vI s0] [] rfl (dd dtX6_eRead_0 34 rfl) (okf6_puts s1 s0 w) moX6_puts miX6_puts (bw_mem4 26 rfl rfl) (Or.inl ⟨_, _, _, _, (shE h40), rfl⟩) rfl (Nat.le_of_ble_eq_true rfl) ⟨(Nat.le_of_ble_eq_true rfl), (Nat.le_of_ble_eq_true rfl)⟩ ⟨(Nat.le_of_ble_eq_true rfl), (Nat.le_of_ble_eq_true rfl)⟩ (fun z41 h42 e43 => ?_)
  refine WPe_st (st2 := []) rfl ?_
  refine WPe_aload_n (pc := 64) 0 (dd dtX6_eRead_0 35 rfl) rfl ?_
  refine WPe_bipush (pc := 65) (7 : Int32) (dd dtX6_eRead_0 36 rfl) (by decide) ?_
  refine WPe_ck fun h44 => ?_
  refine WPe_callV (pc := 67) (rtc := rtV) (Mc := mX6_unwinds) (d' := 2) (mc' := 0) (ms' := 0) [vI (7 : Int32)] [] rfl (dd dtX6_eRead_0 37 rfl) (okf6_unwinds x0 (7 : Int32) z41.2) moX6_unwinds miX6_unwinds (bw_mem4 30 rfl rfl) (Or.inl ⟨_, _, _, _, (shE h44), rfl⟩) rfl (Nat.le_of_ble_eq_true rfl) ⟨(Nat.le_of_ble_eq_true rfl), (Nat.le_of_ble_eq_true rfl)⟩ ⟨(Nat.le_of_ble_eq_true rfl), (Nat.le_of_ble_eq_true rfl)⟩ (fun z45 h46 e47 => ?_)
  refine WPe_st (st2 := []) rfl ?_
  refine WPe_iconst (pc := 70) (0 : Int32) (dd dtX6_eRead_0 38 rfl) (by decide) ?_
  refine WPe_istore_n (pc := 71) (ls' := [(1, vI (0 : Int32)), (0, vR x0), (2, vI x2)]) (dd dtX6_eRead_0 39 rfl) (Nat.le_of_ble_eq_true rfl) rfl ?_
  refine WPe_goto (pc := 72) 14 (dd dtX6_eRead_0 40 rfl) (by decide) ?_
  refine WPe_sub [1, 0, 2] rfl ?_
  exact hk14 (x0, (0 : Int32), x2) z45.2
noncomputable def j6_eRead_38 (k14 : Nat × Int32 × Int32 → Wd → Option (Int32 × Wd)) (x0 : Nat) (x2 : Int32) (w : Wd) : Option (Int32 × Wd) :=
  ck (tg w x0 = 6) (if (wi w x0 20) = (1 : Int32) then (j6_eRead_61 k14 x0 x2 ((100000 : Int32) + (wi w x0 21)) x0 w) else (j6_eRead_61 k14 x0 x2 (wi w x0 21) x0 w))
theorem wpj6_eRead_38 (X : CX) (w0 : Wd) (k14 : Nat × Int32 × Int32 → Wd → Option (Int32 × Wd)) (hk14 : ∀ (v : Nat × Int32 × Int32) (w : Wd), WPe rtI X (mX6_eRead, 4, 0, 0, w0) 0 0 (k14 v w) 14 [(0, vR v.1), (1, vI v.2.1), (2, vI v.2.2)] [] w) (x0 : Nat) (x2 : Int32) (w : Wd) : WPe rtI X (mX6_eRead, 4, 0, 0, w0) 0 0 (j6_eRead_38 k14 x0 x2 w) 38 [(0, vR x0), (2, vI x2)] [] w := by
  unfold j6_eRead_38
  refine WPe_aload_n (pc := 38) 0 (dd dtX6_eRead_0 22 rfl) rfl ?_
  refine WPe_aload_n (pc := 39) 0 (dd dtX6_eRead_0 23 rfl) rfl ?_
  refine WPe_ck fun h38 => ?_
  refine WPe_getI (pc := 40) (t := 6) (C := RX6) (T := TX6) 20 (dd dtX6_eRead_0 24 rfl) (shE h38) rfl (Nat.le_of_ble_eq_true rfl) rfl (bw_mem4 73 rfl rfl) ?_
  refine WPe_iconst (pc := 43) (1 : Int32) (dd dtX6_eRead_0 25 rfl) (by decide) ?_
  refine WPe_icmp_ne (pc := 44) 57 (dd dtX6_eRead_0 26 rfl) (by decide) (fun h39 => ?_) (fun h39 => ?_)
  · refine WPe_ldc (pc := 47) (v := (100000 : Int32)) (dd dtX6_eRead_0 27 rfl) (bw_mem4 25 rfl rfl) ?_
    refine WPe_aload_n (pc := 49) 0 (dd dtX6_eRead_0 28 rfl) rfl ?_
    refine WPe_getI (pc := 50) (t := 6) (C := RX6) (T := TX6) 21 (dd dtX6_eRead_0 29 rfl) (shE h38) rfl (Nat.le_of_ble_eq_true rfl) rfl (bw_mem4 74 rfl rfl) ?_
    refine WPe_iadd (pc := 53) (dd dtX6_eRead_0 30 rfl) ?_
    refine WPe_goto (pc := 54) 61 (dd dtX6_eRead_0 31 rfl) (by decide) ?_
    refine WPe_sub [0, 1] rfl ?_
    exact wpj6_eRead_61 X w0 k14 hk14 x0 x2 ((100000 : Int32) + (wi w x0 21)) x0 w
  · refine WPe_aload_n (pc := 57) 0 (dd dtX6_eRead_0 32 rfl) rfl ?_
    refine WPe_getI (pc := 58) (t := 6) (C := RX6) (T := TX6) 21 (dd dtX6_eRead_0 33 rfl) (shE h38) rfl (Nat.le_of_ble_eq_true rfl) rfl (bw_mem4 74 rfl rfl) ?_
    refine WPe_sub [0, 1] rfl ?_
    exact wpj6_eRead_61 X w0 k14 hk14 x0 x2 (wi w x0 21) x0 w
noncomputable def j6_eRead_99 (k14 : Nat × Int32 × Int32 → Wd → Option (Int32 × Wd)) (x0 : Nat) (x1 : Int32) (w : Wd) : Option (Int32 × Wd) :=
  ck (tg w x0 = 6) (if (wi w x0 20) = (45 : Int32) then ((f6_opensOne x0 (19 : Int32) w).bind fun z53 => (if z53.1 = (0 : Int32) then (some ((0 : Int32), z53.2)) else (k14 (x0, x1, (0 : Int32)) z53.2))) else (if (wi w x0 20) = (40 : Int32) then ((f6_opensOne x0 (0 : Int32) w).bind fun z58 => (if z58.1 = (0 : Int32) then (some ((0 : Int32), z58.2)) else (k14 (x0, x1, (1 : Int32)) z58.2))) else (some ((0 : Int32), w))))
theorem wpj6_eRead_99 (X : CX) (w0 : Wd) (k14 : Nat × Int32 × Int32 → Wd → Option (Int32 × Wd)) (hk14 : ∀ (v : Nat × Int32 × Int32) (w : Wd), WPe rtI X (mX6_eRead, 4, 0, 0, w0) 0 0 (k14 v w) 14 [(0, vR v.1), (1, vI v.2.1), (2, vI v.2.2)] [] w) (x0 : Nat) (x1 : Int32) (w : Wd) : WPe rtI X (mX6_eRead, 4, 0, 0, w0) 0 0 (j6_eRead_99 k14 x0 x1 w) 99 [(0, vR x0), (1, vI x1)] [] w := by
  unfold j6_eRead_99
  refine WPe_aload_n (pc := 99) 0 (dd dtX6_eRead_1 3 rfl) rfl ?_
  refine WPe_ck fun h51 => ?_
  refine WPe_getI (pc := 100) (t := 6) (C := RX6) (T := TX6) 20 (dd dtX6_eRead_1 4 rfl) (shE h51) rfl (Nat.le_of_ble_eq_true rfl) rfl (bw_mem4 73 rfl rfl) ?_
  refine WPe_bipush (pc := 103) (45 : Int32) (dd dtX6_eRead_1 5 rfl) (by decide) ?_
  refine WPe_icmp_ne (pc := 105) 124 (dd dtX6_eRead_1 6 rfl) (by decide) (fun h52 => ?_) (fun h52 => ?_)
  · refine WPe_aload_n (pc := 108) 0 (dd dtX6_eRead_1 7 rfl) rfl ?_
    refine WPe_bipush (pc := 109) (19 : Int32) (dd dtX6_eRead_1 8 rfl) (by decide) ?_
    refine WPe_callV (pc := 111) (rtc := rtI) (Mc := mX6_opensOne) (d' := 2) (mc' := 0) (ms' := 0) [vI (19 : Int32)] [] rfl (dd dtX6_eRead_1 9 rfl) (okf6_opensOne x0 (19 : Int32) w) moX6_opensOne miX6_opensOne (bw_mem4 37 rfl rfl) (Or.inl ⟨_, _, _, _, (shE h51), rfl⟩) rfl (Nat.le_of_ble_eq_true rfl) ⟨(Nat.le_of_ble_eq_true rfl), (Nat.le_of_ble_eq_true rfl)⟩ ⟨(Nat.le_of_ble_eq_true rfl), (Nat.le_of_ble_eq_true rfl)⟩ (fun z53 h54 e55 => ?_)
    refine WPe_st (st2 := [vI z53.1]) rfl ?_
    refine WPe_if_ne (pc := 114) 119 (dd dtX6_eRead_1 10 rfl) (by decide) (fun h56 => ?_) (fun h56 => ?_)
    · refine WPe_iconst (pc := 117) (0 : Int32) (dd dtX6_eRead_1 11 rfl) (by decide) ?_
      exact WPe_zreturn (pc := 118) (ty := .boolean) (dd dtX6_eRead_1 12 rfl) rfl rfl rfl ⟨(Nat.le_of_ble_eq_true rfl), (Nat.le_of_ble_eq_true rfl)⟩
    · refine WPe_iconst (pc := 119) (0 : Int32) (dd dtX6_eRead_1 13 rfl) (by decide) ?_
      refine WPe_istore_n (pc := 120) (ls' := [(2, vI (0 : Int32)), (0, vR x0), (1, vI x1)]) (dd dtX6_eRead_1 14 rfl) (Nat.le_of_ble_eq_true rfl) rfl ?_
      refine WPe_goto (pc := 121) 14 (dd dtX6_eRead_1 15 rfl) (by decide) ?_
      refine WPe_sub [1, 2, 0] rfl ?_
      exact hk14 (x0, x1, (0 : Int32)) z53.2
  · refine WPe_aload_n (pc := 124) 0 (dd dtX6_eRead_1 16 rfl) rfl ?_
    refine WPe_getI (pc := 125) (t := 6) (C := RX6) (T := TX6) 20 (dd dtX6_eRead_1 17 rfl) (shE h51) rfl (Nat.le_of_ble_eq_true rfl) rfl (bw_mem4 73 rfl rfl) ?_
    refine WPe_bipush (pc := 128) (40 : Int32) (dd dtX6_eRead_1 18 rfl) (by decide) ?_
    refine WPe_icmp_ne (pc := 130) 148 (dd dtX6_eRead_1 19 rfl) (by decide) (fun h57 => ?_) (fun h57 => ?_)
    · refine WPe_aload_n (pc := 133) 0 (dd dtX6_eRead_1 20 rfl) rfl ?_
      refine WPe_iconst (pc := 134) (0 : Int32) (dd dtX6_eRead_1 21 rfl) (by decide) ?_
      refine WPe_callV (pc := 135) (rtc := rtI) (Mc := mX6_opensOne) (d' := 2) (mc' := 0) (ms' := 0) [vI (0 : Int32)] [] rfl (dd dtX6_eRead_1 22 rfl) (okf6_opensOne x0 (0 : Int32) w) moX6_opensOne miX6_opensOne (bw_mem4 37 rfl rfl) (Or.inl ⟨_, _, _, _, (shE h51), rfl⟩) rfl (Nat.le_of_ble_eq_true rfl) ⟨(Nat.le_of_ble_eq_true rfl), (Nat.le_of_ble_eq_true rfl)⟩ ⟨(Nat.le_of_ble_eq_true rfl), (Nat.le_of_ble_eq_true rfl)⟩ (fun z58 h59 e60 => ?_)
      refine WPe_st (st2 := [vI z58.1]) rfl ?_
      refine WPe_if_ne (pc := 138) 143 (dd dtX6_eRead_1 23 rfl) (by decide) (fun h61 => ?_) (fun h61 => ?_)
      · refine WPe_iconst (pc := 141) (0 : Int32) (dd dtX6_eRead_1 24 rfl) (by decide) ?_
        exact WPe_zreturn (pc := 142) (ty := .boolean) (dd dtX6_eRead_1 25 rfl) rfl rfl rfl ⟨(Nat.le_of_ble_eq_true rfl), (Nat.le_of_ble_eq_true rfl)⟩
      · refine WPe_iconst (pc := 143) (1 : Int32) (dd dtX6_eRead_1 26 rfl) (by decide) ?_
        refine WPe_istore_n (pc := 144) (ls' := [(2, vI (1 : Int32)), (0, vR x0), (1, vI x1)]) (dd dtX6_eRead_1 27 rfl) (Nat.le_of_ble_eq_true rfl) rfl ?_
        refine WPe_goto (pc := 145) 14 (dd dtX6_eRead_1 28 rfl) (by decide) ?_
        refine WPe_sub [1, 2, 0] rfl ?_
        exact hk14 (x0, x1, (1 : Int32)) z58.2
    · refine WPe_iconst (pc := 148) (0 : Int32) (dd dtX6_eRead_1 29 rfl) (by decide) ?_
      exact WPe_zreturn (pc := 149) (ty := .boolean) (dd dtX6_eRead_1 30 rfl) rfl rfl rfl ⟨(Nat.le_of_ble_eq_true rfl), (Nat.le_of_ble_eq_true rfl)⟩
noncomputable def b6_eRead_14 (k14 : Nat × Int32 × Int32 → Wd → Option (Int32 × Wd)) (v : Nat × Int32 × Int32) (w : Wd) : Option (Int32 × Wd) :=
  ck (tg w v.1 = 6) ((f6_next v.1 w).bind fun z7 => (if v.2.1 = (0 : Int32) then (if (wi z7.2 v.1 20) = (59 : Int32) then ((f6_unwinds v.1 (1 : Int32) z7.2).bind fun z12 => (if (wi z12.2 v.1 24) = (0 : Int32) then (some ((1 : Int32), z12.2)) else (some ((0 : Int32), z12.2)))) else (if (wi z7.2 v.1 20) = (41 : Int32) then ((f6_unwinds v.1 (1 : Int32) z7.2).bind fun z17 => (if (wi z17.2 v.1 24) = (0 : Int32) then (some ((0 : Int32), z17.2)) else (lw (sI z17.2 v.1 24 ((wi z17.2 v.1 24) - (1 : Int32))) fun w21 => (lw (sI w21 v.1 25 ((wi w21 v.1 25) - (1 : Int32))) fun w23 => ((f6_unwinds v.1 (7 : Int32) w23).bind fun z25 => (k14 (v.1, v.2.1, v.2.2) z25.2)))))) else ((f6_signOf v.1 z7.2).bind fun z28 => (if z28.1 = (-1 : Int32) then (some ((0 : Int32), z28.2)) else ((f6_between v.1 z28.1 z28.2).bind fun z32 => (if z32.1 = (0 : Int32) then (some ((0 : Int32), z32.2)) else (if (12 : Int32) < z28.1 then (j6_eRead_262 k14 v.1 (1 : Int32) (0 : Int32) z32.2) else (j6_eRead_262 k14 v.1 (1 : Int32) (1 : Int32) z32.2)))))))) else (if (wi z7.2 v.1 20) = (1 : Int32) then (j6_eRead_38 k14 v.1 v.2.2 z7.2) else (if (wi z7.2 v.1 20) = (2 : Int32) then (j6_eRead_38 k14 v.1 v.2.2 z7.2) else (if (wi z7.2 v.1 20) = (6 : Int32) then (if v.2.2 = (0 : Int32) then (j6_eRead_99 k14 v.1 v.2.1 z7.2) else ((f6_opensOne v.1 (13 : Int32) z7.2).bind fun z62 => (if z62.1 = (0 : Int32) then (some ((0 : Int32), z62.2)) else (k14 (v.1, v.2.1, v.2.2) z62.2)))) else (j6_eRead_99 k14 v.1 v.2.1 z7.2))))))
theorem wpb6_eRead_14 (X : CX) (w0 : Wd) (k14 : Nat × Int32 × Int32 → Wd → Option (Int32 × Wd)) (hk14 : ∀ (v : Nat × Int32 × Int32) (w : Wd), WPe rtI X (mX6_eRead, 4, 0, 0, w0) 0 0 (k14 v w) 14 [(0, vR v.1), (1, vI v.2.1), (2, vI v.2.2)] [] w) (v : Nat × Int32 × Int32) (w : Wd) : WPe rtI X (mX6_eRead, 4, 0, 0, w0) 0 0 (b6_eRead_14 k14 v w) 14 [(0, vR v.1), (1, vI v.2.1), (2, vI v.2.2)] [] w := by
  unfold b6_eRead_14
  refine WPe_aload_n (pc := 14) 0 (dd dtX6_eRead_0 10 rfl) rfl ?_
  refine WPe_ck fun h6 => ?_
  refine WPe_callV (pc := 15) (rtc := rtV) (Mc := mX6_next) (d' := 2) (mc' := 0) (ms' := 0) [] [] rfl (dd dtX6_eRead_0 11 rfl) (okf6_next v.1 w) moX6_next miX6_next (bw_mem4 10 rfl rfl) (Or.inl ⟨_, _, _, _, (shE h6), rfl⟩) rfl (Nat.le_of_ble_eq_true rfl) ⟨(Nat.le_of_ble_eq_true rfl), (Nat.le_of_ble_eq_true rfl)⟩ ⟨(Nat.le_of_ble_eq_true rfl), (Nat.le_of_ble_eq_true rfl)⟩ (fun z7 h8 e9 => ?_)
  refine WPe_st (st2 := []) rfl ?_
  refine WPe_iload_n (pc := 18) 1 (dd dtX6_eRead_0 12 rfl) rfl ?_
  refine WPe_if_eq (pc := 19) 150 (dd dtX6_eRead_0 13 rfl) (by decide) (fun h10 => ?_) (fun h10 => ?_)
  · refine WPe_aload_n (pc := 150) 0 (dd dtX6_eRead_1 31 rfl) rfl ?_
    refine WPe_getI (pc := 151) (t := 6) (C := RX6) (T := TX6) 20 (dd dtX6_eRead_1 32 rfl) (e9.at (shE h6) (by decide)) rfl (Nat.le_of_ble_eq_true rfl) rfl (bw_mem4 73 rfl rfl) ?_
    refine WPe_bipush (pc := 154) (59 : Int32) (dd dtX6_eRead_1 33 rfl) (by decide) ?_
    refine WPe_icmp_ne (pc := 156) 177 (dd dtX6_eRead_1 34 rfl) (by decide) (fun h11 => ?_) (fun h11 => ?_)
    · refine WPe_aload_n (pc := 159) 0 (dd dtX6_eRead_1 35 rfl) rfl ?_
      refine WPe_iconst (pc := 160) (1 : Int32) (dd dtX6_eRead_1 36 rfl) (by decide) ?_
      refine WPe_callV (pc := 161) (rtc := rtV) (Mc := mX6_unwinds) (d' := 2) (mc' := 0) (ms' := 0) [vI (1 : Int32)] [] rfl (dd dtX6_eRead_1 37 rfl) (okf6_unwinds v.1 (1 : Int32) z7.2) moX6_unwinds miX6_unwinds (bw_mem4 30 rfl rfl) (Or.inl ⟨_, _, _, _, (e9.at (shE h6) (by decide)), rfl⟩) rfl (Nat.le_of_ble_eq_true rfl) ⟨(Nat.le_of_ble_eq_true rfl), (Nat.le_of_ble_eq_true rfl)⟩ ⟨(Nat.le_of_ble_eq_true rfl), (Nat.le_of_ble_eq_true rfl)⟩ (fun z12 h13 e14 => ?_)
      refine WPe_st (st2 := []) rfl ?_
      refine WPe_aload_n (pc := 164) 0 (dd dtX6_eRead_1 38 rfl) rfl ?_
      refine WPe_getI (pc := 165) (t := 6) (C := RX6) (T := TX6) 24 (dd dtX6_eRead_1 39 rfl) (e14.at (e9.at (shE h6) (by decide)) (by decide)) rfl (Nat.le_of_ble_eq_true rfl) rfl (bw_mem4 77 rfl rfl) ?_
      refine WPe_if_ne (pc := 168) 175 (dd dtX6_eRead_1 40 rfl) (by decide) (fun h15 => ?_) (fun h15 => ?_)
      · refine WPe_iconst (pc := 171) (1 : Int32) (dd dtX6_eRead_1 41 rfl) (by decide) ?_
        refine WPe_goto (pc := 172) 176 (dd dtX6_eRead_1 42 rfl) (by decide) ?_
        exact WPe_zreturn (pc := 176) (ty := .boolean) (dd dtX6_eRead_1 44 rfl) rfl rfl rfl ⟨(Nat.le_of_ble_eq_true rfl), (Nat.le_of_ble_eq_true rfl)⟩
      · refine WPe_iconst (pc := 175) (0 : Int32) (dd dtX6_eRead_1 43 rfl) (by decide) ?_
        exact WPe_zreturn (pc := 176) (ty := .boolean) (dd dtX6_eRead_1 44 rfl) rfl rfl rfl ⟨(Nat.le_of_ble_eq_true rfl), (Nat.le_of_ble_eq_true rfl)⟩
    · refine WPe_aload_n (pc := 177) 0 (dd dtX6_eRead_1 45 rfl) rfl ?_
      refine WPe_getI (pc := 178) (t := 6) (C := RX6) (T := TX6) 20 (dd dtX6_eRead_1 46 rfl) (e9.at (shE h6) (by decide)) rfl (Nat.le_of_ble_eq_true rfl) rfl (bw_mem4 73 rfl rfl) ?_
      refine WPe_bipush (pc := 181) (41 : Int32) (dd dtX6_eRead_1 47 rfl) (by decide) ?_
      refine WPe_icmp_ne (pc := 183) 229 (dd dtX6_eRead_1 48 rfl) (by decide) (fun h16 => ?_) (fun h16 => ?_)
      · refine WPe_aload_n (pc := 186) 0 (dd dtX6_eRead_1 49 rfl) rfl ?_
        refine WPe_iconst (pc := 187) (1 : Int32) (dd dtX6_eRead_2 0 rfl) (by decide) ?_
        refine WPe_callV (pc := 188) (rtc := rtV) (Mc := mX6_unwinds) (d' := 2) (mc' := 0) (ms' := 0) [vI (1 : Int32)] [] rfl (dd dtX6_eRead_2 1 rfl) (okf6_unwinds v.1 (1 : Int32) z7.2) moX6_unwinds miX6_unwinds (bw_mem4 30 rfl rfl) (Or.inl ⟨_, _, _, _, (e9.at (shE h6) (by decide)), rfl⟩) rfl (Nat.le_of_ble_eq_true rfl) ⟨(Nat.le_of_ble_eq_true rfl), (Nat.le_of_ble_eq_true rfl)⟩ ⟨(Nat.le_of_ble_eq_true rfl), (Nat.le_of_ble_eq_true rfl)⟩ (fun z17 h18 e19 => ?_)
        refine WPe_st (st2 := []) rfl ?_
        refine WPe_aload_n (pc := 191) 0 (dd dtX6_eRead_2 2 rfl) rfl ?_
        refine WPe_getI (pc := 192) (t := 6) (C := RX6) (T := TX6) 24 (dd dtX6_eRead_2 3 rfl) (e19.at (e9.at (shE h6) (by decide)) (by decide)) rfl (Nat.le_of_ble_eq_true rfl) rfl (bw_mem4 77 rfl rfl) ?_
        refine WPe_if_ne (pc := 195) 200 (dd dtX6_eRead_2 4 rfl) (by decide) (fun h20 => ?_) (fun h20 => ?_)
        · refine WPe_iconst (pc := 198) (0 : Int32) (dd dtX6_eRead_2 5 rfl) (by decide) ?_
          exact WPe_zreturn (pc := 199) (ty := .boolean) (dd dtX6_eRead_2 6 rfl) rfl rfl rfl ⟨(Nat.le_of_ble_eq_true rfl), (Nat.le_of_ble_eq_true rfl)⟩
        · refine WPe_aload_n (pc := 200) 0 (dd dtX6_eRead_2 7 rfl) rfl ?_
          refine WPe_dup (pc := 201) (dd dtX6_eRead_2 8 rfl) rfl ?_
          refine WPe_getI (pc := 202) (t := 6) (C := RX6) (T := TX6) 24 (dd dtX6_eRead_2 9 rfl) (e19.at (e9.at (shE h6) (by decide)) (by decide)) rfl (Nat.le_of_ble_eq_true rfl) rfl (bw_mem4 77 rfl rfl) ?_
          refine WPe_iconst (pc := 205) (1 : Int32) (dd dtX6_eRead_2 10 rfl) (by decide) ?_
          refine WPe_isub (pc := 206) (dd dtX6_eRead_2 11 rfl) ?_
          refine WPe_putI (pc := 207) (t := 6) (C := RX6) (T := TX6) 24 (dd dtX6_eRead_2 12 rfl) (e19.at (e9.at (shE h6) (by decide)) (by decide)) rfl (Nat.le_of_ble_eq_true rfl) (bw_mem4 77 rfl rfl) (Or.inl rfl) rfl rfl rfl ?_
          refine WPe_lw fun w21 e22 => ?_
          refine WPe_aload_n (pc := 210) 0 (dd dtX6_eRead_2 13 rfl) rfl ?_
          refine WPe_dup (pc := 211) (dd dtX6_eRead_2 14 rfl) rfl ?_
          refine WPe_getI (pc := 212) (t := 6) (C := RX6) (T := TX6) 25 (dd dtX6_eRead_2 15 rfl) (shI e22 (e19.at (e9.at (shE h6) (by decide)) (by decide))) rfl (Nat.le_of_ble_eq_true rfl) rfl (bw_mem4 78 rfl rfl) ?_
          refine WPe_iconst (pc := 215) (1 : Int32) (dd dtX6_eRead_2 16 rfl) (by decide) ?_
          refine WPe_isub (pc := 216) (dd dtX6_eRead_2 17 rfl) ?_
          refine WPe_putI (pc := 217) (t := 6) (C := RX6) (T := TX6) 25 (dd dtX6_eRead_2 18 rfl) (shI e22 (e19.at (e9.at (shE h6) (by decide)) (by decide))) rfl (Nat.le_of_ble_eq_true rfl) (bw_mem4 78 rfl rfl) (Or.inl rfl) rfl rfl rfl ?_
          refine WPe_lw fun w23 e24 => ?_
          refine WPe_aload_n (pc := 220) 0 (dd dtX6_eRead_2 19 rfl) rfl ?_
          refine WPe_bipush (pc := 221) (7 : Int32) (dd dtX6_eRead_2 20 rfl) (by decide) ?_
          refine WPe_callV (pc := 223) (rtc := rtV) (Mc := mX6_unwinds) (d' := 2) (mc' := 0) (ms' := 0) [vI (7 : Int32)] [] rfl (dd dtX6_eRead_2 21 rfl) (okf6_unwinds v.1 (7 : Int32) w23) moX6_unwinds miX6_unwinds (bw_mem4 30 rfl rfl) (Or.inl ⟨_, _, _, _, (shI e24 (shI e22 (e19.at (e9.at (shE h6) (by decide)) (by decide)))), rfl⟩) rfl (Nat.le_of_ble_eq_true rfl) ⟨(Nat.le_of_ble_eq_true rfl), (Nat.le_of_ble_eq_true rfl)⟩ ⟨(Nat.le_of_ble_eq_true rfl), (Nat.le_of_ble_eq_true rfl)⟩ (fun z25 h26 e27 => ?_)
          refine WPe_st (st2 := []) rfl ?_
          refine WPe_goto (pc := 226) 14 (dd dtX6_eRead_2 22 rfl) (by decide) ?_
          refine WPe_sub [0, 1, 2] rfl ?_
          exact hk14 (v.1, v.2.1, v.2.2) z25.2
      · refine WPe_aload_n (pc := 229) 0 (dd dtX6_eRead_2 23 rfl) rfl ?_
        refine WPe_callV (pc := 230) (rtc := rtI) (Mc := mX6_signOf) (d' := 1) (mc' := 0) (ms' := 0) [] [] rfl (dd dtX6_eRead_2 24 rfl) (okf6_signOf v.1 z7.2) moX6_signOf miX6_signOf (bw_mem4 45 rfl rfl) (Or.inl ⟨_, _, _, _, (e9.at (shE h6) (by decide)), rfl⟩) rfl (Nat.le_of_ble_eq_true rfl) ⟨(Nat.le_of_ble_eq_true rfl), (Nat.le_of_ble_eq_true rfl)⟩ ⟨(Nat.le_of_ble_eq_true rfl), (Nat.le_of_ble_eq_true rfl)⟩ (fun z28 h29 e30 => ?_)
        refine WPe_st (st2 := [vI z28.1]) rfl ?_
        refine WPe_istore_n (pc := 233) (ls' := [(3, vI z28.1), (0, vR v.1), (1, vI v.2.1), (2, vI v.2.2)]) (dd dtX6_eRead_2 25 rfl) (Nat.le_of_ble_eq_true rfl) rfl ?_
        refine WPe_iload_n (pc := 234) 0 (dd dtX6_eRead_2 26 rfl) rfl ?_
        refine WPe_iconst (pc := 235) (-1 : Int32) (dd dtX6_eRead_2 27 rfl) (by decide) ?_
        refine WPe_icmp_eq (pc := 236) 247 (dd dtX6_eRead_2 28 rfl) (by decide) (fun h31 => ?_) (fun h31 => ?_)
        · refine WPe_iconst (pc := 247) (0 : Int32) (dd dtX6_eRead_2 33 rfl) (by decide) ?_
          exact WPe_zreturn (pc := 248) (ty := .boolean) (dd dtX6_eRead_2 34 rfl) rfl rfl rfl ⟨(Nat.le_of_ble_eq_true rfl), (Nat.le_of_ble_eq_true rfl)⟩
        · refine WPe_aload_n (pc := 239) 1 (dd dtX6_eRead_2 29 rfl) rfl ?_
          refine WPe_iload_n (pc := 240) 0 (dd dtX6_eRead_2 30 rfl) rfl ?_
          refine WPe_callV (pc := 241) (rtc := rtI) (Mc := mX6_between) (d' := 3) (mc' := 0) (ms' := 0) [vI z28.1] [] rfl (dd dtX6_eRead_2 31 rfl) (okf6_between v.1 z28.1 z28.2) moX6_between miX6_between (bw_mem4 49 rfl rfl) (Or.inl ⟨_, _, _, _, (e30.at (e9.at (shE h6) (by decide)) (by decide)), rfl⟩) rfl (Nat.le_of_ble_eq_true rfl) ⟨(Nat.le_of_ble_eq_true rfl), (Nat.le_of_ble_eq_true rfl)⟩ ⟨(Nat.le_of_ble_eq_true rfl), (Nat.le_of_ble_eq_true rfl)⟩ (fun z32 h33 e34 => ?_)
          refine WPe_st (st2 := [vI z32.1]) rfl ?_
          refine WPe_if_ne (pc := 244) 249 (dd dtX6_eRead_2 32 rfl) (by decide) (fun h35 => ?_) (fun h35 => ?_)
          · refine WPe_iconst (pc := 247) (0 : Int32) (dd dtX6_eRead_2 33 rfl) (by decide) ?_
            exact WPe_zreturn (pc := 248) (ty := .boolean) (dd dtX6_eRead_2 34 rfl) rfl rfl rfl ⟨(Nat.le_of_ble_eq_true rfl), (Nat.le_of_ble_eq_true rfl)⟩
          · refine WPe_iconst (pc := 249) (1 : Int32) (dd dtX6_eRead_2 35 rfl) (by decide) ?_
            refine WPe_istore_n (pc := 250) (ls' := [(1, vI (1 : Int32)), (3, vI z28.1), (0, vR v.1), (2, vI v.2.2)]) (dd dtX6_eRead_2 36 rfl) (Nat.le_of_ble_eq_true rfl) rfl ?_
            refine WPe_iload_n (pc := 251) 1 (dd dtX6_eRead_2 37 rfl) rfl ?_
            refine WPe_bipush (pc := 252) (12 : Int32) (dd dtX6_eRead_2 38 rfl) (by decide) ?_
            refine WPe_icmp_gt (pc := 254) 261 (dd dtX6_eRead_2 39 rfl) (by decide) (fun h36 => ?_) (fun h36 => ?_)
            · refine WPe_iconst (pc := 261) (0 : Int32) (dd dtX6_eRead_2 42 rfl) (by decide) ?_
              refine WPe_sub [2, 0] rfl ?_
              exact wpj6_eRead_262 X w0 k14 hk14 v.1 (1 : Int32) (0 : Int32) z32.2
            · refine WPe_iconst (pc := 257) (1 : Int32) (dd dtX6_eRead_2 40 rfl) (by decide) ?_
              refine WPe_goto (pc := 258) 262 (dd dtX6_eRead_2 41 rfl) (by decide) ?_
              refine WPe_sub [2, 0] rfl ?_
              exact wpj6_eRead_262 X w0 k14 hk14 v.1 (1 : Int32) (1 : Int32) z32.2
  · refine WPe_aload_n (pc := 22) 0 (dd dtX6_eRead_0 14 rfl) rfl ?_
    refine WPe_getI (pc := 23) (t := 6) (C := RX6) (T := TX6) 20 (dd dtX6_eRead_0 15 rfl) (e9.at (shE h6) (by decide)) rfl (Nat.le_of_ble_eq_true rfl) rfl (bw_mem4 73 rfl rfl) ?_
    refine WPe_iconst (pc := 26) (1 : Int32) (dd dtX6_eRead_0 16 rfl) (by decide) ?_
    refine WPe_icmp_eq (pc := 27) 38 (dd dtX6_eRead_0 17 rfl) (by decide) (fun h37 => ?_) (fun h37 => ?_)
    · refine WPe_sub [0, 2] rfl ?_
      exact wpj6_eRead_38 X w0 k14 hk14 v.1 v.2.2 z7.2
    · refine WPe_aload_n (pc := 30) 0 (dd dtX6_eRead_0 18 rfl) rfl ?_
      refine WPe_getI (pc := 31) (t := 6) (C := RX6) (T := TX6) 20 (dd dtX6_eRead_0 19 rfl) (e9.at (shE h6) (by decide)) rfl (Nat.le_of_ble_eq_true rfl) rfl (bw_mem4 73 rfl rfl) ?_
      refine WPe_iconst (pc := 34) (2 : Int32) (dd dtX6_eRead_0 20 rfl) (by decide) ?_
      refine WPe_icmp_ne (pc := 35) 75 (dd dtX6_eRead_0 21 rfl) (by decide) (fun h48 => ?_) (fun h48 => ?_)
      · refine WPe_sub [0, 2] rfl ?_
        exact wpj6_eRead_38 X w0 k14 hk14 v.1 v.2.2 z7.2
      · refine WPe_aload_n (pc := 75) 0 (dd dtX6_eRead_0 41 rfl) rfl ?_
        refine WPe_getI (pc := 76) (t := 6) (C := RX6) (T := TX6) 20 (dd dtX6_eRead_0 42 rfl) (e9.at (shE h6) (by decide)) rfl (Nat.le_of_ble_eq_true rfl) rfl (bw_mem4 73 rfl rfl) ?_
        refine WPe_bipush (pc := 79) (6 : Int32) (dd dtX6_eRead_0 43 rfl) (by decide) ?_
        refine WPe_icmp_ne (pc := 81) 99 (dd dtX6_eRead_0 44 rfl) (by decide) (fun h49 => ?_) (fun h49 => ?_)
        · refine WPe_iload_n (pc := 84) 2 (dd dtX6_eRead_0 45 rfl) rfl ?_
          refine WPe_if_eq (pc := 85) 99 (dd dtX6_eRead_0 46 rfl) (by decide) (fun h50 => ?_) (fun h50 => ?_)
          · refine WPe_sub [0, 1] rfl ?_
            exact wpj6_eRead_99 X w0 k14 hk14 v.1 v.2.1 z7.2
          · refine WPe_aload_n (pc := 88) 0 (dd dtX6_eRead_0 47 rfl) rfl ?_
            refine WPe_bipush (pc := 89) (13 : Int32) (dd dtX6_eRead_0 48 rfl) (by decide) ?_
            refine WPe_callV (pc := 91) (rtc := rtI) (Mc := mX6_opensOne) (d' := 2) (mc' := 0) (ms' := 0) [vI (13 : Int32)] [] rfl (dd dtX6_eRead_0 49 rfl) (okf6_opensOne v.1 (13 : Int32) z7.2) moX6_opensOne miX6_opensOne (bw_mem4 37 rfl rfl) (Or.inl ⟨_, _, _, _, (e9.at (shE h6) (by decide)), rfl⟩) rfl (Nat.le_of_ble_eq_true rfl) ⟨(Nat.le_of_ble_eq_true rfl), (Nat.le_of_ble_eq_true rfl)⟩ ⟨(Nat.le_of_ble_eq_true rfl), (Nat.le_of_ble_eq_true rfl)⟩ (fun z62 h63 e64 => ?_)
            refine WPe_st (st2 := [vI z62.1]) rfl ?_
            refine WPe_if_ne (pc := 94) 14 (dd dtX6_eRead_1 0 rfl) (by decide) (fun h65 => ?_) (fun h65 => ?_)
            · refine WPe_iconst (pc := 97) (0 : Int32) (dd dtX6_eRead_1 1 rfl) (by decide) ?_
              exact WPe_zreturn (pc := 98) (ty := .boolean) (dd dtX6_eRead_1 2 rfl) rfl rfl rfl ⟨(Nat.le_of_ble_eq_true rfl), (Nat.le_of_ble_eq_true rfl)⟩
            · refine WPe_sub [0, 1, 2] rfl ?_
              exact hk14 (v.1, v.2.1, v.2.2) z62.2
        · refine WPe_sub [0, 1] rfl ?_
          exact wpj6_eRead_99 X w0 k14 hk14 v.1 v.2.1 z7.2
theorem wplb6_eRead_14 (X : CX) (w0 : Wd)  : ∀ (n9 : Nat) (v : Nat × Int32 × Int32) (w : Wd), WPe rtI X (mX6_eRead, 4, 0, 0, w0) 0 0 (loopF (b6_eRead_14 ) n9 v w) 14 [(0, vR v.1), (1, vI v.2.1), (2, vI v.2.2)] [] w :=
  WPe_loop (rt := rtI) (X := X) (M := (mX6_eRead, 4, 0, 0, w0)) (fun v : Nat × Int32 × Int32 => [(0, vR v.1), (1, vI v.2.1), (2, vI v.2.2)]) (fun k hk v w => wpb6_eRead_14 X w0  k hk v w)
noncomputable def f6_eRead (x0 : Nat) (w : Wd) : Option (Int32 × Wd) :=
  ck (tg w x0 = 6) (lw (sI w x0 24 (0 : Int32)) fun w2 => (lw (sI w2 x0 25 (0 : Int32)) fun w4 => (loopF (b6_eRead_14) FU (x0, (1 : Int32), (1 : Int32)) w4)))
theorem wpf6_eRead (X : CX) (w0 : Wd) (x0 : Nat) (w : Wd) : WPe rtI X (mX6_eRead, 4, 0, 0, w0) 0 0 (f6_eRead x0 w) 0 [(0, vR x0)] [] w := by
  unfold f6_eRead
  refine WPe_aload_n (pc := 0) 0 (dd dtX6_eRead_0 0 rfl) rfl ?_
  refine WPe_iconst (pc := 1) (0 : Int32) (dd dtX6_eRead_0 1 rfl) (by decide) ?_
  refine WPe_ck fun h1 => ?_
  refine WPe_putI (pc := 2) (t := 6) (C := RX6) (T := TX6) 24 (dd dtX6_eRead_0 2 rfl) (shE h1) rfl (Nat.le_of_ble_eq_true rfl) (bw_mem4 77 rfl rfl) (Or.inl rfl) rfl rfl rfl ?_
  refine WPe_lw fun w2 e3 => ?_
  refine WPe_aload_n (pc := 5) 0 (dd dtX6_eRead_0 3 rfl) rfl ?_
  refine WPe_iconst (pc := 6) (0 : Int32) (dd dtX6_eRead_0 4 rfl) (by decide) ?_
  refine WPe_putI (pc := 7) (t := 6) (C := RX6) (T := TX6) 25 (dd dtX6_eRead_0 5 rfl) (shI e3 (shE h1)) rfl (Nat.le_of_ble_eq_true rfl) (bw_mem4 78 rfl rfl) (Or.inl rfl) rfl rfl rfl ?_
  refine WPe_lw fun w4 e5 => ?_
  refine WPe_iconst (pc := 10) (1 : Int32) (dd dtX6_eRead_0 6 rfl) (by decide) ?_
  refine WPe_istore_n (pc := 11) (ls' := [(1, vI (1 : Int32)), (0, vR x0)]) (dd dtX6_eRead_0 7 rfl) (Nat.le_of_ble_eq_true rfl) rfl ?_
  refine WPe_iconst (pc := 12) (1 : Int32) (dd dtX6_eRead_0 8 rfl) (by decide) ?_
  refine WPe_istore_n (pc := 13) (ls' := [(2, vI (1 : Int32)), (1, vI (1 : Int32)), (0, vR x0)]) (dd dtX6_eRead_0 9 rfl) (Nat.le_of_ble_eq_true rfl) rfl ?_
  refine WPe_sub [2, 1, 0] rfl ?_
  exact wplb6_eRead_14 X w0  FU _ _
theorem okf6_eRead (x0 : Nat) (w : Wd) : ∀ z, f6_eRead x0 w = some z → OkM mX6_eRead 4 0 0 [vR x0] w (rtI z.1) z.2 :=
  OkM.of (rt := rtI) moX6_eRead (Nat.le_of_ble_eq_true rfl) (fun X => wpf6_eRead X w x0 w)
def tbX6_text : List (Nat × Instr × Nat) := [(0, .aload_n 0, 1), (1, .getfield 89, 3), (4, .bipush 6, 2), (6, .if_icmp .ne 6, 3), (9, .bipush (-4), 2), (11, .ireturn, 1), (12, .aload_n 0, 1), (13, .iconst 0, 1), (14, .putfield 98, 3), (17, .aload_n 0, 1), (18, .iconst 0, 1), (19, .putfield 114, 3), (22, .iconst 1, 1), (23, .istore_n 1, 1), (24, .iconst 0, 1), (25, .istore_n 2, 1), (26, .iload_n 2, 1), (27, .iconst 3, 1), (28, .if_icmp .ge 73, 3), (31, .iload_n 1, 1), (32, .ifCond .eq 69, 3), (35, .aload_n 0, 1), (36, .invokevirtual 137, 3), (39, .aload_n 0, 1), (40, .getfield 104, 3), (43, .iconst 3, 1), (44, .if_icmp .ne 15, 3), (47, .aload_n 0, 1), (48, .getfield 107, 3), (51, .iload_n 2, 1), (52, .if_icmp .ne 7, 3), (55, .iconst 1, 1), (56, .goto 4, 3), (59, .iconst 0, 1), (60, .istore_n 1, 1), (61, .aload_n 0, 1), (62, .getfield 28, 3), (65, .iconst 4, 1), (66, .aload_n 0, 1), (67, .getfield 89, 3), (70, .imul, 1), (71, .iload_n 2, 1), (72, .iadd, 1), (73, .aload_n 0, 1), (74, .getfield 114, 3), (77, .iastore, 1), (78, .iload_n 1, 1), (79, .ifCond .eq 14, 3), (82, .aload_n 0, 1), (83, .invokevirtual 150, 3), (86, .ifCond .eq 7, 3), (89, .iconst 1, 1), (90, .goto 4, 3), (93, .iconst 0, 1), (94, .istore_n 1, 1), (95, .iinc 2 1, 3), (98, .goto (-72), 3), (101, .iload_n 1, 1), (102, .ifCond .eq 20, 3), (105, .aload_n 0, 1), (106, .invokevirtual 137, 3), (109, .aload_n 0, 1), (110, .getfield 104, 3), (113, .ifCond .ne 7, 3), (116, .iconst 1, 1), (117, .goto 4, 3), (120, .iconst 0, 1), (121, .istore_n 1, 1), (122, .aload_n 0, 1), (123, .getfield 28, 3), (126, .iconst 4, 1), (127, .aload_n 0, 1), (128, .getfield 89, 3), (131, .imul, 1), (132, .iconst 3, 1), (133, .iadd, 1), (134, .aload_n 0, 1), (135, .getfield 114, 3), (138, .iastore, 1), (139, .aload_n 0, 1), (140, .iconst 0, 1), (141, .putfield 64, 3), (144, .iload_n 1, 1), (145, .ifCond .ne 11, 3), (148, .bipush (-100), 2), (150, .aload_n 0, 1), (151, .getfield 101, 3), (154, .isub, 1), (155, .ireturn, 1), (156, .aload_n 0, 1), (157, .dup, 1), (158, .getfield 89, 3), (161, .iconst 1, 1), (162, .iadd, 1), (163, .putfield 89, 3), (166, .aload_n 0, 1), (167, .getfield 89, 3), (170, .iconst 1, 1), (171, .isub, 1), (172, .ireturn, 1)]
set_option maxRecDepth 20000 in
theorem dtX6_text : ∀ x ∈ tbX6_text, decode cX6_text x.1 = .ok x.2 := by decide +kernel
noncomputable def j6_text_122  (x0 : Nat) (x1 : Int32) (w : Wd) : Option (Int32 × Wd) :=
  ck (tg w x0 = 6) (ck (tg w (wr w x0 8) = 20 ∧ vp_in (((4 : Int32) * (wi w x0 9)) + (3 : Int32)) (ln w (wr w x0 8))) (lw (sI w (wr w x0 8) ((((4 : Int32) * (wi w x0 9)) + (3 : Int32))).toNatClampNeg (wi w x0 26)) fun w11 => (lw (sI w11 x0 6 (0 : Int32)) fun w13 => (if x1 = (0 : Int32) then (some (((-100 : Int32) - (wi w13 x0 19)), w13)) else (lw (sI w13 x0 9 ((wi w13 x0 9) + (1 : Int32))) fun w16 => (some (((wi w16 x0 9) - (1 : Int32)), w16)))))))
theorem wpj6_text_122 (X : CX) (w0 : Wd)  (x0 : Nat) (x1 : Int32) (w : Wd) : WPe rtI X (mX6_text, 5, 0, 0, w0) 0 0 (j6_text_122  x0 x1 w) 122 [(0, vR x0), (1, vI x1)] [] w := by
  unfold j6_text_122
  refine WPe_aload_n (pc := 122) 0 (dd dtX6_text 68 rfl) rfl ?_
  refine WPe_ck fun h9 => ?_
  refine WPe_getR (pc := 123) (t := 6) (C := RX6) (T := TX6) 8 (dd dtX6_text 69 rfl) (shE h9) rfl (Nat.le_of_ble_eq_true rfl) rfl (bw_mem4 61 rfl rfl) ?_
  refine WPe_iconst (pc := 126) (4 : Int32) (dd dtX6_text 70 rfl) (by decide) ?_
  refine WPe_aload_n (pc := 127) 0 (dd dtX6_text 71 rfl) rfl ?_
  refine WPe_getI (pc := 128) (t := 6) (C := RX6) (T := TX6) 9 (dd dtX6_text 72 rfl) (shE h9) rfl (Nat.le_of_ble_eq_true rfl) rfl (bw_mem4 62 rfl rfl) ?_
  refine WPe_imul (pc := 131) (dd dtX6_text 73 rfl) ?_
  refine WPe_iconst (pc := 132) (3 : Int32) (dd dtX6_text 74 rfl) (by decide) ?_
  refine WPe_iadd (pc := 133) (dd dtX6_text 75 rfl) ?_
  refine WPe_aload_n (pc := 134) 0 (dd dtX6_text 76 rfl) rfl ?_
  refine WPe_getI (pc := 135) (t := 6) (C := RX6) (T := TX6) 26 (dd dtX6_text 77 rfl) (shE h9) rfl (Nat.le_of_ble_eq_true rfl) rfl (bw_mem4 79 rfl rfl) ?_
  refine WPe_ck fun h10 => ?_
  refine WPe_iast (pc := 138) (dd dtX6_text 78 rfl) (shE h10.1) h10.2 ?_
  refine WPe_lw fun w11 e12 => ?_
  refine WPe_aload_n (pc := 139) 0 (dd dtX6_text 79 rfl) rfl ?_
  refine WPe_iconst (pc := 140) (0 : Int32) (dd dtX6_text 80 rfl) (by decide) ?_
  refine WPe_putI (pc := 141) (t := 6) (C := RX6) (T := TX6) 6 (dd dtX6_text 81 rfl) (shI e12 (shE h9)) rfl (Nat.le_of_ble_eq_true rfl) (bw_mem4 59 rfl rfl) (Or.inl rfl) rfl rfl rfl ?_
  refine WPe_lw fun w13 e14 => ?_
  refine WPe_iload_n (pc := 144) 1 (dd dtX6_text 82 rfl) rfl ?_
  refine WPe_if_ne (pc := 145) 156 (dd dtX6_text 83 rfl) (by decide) (fun h15 => ?_) (fun h15 => ?_)
  · refine WPe_bipush (pc := 148) (-100 : Int32) (dd dtX6_text 84 rfl) (by decide) ?_
    refine WPe_aload_n (pc := 150) 0 (dd dtX6_text 85 rfl) rfl ?_
    refine WPe_getI (pc := 151) (t := 6) (C := RX6) (T := TX6) 19 (dd dtX6_text 86 rfl) (shI e14 (shI e12 (shE h9))) rfl (Nat.le_of_ble_eq_true rfl) rfl (bw_mem4 72 rfl rfl) ?_
    refine WPe_isub (pc := 154) (dd dtX6_text 87 rfl) ?_
    exact WPe_ireturn (pc := 155) (dd dtX6_text 88 rfl) rfl rfl ⟨(Nat.le_of_ble_eq_true rfl), (Nat.le_of_ble_eq_true rfl)⟩
  · refine WPe_aload_n (pc := 156) 0 (dd dtX6_text 89 rfl) rfl ?_
    refine WPe_dup (pc := 157) (dd dtX6_text 90 rfl) rfl ?_
    refine WPe_getI (pc := 158) (t := 6) (C := RX6) (T := TX6) 9 (dd dtX6_text 91 rfl) (shI e14 (shI e12 (shE h9))) rfl (Nat.le_of_ble_eq_true rfl) rfl (bw_mem4 62 rfl rfl) ?_
    refine WPe_iconst (pc := 161) (1 : Int32) (dd dtX6_text 92 rfl) (by decide) ?_
    refine WPe_iadd (pc := 162) (dd dtX6_text 93 rfl) ?_
    refine WPe_putI (pc := 163) (t := 6) (C := RX6) (T := TX6) 9 (dd dtX6_text 94 rfl) (shI e14 (shI e12 (shE h9))) rfl (Nat.le_of_ble_eq_true rfl) (bw_mem4 62 rfl rfl) (Or.inl rfl) rfl rfl rfl ?_
    refine WPe_lw fun w16 e17 => ?_
    refine WPe_aload_n (pc := 166) 0 (dd dtX6_text 95 rfl) rfl ?_
    refine WPe_getI (pc := 167) (t := 6) (C := RX6) (T := TX6) 9 (dd dtX6_text 96 rfl) (shI e17 (shI e14 (shI e12 (shE h9)))) rfl (Nat.le_of_ble_eq_true rfl) rfl (bw_mem4 62 rfl rfl) ?_
    refine WPe_iconst (pc := 170) (1 : Int32) (dd dtX6_text 97 rfl) (by decide) ?_
    refine WPe_isub (pc := 171) (dd dtX6_text 98 rfl) ?_
    exact WPe_ireturn (pc := 172) (dd dtX6_text 99 rfl) rfl rfl ⟨(Nat.le_of_ble_eq_true rfl), (Nat.le_of_ble_eq_true rfl)⟩
noncomputable def j6_text_121  (x0 : Nat) (s0 : Int32) (w : Wd) : Option (Int32 × Wd) :=
  j6_text_122 x0 s0 w
theorem wpj6_text_121 (X : CX) (w0 : Wd)  (x0 : Nat) (s0 : Int32) (w : Wd) : WPe rtI X (mX6_text, 5, 0, 0, w0) 0 0 (j6_text_121  x0 s0 w) 121 [(0, vR x0)] [vI s0] w := by
  unfold j6_text_121
  refine WPe_istore_n (pc := 121) (ls' := [(1, vI s0), (0, vR x0)]) (dd dtX6_text 67 rfl) (Nat.le_of_ble_eq_true rfl) rfl ?_
  refine WPe_sub [1, 0] rfl ?_
  exact wpj6_text_122 X w0  x0 s0 w
noncomputable def j6_text_101  (x0 : Nat) (x1 : Int32) (w : Wd) : Option (Int32 × Wd) :=
  if x1 = (0 : Int32) then (j6_text_122 x0 x1 w) else (ck (tg w x0 = 6) ((f6_next x0 w).bind fun z19 => (if (wi z19.2 x0 20) = (0 : Int32) then (j6_text_121 x0 (1 : Int32) z19.2) else (j6_text_121 x0 (0 : Int32) z19.2))))
theorem wpj6_text_101 (X : CX) (w0 : Wd)  (x0 : Nat) (x1 : Int32) (w : Wd) : WPe rtI X (mX6_text, 5, 0, 0, w0) 0 0 (j6_text_101  x0 x1 w) 101 [(0, vR x0), (1, vI x1)] [] w := by
  unfold j6_text_101
  refine WPe_iload_n (pc := 101) 1 (dd dtX6_text 57 rfl) rfl ?_
  refine WPe_if_eq (pc := 102) 122 (dd dtX6_text 58 rfl) (by decide) (fun h8 => ?_) (fun h8 => ?_)
  · refine WPe_sub [0, 1] rfl ?_
    exact wpj6_text_122 X w0  x0 x1 w
  · refine WPe_aload_n (pc := 105) 0 (dd dtX6_text 59 rfl) rfl ?_
    refine WPe_ck fun h18 => ?_
    refine WPe_callV (pc := 106) (rtc := rtV) (Mc := mX6_next) (d' := 2) (mc' := 0) (ms' := 0) [] [] rfl (dd dtX6_text 60 rfl) (okf6_next x0 w) moX6_next miX6_next (bw_mem4 10 rfl rfl) (Or.inl ⟨_, _, _, _, (shE h18), rfl⟩) rfl (Nat.le_of_ble_eq_true rfl) ⟨(Nat.le_of_ble_eq_true rfl), (Nat.le_of_ble_eq_true rfl)⟩ ⟨(Nat.le_of_ble_eq_true rfl), (Nat.le_of_ble_eq_true rfl)⟩ (fun z19 h20 e21 => ?_)
    refine WPe_st (st2 := []) rfl ?_
    refine WPe_aload_n (pc := 109) 0 (dd dtX6_text 61 rfl) rfl ?_
    refine WPe_getI (pc := 110) (t := 6) (C := RX6) (T := TX6) 20 (dd dtX6_text 62 rfl) (e21.at (shE h18) (by decide)) rfl (Nat.le_of_ble_eq_true rfl) rfl (bw_mem4 73 rfl rfl) ?_
    refine WPe_if_ne (pc := 113) 120 (dd dtX6_text 63 rfl) (by decide) (fun h22 => ?_) (fun h22 => ?_)
    · refine WPe_iconst (pc := 116) (1 : Int32) (dd dtX6_text 64 rfl) (by decide) ?_
      refine WPe_goto (pc := 117) 121 (dd dtX6_text 65 rfl) (by decide) ?_
      refine WPe_sub [0] rfl ?_
      exact wpj6_text_121 X w0  x0 (1 : Int32) z19.2
    · refine WPe_iconst (pc := 120) (0 : Int32) (dd dtX6_text 66 rfl) (by decide) ?_
      refine WPe_sub [0] rfl ?_
      exact wpj6_text_121 X w0  x0 (0 : Int32) z19.2
noncomputable def j6_text_94 (k26 : Nat × Int32 × Int32 → Wd → Option (Int32 × Wd)) (x0 : Nat) (x2 : Int32) (s0 : Int32) (w : Wd) : Option (Int32 × Wd) :=
  k26 (x0, s0, (x2 + (1 : Int32))) w
theorem wpj6_text_94 (X : CX) (w0 : Wd) (k26 : Nat × Int32 × Int32 → Wd → Option (Int32 × Wd)) (hk26 : ∀ (v : Nat × Int32 × Int32) (w : Wd), WPe rtI X (mX6_text, 5, 0, 0, w0) 0 0 (k26 v w) 26 [(0, vR v.1), (1, vI v.2.1), (2, vI v.2.2)] [] w) (x0 : Nat) (x2 : Int32) (s0 : Int32) (w : Wd) : WPe rtI X (mX6_text, 5, 0, 0, w0) 0 0 (j6_text_94 k26 x0 x2 s0 w) 94 [(0, vR x0), (2, vI x2)] [vI s0] w := by
  unfold j6_text_94
  refine WPe_istore_n (pc := 94) (ls' := [(1, vI s0), (0, vR x0), (2, vI x2)]) (dd dtX6_text 54 rfl) (Nat.le_of_ble_eq_true rfl) rfl ?_
  refine WPe_iinc (pc := 95) (ls' := [(2, vI (x2 + (1 : Int32))), (1, vI s0), (0, vR x0)]) 2 (x2 + (1 : Int32)) (dd dtX6_text 55 rfl) rfl (congrArg (HAdd.hAdd _) (by decide : Int32.ofInt (1) = (1 : Int32))) (Nat.le_of_ble_eq_true rfl) rfl ?_
  refine WPe_goto (pc := 98) 26 (dd dtX6_text 56 rfl) (by decide) ?_
  refine WPe_sub [2, 1, 0] rfl ?_
  exact hk26 (x0, s0, (x2 + (1 : Int32))) w
noncomputable def j6_text_93 (k26 : Nat × Int32 × Int32 → Wd → Option (Int32 × Wd)) (x0 : Nat) (x2 : Int32) (w : Wd) : Option (Int32 × Wd) :=
  j6_text_94 k26 x0 x2 (0 : Int32) w
theorem wpj6_text_93 (X : CX) (w0 : Wd) (k26 : Nat × Int32 × Int32 → Wd → Option (Int32 × Wd)) (hk26 : ∀ (v : Nat × Int32 × Int32) (w : Wd), WPe rtI X (mX6_text, 5, 0, 0, w0) 0 0 (k26 v w) 26 [(0, vR v.1), (1, vI v.2.1), (2, vI v.2.2)] [] w) (x0 : Nat) (x2 : Int32) (w : Wd) : WPe rtI X (mX6_text, 5, 0, 0, w0) 0 0 (j6_text_93 k26 x0 x2 w) 93 [(0, vR x0), (2, vI x2)] [] w := by
  unfold j6_text_93
  refine WPe_iconst (pc := 93) (0 : Int32) (dd dtX6_text 53 rfl) (by decide) ?_
  refine WPe_sub [0, 1] rfl ?_
  exact wpj6_text_94 X w0 k26 hk26 x0 x2 (0 : Int32) w
noncomputable def j6_text_60 (k26 : Nat × Int32 × Int32 → Wd → Option (Int32 × Wd)) (x0 : Nat) (x2 : Int32) (s0 : Int32) (w : Wd) : Option (Int32 × Wd) :=
  ck (tg w x0 = 6) (ck (tg w (wr w x0 8) = 20 ∧ vp_in (((4 : Int32) * (wi w x0 9)) + x2) (ln w (wr w x0 8))) (lw (sI w (wr w x0 8) ((((4 : Int32) * (wi w x0 9)) + x2)).toNatClampNeg (wi w x0 26)) fun w32 => (if s0 = (0 : Int32) then (j6_text_93 k26 x0 x2 w32) else ((f6_eRead x0 w32).bind fun z35 => (if z35.1 = (0 : Int32) then (j6_text_93 k26 x0 x2 z35.2) else (j6_text_94 k26 x0 x2 (1 : Int32) z35.2))))))
theorem wpj6_text_60 (X : CX) (w0 : Wd) (k26 : Nat × Int32 × Int32 → Wd → Option (Int32 × Wd)) (hk26 : ∀ (v : Nat × Int32 × Int32) (w : Wd), WPe rtI X (mX6_text, 5, 0, 0, w0) 0 0 (k26 v w) 26 [(0, vR v.1), (1, vI v.2.1), (2, vI v.2.2)] [] w) (x0 : Nat) (x2 : Int32) (s0 : Int32) (w : Wd) : WPe rtI X (mX6_text, 5, 0, 0, w0) 0 0 (j6_text_60 k26 x0 x2 s0 w) 60 [(0, vR x0), (2, vI x2)] [vI s0] w := by
  unfold j6_text_60
  refine WPe_istore_n (pc := 60) (ls' := [(1, vI s0), (0, vR x0), (2, vI x2)]) (dd dtX6_text 34 rfl) (Nat.le_of_ble_eq_true rfl) rfl ?_
  refine WPe_aload_n (pc := 61) 1 (dd dtX6_text 35 rfl) rfl ?_
  refine WPe_ck fun h30 => ?_
  refine WPe_getR (pc := 62) (t := 6) (C := RX6) (T := TX6) 8 (dd dtX6_text 36 rfl) (shE h30) rfl (Nat.le_of_ble_eq_true rfl) rfl (bw_mem4 61 rfl rfl) ?_
  refine WPe_iconst (pc := 65) (4 : Int32) (dd dtX6_text 37 rfl) (by decide) ?_
  refine WPe_aload_n (pc := 66) 1 (dd dtX6_text 38 rfl) rfl ?_
  refine WPe_getI (pc := 67) (t := 6) (C := RX6) (T := TX6) 9 (dd dtX6_text 39 rfl) (shE h30) rfl (Nat.le_of_ble_eq_true rfl) rfl (bw_mem4 62 rfl rfl) ?_
  refine WPe_imul (pc := 70) (dd dtX6_text 40 rfl) ?_
  refine WPe_iload_n (pc := 71) 2 (dd dtX6_text 41 rfl) rfl ?_
  refine WPe_iadd (pc := 72) (dd dtX6_text 42 rfl) ?_
  refine WPe_aload_n (pc := 73) 1 (dd dtX6_text 43 rfl) rfl ?_
  refine WPe_getI (pc := 74) (t := 6) (C := RX6) (T := TX6) 26 (dd dtX6_text 44 rfl) (shE h30) rfl (Nat.le_of_ble_eq_true rfl) rfl (bw_mem4 79 rfl rfl) ?_
  refine WPe_ck fun h31 => ?_
  refine WPe_iast (pc := 77) (dd dtX6_text 45 rfl) (shE h31.1) h31.2 ?_
  refine WPe_lw fun w32 e33 => ?_
  refine WPe_iload_n (pc := 78) 0 (dd dtX6_text 46 rfl) rfl ?_
  refine WPe_if_eq (pc := 79) 93 (dd dtX6_text 47 rfl) (by decide) (fun h34 => ?_) (fun h34 => ?_)
  · refine WPe_sub [1, 2] rfl ?_
    exact wpj6_text_93 X w0 k26 hk26 x0 x2 w32
  · refine WPe_aload_n (pc := 82) 1 (dd dtX6_text 48 rfl) rfl ?_
    refine WPe_callV (pc := 83) (rtc := rtI) (Mc := mX6_eRead) (d' := 4) (mc' := 0) (ms' := 0) [] [] rfl (dd dtX6_text 49 rfl) (okf6_eRead x0 w32) moX6_eRead miX6_eRead (bw_mem4 21 rfl rfl) (Or.inl ⟨_, _, _, _, (shI e33 (shE h30)), rfl⟩) rfl (Nat.le_of_ble_eq_true rfl) ⟨(Nat.le_of_ble_eq_true rfl), (Nat.le_of_ble_eq_true rfl)⟩ ⟨(Nat.le_of_ble_eq_true rfl), (Nat.le_of_ble_eq_true rfl)⟩ (fun z35 h36 e37 => ?_)
    refine WPe_st (st2 := [vI z35.1]) rfl ?_
    refine WPe_if_eq (pc := 86) 93 (dd dtX6_text 50 rfl) (by decide) (fun h38 => ?_) (fun h38 => ?_)
    · refine WPe_sub [1, 2] rfl ?_
      exact wpj6_text_93 X w0 k26 hk26 x0 x2 z35.2
    · refine WPe_iconst (pc := 89) (1 : Int32) (dd dtX6_text 51 rfl) (by decide) ?_
      refine WPe_goto (pc := 90) 94 (dd dtX6_text 52 rfl) (by decide) ?_
      refine WPe_sub [1, 2] rfl ?_
      exact wpj6_text_94 X w0 k26 hk26 x0 x2 (1 : Int32) z35.2
noncomputable def j6_text_59 (k26 : Nat × Int32 × Int32 → Wd → Option (Int32 × Wd)) (x0 : Nat) (x2 : Int32) (w : Wd) : Option (Int32 × Wd) :=
  j6_text_60 k26 x0 x2 (0 : Int32) w
theorem wpj6_text_59 (X : CX) (w0 : Wd) (k26 : Nat × Int32 × Int32 → Wd → Option (Int32 × Wd)) (hk26 : ∀ (v : Nat × Int32 × Int32) (w : Wd), WPe rtI X (mX6_text, 5, 0, 0, w0) 0 0 (k26 v w) 26 [(0, vR v.1), (1, vI v.2.1), (2, vI v.2.2)] [] w) (x0 : Nat) (x2 : Int32) (w : Wd) : WPe rtI X (mX6_text, 5, 0, 0, w0) 0 0 (j6_text_59 k26 x0 x2 w) 59 [(0, vR x0), (2, vI x2)] [] w := by
  unfold j6_text_59
  refine WPe_iconst (pc := 59) (0 : Int32) (dd dtX6_text 33 rfl) (by decide) ?_
  refine WPe_sub [0, 1] rfl ?_
  exact wpj6_text_60 X w0 k26 hk26 x0 x2 (0 : Int32) w
noncomputable def b6_text_26 (k26 : Nat × Int32 × Int32 → Wd → Option (Int32 × Wd)) (v : Nat × Int32 × Int32) (w : Wd) : Option (Int32 × Wd) :=
  if (3 : Int32) ≤ v.2.2 then (j6_text_101 v.1 v.2.1 w) else (if v.2.1 = (0 : Int32) then (j6_text_101 v.1 v.2.1 w) else (ck (tg w v.1 = 6) ((f6_next v.1 w).bind fun z25 => (if (wi z25.2 v.1 20) = (3 : Int32) then (if (wi z25.2 v.1 21) = v.2.2 then (j6_text_60 k26 v.1 v.2.2 (1 : Int32) z25.2) else (j6_text_59 k26 v.1 v.2.2 z25.2)) else (j6_text_59 k26 v.1 v.2.2 z25.2)))))
theorem wpb6_text_26 (X : CX) (w0 : Wd) (k26 : Nat × Int32 × Int32 → Wd → Option (Int32 × Wd)) (hk26 : ∀ (v : Nat × Int32 × Int32) (w : Wd), WPe rtI X (mX6_text, 5, 0, 0, w0) 0 0 (k26 v w) 26 [(0, vR v.1), (1, vI v.2.1), (2, vI v.2.2)] [] w) (v : Nat × Int32 × Int32) (w : Wd) : WPe rtI X (mX6_text, 5, 0, 0, w0) 0 0 (b6_text_26 k26 v w) 26 [(0, vR v.1), (1, vI v.2.1), (2, vI v.2.2)] [] w := by
  unfold b6_text_26
  refine WPe_iload_n (pc := 26) 2 (dd dtX6_text 16 rfl) rfl ?_
  refine WPe_iconst (pc := 27) (3 : Int32) (dd dtX6_text 17 rfl) (by decide) ?_
  refine WPe_icmp_ge (pc := 28) 101 (dd dtX6_text 18 rfl) (by decide) (fun h7 => ?_) (fun h7 => ?_)
  · refine WPe_sub [0, 1] rfl ?_
    exact wpj6_text_101 X w0  v.1 v.2.1 w
  · refine WPe_iload_n (pc := 31) 1 (dd dtX6_text 19 rfl) rfl ?_
    refine WPe_if_eq (pc := 32) 101 (dd dtX6_text 20 rfl) (by decide) (fun h23 => ?_) (fun h23 => ?_)
    · refine WPe_sub [0, 1] rfl ?_
      exact wpj6_text_101 X w0  v.1 v.2.1 w
    · refine WPe_aload_n (pc := 35) 0 (dd dtX6_text 21 rfl) rfl ?_
      refine WPe_ck fun h24 => ?_
      refine WPe_callV (pc := 36) (rtc := rtV) (Mc := mX6_next) (d' := 2) (mc' := 0) (ms' := 0) [] [] rfl (dd dtX6_text 22 rfl) (okf6_next v.1 w) moX6_next miX6_next (bw_mem4 10 rfl rfl) (Or.inl ⟨_, _, _, _, (shE h24), rfl⟩) rfl (Nat.le_of_ble_eq_true rfl) ⟨(Nat.le_of_ble_eq_true rfl), (Nat.le_of_ble_eq_true rfl)⟩ ⟨(Nat.le_of_ble_eq_true rfl), (Nat.le_of_ble_eq_true rfl)⟩ (fun z25 h26 e27 => ?_)
      refine WPe_st (st2 := []) rfl ?_
      refine WPe_aload_n (pc := 39) 0 (dd dtX6_text 23 rfl) rfl ?_
      refine WPe_getI (pc := 40) (t := 6) (C := RX6) (T := TX6) 20 (dd dtX6_text 24 rfl) (e27.at (shE h24) (by decide)) rfl (Nat.le_of_ble_eq_true rfl) rfl (bw_mem4 73 rfl rfl) ?_
      refine WPe_iconst (pc := 43) (3 : Int32) (dd dtX6_text 25 rfl) (by decide) ?_
      refine WPe_icmp_ne (pc := 44) 59 (dd dtX6_text 26 rfl) (by decide) (fun h28 => ?_) (fun h28 => ?_)
      · refine WPe_aload_n (pc := 47) 0 (dd dtX6_text 27 rfl) rfl ?_
        refine WPe_getI (pc := 48) (t := 6) (C := RX6) (T := TX6) 21 (dd dtX6_text 28 rfl) (e27.at (shE h24) (by decide)) rfl (Nat.le_of_ble_eq_true rfl) rfl (bw_mem4 74 rfl rfl) ?_
        refine WPe_iload_n (pc := 51) 2 (dd dtX6_text 29 rfl) rfl ?_
        refine WPe_icmp_ne (pc := 52) 59 (dd dtX6_text 30 rfl) (by decide) (fun h29 => ?_) (fun h29 => ?_)
        · refine WPe_iconst (pc := 55) (1 : Int32) (dd dtX6_text 31 rfl) (by decide) ?_
          refine WPe_goto (pc := 56) 60 (dd dtX6_text 32 rfl) (by decide) ?_
          refine WPe_sub [0, 2] rfl ?_
          exact wpj6_text_60 X w0 k26 hk26 v.1 v.2.2 (1 : Int32) z25.2
        · refine WPe_sub [0, 2] rfl ?_
          exact wpj6_text_59 X w0 k26 hk26 v.1 v.2.2 z25.2
      · refine WPe_sub [0, 2] rfl ?_
        exact wpj6_text_59 X w0 k26 hk26 v.1 v.2.2 z25.2
theorem wplb6_text_26 (X : CX) (w0 : Wd)  : ∀ (n9 : Nat) (v : Nat × Int32 × Int32) (w : Wd), WPe rtI X (mX6_text, 5, 0, 0, w0) 0 0 (loopF (b6_text_26 ) n9 v w) 26 [(0, vR v.1), (1, vI v.2.1), (2, vI v.2.2)] [] w :=
  WPe_loop (rt := rtI) (X := X) (M := (mX6_text, 5, 0, 0, w0)) (fun v : Nat × Int32 × Int32 => [(0, vR v.1), (1, vI v.2.1), (2, vI v.2.2)]) (fun k hk v w => wpb6_text_26 X w0  k hk v w)
noncomputable def f6_text (x0 : Nat) (w : Wd) : Option (Int32 × Wd) :=
  ck (tg w x0 = 6) (if (wi w x0 9) = (6 : Int32) then (some ((-4 : Int32), w)) else (lw (sI w x0 18 (0 : Int32)) fun w3 => (lw (sI w3 x0 26 (0 : Int32)) fun w5 => (loopF (b6_text_26) FU (x0, (1 : Int32), (0 : Int32)) w5))))
theorem wpf6_text (X : CX) (w0 : Wd) (x0 : Nat) (w : Wd) : WPe rtI X (mX6_text, 5, 0, 0, w0) 0 0 (f6_text x0 w) 0 [(0, vR x0)] [] w := by
  unfold f6_text
  refine WPe_aload_n (pc := 0) 0 (dd dtX6_text 0 rfl) rfl ?_
  refine WPe_ck fun h1 => ?_
  refine WPe_getI (pc := 1) (t := 6) (C := RX6) (T := TX6) 9 (dd dtX6_text 1 rfl) (shE h1) rfl (Nat.le_of_ble_eq_true rfl) rfl (bw_mem4 62 rfl rfl) ?_
  refine WPe_bipush (pc := 4) (6 : Int32) (dd dtX6_text 2 rfl) (by decide) ?_
  refine WPe_icmp_ne (pc := 6) 12 (dd dtX6_text 3 rfl) (by decide) (fun h2 => ?_) (fun h2 => ?_)
  · refine WPe_bipush (pc := 9) (-4 : Int32) (dd dtX6_text 4 rfl) (by decide) ?_
    exact WPe_ireturn (pc := 11) (dd dtX6_text 5 rfl) rfl rfl ⟨(Nat.le_of_ble_eq_true rfl), (Nat.le_of_ble_eq_true rfl)⟩
  · refine WPe_aload_n (pc := 12) 0 (dd dtX6_text 6 rfl) rfl ?_
    refine WPe_iconst (pc := 13) (0 : Int32) (dd dtX6_text 7 rfl) (by decide) ?_
    refine WPe_putI (pc := 14) (t := 6) (C := RX6) (T := TX6) 18 (dd dtX6_text 8 rfl) (shE h1) rfl (Nat.le_of_ble_eq_true rfl) (bw_mem4 71 rfl rfl) (Or.inl rfl) rfl rfl rfl ?_
    refine WPe_lw fun w3 e4 => ?_
    refine WPe_aload_n (pc := 17) 0 (dd dtX6_text 9 rfl) rfl ?_
    refine WPe_iconst (pc := 18) (0 : Int32) (dd dtX6_text 10 rfl) (by decide) ?_
    refine WPe_putI (pc := 19) (t := 6) (C := RX6) (T := TX6) 26 (dd dtX6_text 11 rfl) (shI e4 (shE h1)) rfl (Nat.le_of_ble_eq_true rfl) (bw_mem4 79 rfl rfl) (Or.inl rfl) rfl rfl rfl ?_
    refine WPe_lw fun w5 e6 => ?_
    refine WPe_iconst (pc := 22) (1 : Int32) (dd dtX6_text 12 rfl) (by decide) ?_
    refine WPe_istore_n (pc := 23) (ls' := [(1, vI (1 : Int32)), (0, vR x0)]) (dd dtX6_text 13 rfl) (Nat.le_of_ble_eq_true rfl) rfl ?_
    refine WPe_iconst (pc := 24) (0 : Int32) (dd dtX6_text 14 rfl) (by decide) ?_
    refine WPe_istore_n (pc := 25) (ls' := [(2, vI (0 : Int32)), (1, vI (1 : Int32)), (0, vR x0)]) (dd dtX6_text 15 rfl) (Nat.le_of_ble_eq_true rfl) rfl ?_
    refine WPe_sub [2, 1, 0] rfl ?_
    exact wplb6_text_26 X w0  FU _ _
theorem okf6_text (x0 : Nat) (w : Wd) : ∀ z, f6_text x0 w = some z → OkM mX6_text 5 0 0 [vR x0] w (rtI z.1) z.2 :=
  OkM.of (rt := rtI) moX6_text (Nat.le_of_ble_eq_true rfl) (fun X => wpf6_text X w x0 w)
def tbX6_init_0 : List (Nat × Instr × Nat) := [(0, .aload_n 0, 1), (1, .invokespecial 1, 3), (4, .aload_n 0, 1), (5, .bipush 6, 2), (7, .newarray .int, 2), (9, .putfield 7, 3), (12, .aload_n 0, 1), (13, .bipush 6, 2), (15, .newarray .int, 2), (17, .putfield 13, 3), (20, .aload_n 0, 1), (21, .bipush 18, 2), (23, .newarray .int, 2), (25, .putfield 16, 3), (28, .aload_n 0, 1), (29, .iconst 4, 1), (30, .newarray .int, 2), (32, .dup, 1), (33, .iconst 0, 1), (34, .iconst 0, 1), (35, .iastore, 1), (36, .dup, 1), (37, .iconst 1, 1), (38, .sipush 200, 3), (41, .iastore, 1), (42, .dup, 1), (43, .iconst 2, 1), (44, .iconst 0, 1), (45, .iastore, 1), (46, .dup, 1), (47, .iconst 3, 1), (48, .iconst 5, 1), (49, .iastore, 1), (50, .putfield 19, 3), (53, .aload_n 0, 1), (54, .sipush 160, 3), (57, .newarray .int, 2), (59, .putfield 22, 3), (62, .aload_n 0, 1), (63, .sipush 1200, 3), (66, .newarray .int, 2), (68, .putfield 25, 3), (71, .aload_n 0, 1), (72, .bipush 24, 2), (74, .newarray .int, 2), (76, .putfield 28, 3), (79, .aload_n 0, 1), (80, .bipush 22, 2), (82, .newarray .int, 2), (84, .putfield 31, 3)]
set_option maxRecDepth 20000 in
theorem dtX6_init_0 : ∀ x ∈ tbX6_init_0, decode cX6_init x.1 = .ok x.2 := by decide +kernel
def tbX6_init_1 : List (Nat × Instr × Nat) := [(87, .aload_n 0, 1), (88, .iconst 2, 1), (89, .newarray .int, 2), (91, .putfield 34, 3), (94, .aload_n 0, 1), (95, .iconst 4, 1), (96, .newarray .int, 2), (98, .dup, 1), (99, .iconst 0, 1), (100, .iconst (-1), 1), (101, .iastore, 1), (102, .dup, 1), (103, .iconst 1, 1), (104, .iconst (-1), 1), (105, .iastore, 1), (106, .dup, 1), (107, .iconst 2, 1), (108, .iconst (-1), 1), (109, .iastore, 1), (110, .dup, 1), (111, .iconst 3, 1), (112, .iconst (-1), 1), (113, .iastore, 1), (114, .putfield 37, 3), (117, .aload_n 0, 1), (118, .iconst 4, 1), (119, .newarray .int, 2), (121, .putfield 40, 3), (124, .aload_n 0, 1), (125, .sipush 160, 3), (128, .newarray .int, 2), (130, .putfield 43, 3), (133, .aload_n 0, 1), (134, .bipush 53, 2), (136, .newarray .int, 2), (138, .dup, 1), (139, .iconst 0, 1), (140, .bipush 102, 2), (142, .iastore, 1), (143, .dup, 1), (144, .iconst 1, 1), (145, .bipush 101, 2), (147, .iastore, 1), (148, .dup, 1), (149, .iconst 2, 1), (150, .bipush 101, 2), (152, .iastore, 1), (153, .dup, 1), (154, .iconst 3, 1), (155, .bipush 108, 2)]
set_option maxRecDepth 20000 in
theorem dtX6_init_1 : ∀ x ∈ tbX6_init_1, decode cX6_init x.1 = .ok x.2 := by decide +kernel
def tbX6_init_2 : List (Nat × Instr × Nat) := [(157, .iastore, 1), (158, .dup, 1), (159, .iconst 4, 1), (160, .bipush 115, 2), (162, .iastore, 1), (163, .dup, 1), (164, .iconst 5, 1), (165, .bipush 32, 2), (167, .iastore, 1), (168, .dup, 1), (169, .bipush 6, 2), (171, .bipush 49, 2), (173, .iastore, 1), (174, .dup, 1), (175, .bipush 7, 2), (177, .bipush 32, 2), (179, .iastore, 1), (180, .dup, 1), (181, .bipush 8, 2), (183, .bipush 43, 2), (185, .iastore, 1), (186, .dup, 1), (187, .bipush 9, 2), (189, .bipush 32, 2), (191, .iastore, 1), (192, .dup, 1), (193, .bipush 10, 2), (195, .bipush 98, 2), (197, .iastore, 1), (198, .dup, 1), (199, .bipush 11, 2), (201, .bipush 101, 2), (203, .iastore, 1), (204, .dup, 1), (205, .bipush 12, 2), (207, .bipush 110, 2), (209, .iastore, 1), (210, .dup, 1), (211, .bipush 13, 2), (213, .bipush 99, 2), (215, .iastore, 1), (216, .dup, 1), (217, .bipush 14, 2), (219, .bipush 104, 2), (221, .iastore, 1), (222, .dup, 1), (223, .bipush 15, 2), (225, .bipush 32, 2), (227, .iastore, 1), (228, .dup, 1)]
set_option maxRecDepth 20000 in
theorem dtX6_init_2 : ∀ x ∈ tbX6_init_2, decode cX6_init x.1 = .ok x.2 := by decide +kernel
def tbX6_init_3 : List (Nat × Instr × Nat) := [(229, .bipush 16, 2), (231, .bipush 43, 2), (233, .iastore, 1), (234, .dup, 1), (235, .bipush 17, 2), (237, .bipush 32, 2), (239, .iastore, 1), (240, .dup, 1), (241, .bipush 18, 2), (243, .bipush 115, 2), (245, .iastore, 1), (246, .dup, 1), (247, .bipush 19, 2), (249, .bipush 116, 2), (251, .iastore, 1), (252, .dup, 1), (253, .bipush 20, 2), (255, .bipush 101, 2), (257, .iastore, 1), (258, .dup, 1), (259, .bipush 21, 2), (261, .bipush 97, 2), (263, .iastore, 1), (264, .dup, 1), (265, .bipush 22, 2), (267, .bipush 109, 2), (269, .iastore, 1), (270, .dup, 1), (271, .bipush 23, 2), (273, .bipush 32, 2), (275, .iastore, 1), (276, .dup, 1), (277, .bipush 24, 2), (279, .bipush 59, 2), (281, .iastore, 1), (282, .dup, 1), (283, .bipush 25, 2), (285, .bipush 32, 2), (287, .iastore, 1), (288, .dup, 1), (289, .bipush 26, 2), (291, .bipush 98, 2), (293, .iastore, 1), (294, .dup, 1), (295, .bipush 27, 2), (297, .bipush 101, 2), (299, .iastore, 1), (300, .dup, 1), (301, .bipush 28, 2), (303, .bipush 97, 2)]
set_option maxRecDepth 20000 in
theorem dtX6_init_3 : ∀ x ∈ tbX6_init_3, decode cX6_init x.1 = .ok x.2 := by decide +kernel
def tbX6_init_4 : List (Nat × Instr × Nat) := [(305, .iastore, 1), (306, .dup, 1), (307, .bipush 29, 2), (309, .bipush 114, 2), (311, .iastore, 1), (312, .dup, 1), (313, .bipush 30, 2), (315, .bipush 115, 2), (317, .iastore, 1), (318, .dup, 1), (319, .bipush 31, 2), (321, .bipush 32, 2), (323, .iastore, 1), (324, .dup, 1), (325, .bipush 32, 2), (327, .bipush 54, 2), (329, .iastore, 1), (330, .dup, 1), (331, .bipush 33, 2), (333, .bipush 48, 2), (335, .iastore, 1), (336, .dup, 1), (337, .bipush 34, 2), (339, .bipush 32, 2), (341, .iastore, 1), (342, .dup, 1), (343, .bipush 35, 2), (345, .bipush 59, 2), (347, .iastore, 1), (348, .dup, 1), (349, .bipush 36, 2), (351, .bipush 32, 2), (353, .iastore, 1), (354, .dup, 1), (355, .bipush 37, 2), (357, .bipush 103, 2), (359, .iastore, 1), (360, .dup, 1), (361, .bipush 38, 2), (363, .bipush 108, 2), (365, .iastore, 1), (366, .dup, 1), (367, .bipush 39, 2), (369, .bipush 97, 2), (371, .iastore, 1), (372, .dup, 1), (373, .bipush 40, 2), (375, .bipush 100, 2), (377, .iastore, 1), (378, .dup, 1)]
set_option maxRecDepth 20000 in
theorem dtX6_init_4 : ∀ x ∈ tbX6_init_4, decode cX6_init x.1 = .ok x.2 := by decide +kernel
def tbX6_init_5 : List (Nat × Instr × Nat) := [(379, .bipush 41, 2), (381, .bipush 32, 2), (383, .iastore, 1), (384, .dup, 1), (385, .bipush 42, 2), (387, .bipush 115, 2), (389, .iastore, 1), (390, .dup, 1), (391, .bipush 43, 2), (393, .bipush 116, 2), (395, .iastore, 1), (396, .dup, 1), (397, .bipush 44, 2), (399, .bipush 101, 2), (401, .iastore, 1), (402, .dup, 1), (403, .bipush 45, 2), (405, .bipush 97, 2), (407, .iastore, 1), (408, .dup, 1), (409, .bipush 46, 2), (411, .bipush 109, 2), (413, .iastore, 1), (414, .dup, 1), (415, .bipush 47, 2), (417, .bipush 32, 2), (419, .iastore, 1), (420, .dup, 1), (421, .bipush 48, 2), (423, .bipush 45, 2), (425, .iastore, 1), (426, .dup, 1), (427, .bipush 49, 2), (429, .bipush 32, 2), (431, .iastore, 1), (432, .dup, 1), (433, .bipush 50, 2), (435, .bipush 50, 2), (437, .iastore, 1), (438, .dup, 1), (439, .bipush 51, 2), (441, .bipush 32, 2), (443, .iastore, 1), (444, .dup, 1), (445, .bipush 52, 2), (447, .bipush 59, 2), (449, .iastore, 1), (450, .putfield 46, 3), (453, .aload_n 0, 1), (454, .bipush 96, 2)]
set_option maxRecDepth 20000 in
theorem dtX6_init_5 : ∀ x ∈ tbX6_init_5, decode cX6_init x.1 = .ok x.2 := by decide +kernel
def tbX6_init_6 : List (Nat × Instr × Nat) := [(456, .newarray .int, 2), (458, .dup, 1), (459, .iconst 0, 1), (460, .bipush 102, 2), (462, .iastore, 1), (463, .dup, 1), (464, .iconst 1, 1), (465, .bipush 101, 2), (467, .iastore, 1), (468, .dup, 1), (469, .iconst 2, 1), (470, .bipush 101, 2), (472, .iastore, 1), (473, .dup, 1), (474, .iconst 3, 1), (475, .bipush 108, 2), (477, .iastore, 1), (478, .dup, 1), (479, .iconst 4, 1), (480, .bipush 115, 2), (482, .iastore, 1), (483, .dup, 1), (484, .iconst 5, 1), (485, .bipush 32, 2), (487, .iastore, 1), (488, .dup, 1), (489, .bipush 6, 2), (491, .bipush 32, 2), (493, .iastore, 1), (494, .dup, 1), (495, .bipush 7, 2), (497, .bipush 32, 2), (499, .iastore, 1), (500, .dup, 1), (501, .bipush 8, 2), (503, .bipush 98, 2), (505, .iastore, 1), (506, .dup, 1), (507, .bipush 9, 2), (509, .bipush 101, 2), (511, .iastore, 1), (512, .dup, 1), (513, .bipush 10, 2), (515, .bipush 97, 2), (517, .iastore, 1), (518, .dup, 1), (519, .bipush 11, 2), (521, .bipush 114, 2), (523, .iastore, 1), (524, .dup, 1)]
set_option maxRecDepth 20000 in
theorem dtX6_init_6 : ∀ x ∈ tbX6_init_6, decode cX6_init x.1 = .ok x.2 := by decide +kernel
def tbX6_init_7 : List (Nat × Instr × Nat) := [(525, .bipush 12, 2), (527, .bipush 115, 2), (529, .iastore, 1), (530, .dup, 1), (531, .bipush 13, 2), (533, .bipush 32, 2), (535, .iastore, 1), (536, .dup, 1), (537, .bipush 14, 2), (539, .bipush 32, 2), (541, .iastore, 1), (542, .dup, 1), (543, .bipush 15, 2), (545, .bipush 32, 2), (547, .iastore, 1), (548, .dup, 1), (549, .bipush 16, 2), (551, .bipush 103, 2), (553, .iastore, 1), (554, .dup, 1), (555, .bipush 17, 2), (557, .bipush 108, 2), (559, .iastore, 1), (560, .dup, 1), (561, .bipush 18, 2), (563, .bipush 97, 2), (565, .iastore, 1), (566, .dup, 1), (567, .bipush 19, 2), (569, .bipush 100, 2), (571, .iastore, 1), (572, .dup, 1), (573, .bipush 20, 2), (575, .bipush 32, 2), (577, .iastore, 1), (578, .dup, 1), (579, .bipush 21, 2), (581, .bipush 32, 2), (583, .iastore, 1), (584, .dup, 1), (585, .bipush 22, 2), (587, .bipush 32, 2), (589, .iastore, 1), (590, .dup, 1), (591, .bipush 23, 2), (593, .bipush 32, 2), (595, .iastore, 1), (596, .dup, 1), (597, .bipush 24, 2), (599, .bipush 115, 2)]
set_option maxRecDepth 20000 in
theorem dtX6_init_7 : ∀ x ∈ tbX6_init_7, decode cX6_init x.1 = .ok x.2 := by decide +kernel
def tbX6_init_8 : List (Nat × Instr × Nat) := [(601, .iastore, 1), (602, .dup, 1), (603, .bipush 25, 2), (605, .bipush 116, 2), (607, .iastore, 1), (608, .dup, 1), (609, .bipush 26, 2), (611, .bipush 111, 2), (613, .iastore, 1), (614, .dup, 1), (615, .bipush 27, 2), (617, .bipush 110, 2), (619, .iastore, 1), (620, .dup, 1), (621, .bipush 28, 2), (623, .bipush 101, 2), (625, .iastore, 1), (626, .dup, 1), (627, .bipush 29, 2), (629, .bipush 115, 2), (631, .iastore, 1), (632, .dup, 1), (633, .bipush 30, 2), (635, .bipush 32, 2), (637, .iastore, 1), (638, .dup, 1), (639, .bipush 31, 2), (641, .bipush 32, 2), (643, .iastore, 1), (644, .dup, 1), (645, .bipush 32, 2), (647, .bipush 115, 2), (649, .iastore, 1), (650, .dup, 1), (651, .bipush 33, 2), (653, .bipush 116, 2), (655, .iastore, 1), (656, .dup, 1), (657, .bipush 34, 2), (659, .bipush 101, 2), (661, .iastore, 1), (662, .dup, 1), (663, .bipush 35, 2), (665, .bipush 97, 2), (667, .iastore, 1), (668, .dup, 1), (669, .bipush 36, 2), (671, .bipush 109, 2), (673, .iastore, 1), (674, .dup, 1)]
set_option maxRecDepth 20000 in
theorem dtX6_init_8 : ∀ x ∈ tbX6_init_8, decode cX6_init x.1 = .ok x.2 := by decide +kernel
def tbX6_init_9 : List (Nat × Instr × Nat) := [(675, .bipush 37, 2), (677, .bipush 32, 2), (679, .iastore, 1), (680, .dup, 1), (681, .bipush 38, 2), (683, .bipush 32, 2), (685, .iastore, 1), (686, .dup, 1), (687, .bipush 39, 2), (689, .bipush 32, 2), (691, .iastore, 1), (692, .dup, 1), (693, .bipush 40, 2), (695, .bipush 98, 2), (697, .iastore, 1), (698, .dup, 1), (699, .bipush 41, 2), (701, .bipush 101, 2), (703, .iastore, 1), (704, .dup, 1), (705, .bipush 42, 2), (707, .bipush 110, 2), (709, .iastore, 1), (710, .dup, 1), (711, .bipush 43, 2), (713, .bipush 99, 2), (715, .iastore, 1), (716, .dup, 1), (717, .bipush 44, 2), (719, .bipush 104, 2), (721, .iastore, 1), (722, .dup, 1), (723, .bipush 45, 2), (725, .bipush 32, 2), (727, .iastore, 1), (728, .dup, 1), (729, .bipush 46, 2), (731, .bipush 32, 2), (733, .iastore, 1), (734, .dup, 1), (735, .bipush 47, 2), (737, .bipush 32, 2), (739, .iastore, 1), (740, .dup, 1), (741, .bipush 48, 2), (743, .bipush 109, 2), (745, .iastore, 1), (746, .dup, 1), (747, .bipush 49, 2), (749, .bipush 105, 2)]
set_option maxRecDepth 20000 in
theorem dtX6_init_9 : ∀ x ∈ tbX6_init_9, decode cX6_init x.1 = .ok x.2 := by decide +kernel
def tbX6_init_10 : List (Nat × Instr × Nat) := [(751, .iastore, 1), (752, .dup, 1), (753, .bipush 50, 2), (755, .bipush 110, 2), (757, .iastore, 1), (758, .dup, 1), (759, .bipush 51, 2), (761, .bipush 117, 2), (763, .iastore, 1), (764, .dup, 1), (765, .bipush 52, 2), (767, .bipush 116, 2), (769, .iastore, 1), (770, .dup, 1), (771, .bipush 53, 2), (773, .bipush 101, 2), (775, .iastore, 1), (776, .dup, 1), (777, .bipush 54, 2), (779, .bipush 32, 2), (781, .iastore, 1), (782, .dup, 1), (783, .bipush 55, 2), (785, .bipush 32, 2), (787, .iastore, 1), (788, .dup, 1), (789, .bipush 56, 2), (791, .bipush 119, 2), (793, .iastore, 1), (794, .dup, 1), (795, .bipush 57, 2), (797, .bipush 97, 2), (799, .iastore, 1), (800, .dup, 1), (801, .bipush 58, 2), (803, .bipush 114, 2), (805, .iastore, 1), (806, .dup, 1), (807, .bipush 59, 2), (809, .bipush 109, 2), (811, .iastore, 1), (812, .dup, 1), (813, .bipush 60, 2), (815, .bipush 32, 2), (817, .iastore, 1), (818, .dup, 1), (819, .bipush 61, 2), (821, .bipush 32, 2), (823, .iastore, 1), (824, .dup, 1)]
set_option maxRecDepth 20000 in
theorem dtX6_init_10 : ∀ x ∈ tbX6_init_10, decode cX6_init x.1 = .ok x.2 := by decide +kernel
def tbX6_init_11 : List (Nat × Instr × Nat) := [(825, .bipush 62, 2), (827, .bipush 32, 2), (829, .iastore, 1), (830, .dup, 1), (831, .bipush 63, 2), (833, .bipush 32, 2), (835, .iastore, 1), (836, .dup, 1), (837, .bipush 64, 2), (839, .bipush 109, 2), (841, .iastore, 1), (842, .dup, 1), (843, .bipush 65, 2), (845, .bipush 111, 2), (847, .iastore, 1), (848, .dup, 1), (849, .bipush 66, 2), (851, .bipush 114, 2), (853, .iastore, 1), (854, .dup, 1), (855, .bipush 67, 2), (857, .bipush 101, 2), (859, .iastore, 1), (860, .dup, 1), (861, .bipush 68, 2), (863, .bipush 32, 2), (865, .iastore, 1), (866, .dup, 1), (867, .bipush 69, 2), (869, .bipush 32, 2), (871, .iastore, 1), (872, .dup, 1), (873, .bipush 70, 2), (875, .bipush 32, 2), (877, .iastore, 1), (878, .dup, 1), (879, .bipush 71, 2), (881, .bipush 32, 2), (883, .iastore, 1), (884, .dup, 1), (885, .bipush 72, 2), (887, .bipush 111, 2), (889, .iastore, 1), (890, .dup, 1), (891, .bipush 73, 2), (893, .bipush 114, 2), (895, .iastore, 1), (896, .dup, 1), (897, .bipush 74, 2), (899, .bipush 32, 2)]
set_option maxRecDepth 20000 in
theorem dtX6_init_11 : ∀ x ∈ tbX6_init_11, decode cX6_init x.1 = .ok x.2 := by decide +kernel
def tbX6_init_12 : List (Nat × Instr × Nat) := [(901, .iastore, 1), (902, .dup, 1), (903, .bipush 75, 2), (905, .bipush 32, 2), (907, .iastore, 1), (908, .dup, 1), (909, .bipush 76, 2), (911, .bipush 32, 2), (913, .iastore, 1), (914, .dup, 1), (915, .bipush 77, 2), (917, .bipush 32, 2), (919, .iastore, 1), (920, .dup, 1), (921, .bipush 78, 2), (923, .bipush 32, 2), (925, .iastore, 1), (926, .dup, 1), (927, .bipush 79, 2), (929, .bipush 32, 2), (931, .iastore, 1), (932, .dup, 1), (933, .bipush 80, 2), (935, .bipush 97, 2), (937, .iastore, 1), (938, .dup, 1), (939, .bipush 81, 2), (941, .bipush 110, 2), (943, .iastore, 1), (944, .dup, 1), (945, .bipush 82, 2), (947, .bipush 100, 2), (949, .iastore, 1), (950, .dup, 1), (951, .bipush 83, 2), (953, .bipush 32, 2), (955, .iastore, 1), (956, .dup, 1), (957, .bipush 84, 2), (959, .bipush 32, 2), (961, .iastore, 1), (962, .dup, 1), (963, .bipush 85, 2), (965, .bipush 32, 2), (967, .iastore, 1), (968, .dup, 1), (969, .bipush 86, 2), (971, .bipush 32, 2), (973, .iastore, 1), (974, .dup, 1)]
set_option maxRecDepth 20000 in
theorem dtX6_init_12 : ∀ x ∈ tbX6_init_12, decode cX6_init x.1 = .ok x.2 := by decide +kernel
def tbX6_init_13 : List (Nat × Instr × Nat) := [(975, .bipush 87, 2), (977, .bipush 32, 2), (979, .iastore, 1), (980, .dup, 1), (981, .bipush 88, 2), (983, .bipush 110, 2), (985, .iastore, 1), (986, .dup, 1), (987, .bipush 89, 2), (989, .bipush 111, 2), (991, .iastore, 1), (992, .dup, 1), (993, .bipush 90, 2), (995, .bipush 116, 2), (997, .iastore, 1), (998, .dup, 1), (999, .bipush 91, 2), (1001, .bipush 32, 2), (1003, .iastore, 1), (1004, .dup, 1), (1005, .bipush 92, 2), (1007, .bipush 32, 2), (1009, .iastore, 1), (1010, .dup, 1), (1011, .bipush 93, 2), (1013, .bipush 32, 2), (1015, .iastore, 1), (1016, .dup, 1), (1017, .bipush 94, 2), (1019, .bipush 32, 2), (1021, .iastore, 1), (1022, .dup, 1), (1023, .bipush 95, 2), (1025, .bipush 32, 2), (1027, .iastore, 1), (1028, .putfield 49, 3), (1031, .aload_n 0, 1), (1032, .sipush 200, 3), (1035, .newarray .int, 2), (1037, .putfield 52, 3), (1040, .aload_n 0, 1), (1041, .sipush 200, 3), (1044, .newarray .int, 2), (1046, .putfield 55, 3), (1049, .aload_n 0, 1), (1050, .bipush 6, 2), (1052, .newarray .int, 2), (1054, .putfield 58, 3), (1057, .aload_n 0, 1), (1058, .bipush 22, 2)]
set_option maxRecDepth 20000 in
theorem dtX6_init_13 : ∀ x ∈ tbX6_init_13, decode cX6_init x.1 = .ok x.2 := by decide +kernel
def tbX6_init_14 : List (Nat × Instr × Nat) := [(1060, .newarray .int, 2), (1062, .putfield 61, 3), (1065, .iconst 0, 1), (1066, .istore_n 1, 1), (1067, .iload_n 1, 1), (1068, .bipush 53, 2), (1070, .if_icmp .ge 21, 3), (1073, .aload_n 0, 1), (1074, .getfield 22, 3), (1077, .iload_n 1, 1), (1078, .aload_n 0, 1), (1079, .getfield 46, 3), (1082, .iload_n 1, 1), (1083, .iaload, 1), (1084, .iastore, 1), (1085, .iinc 1 1, 3), (1088, .goto (-21), 3), (1091, .aload_n 0, 1), (1092, .bipush 53, 2), (1094, .putfield 64, 3), (1097, .aload_n 0, 1), (1098, .invokevirtual 68, 3), (1101, .pop, 1), (1102, .return_, 1)]
set_option maxRecDepth 20000 in
theorem dtX6_init_14 : ∀ x ∈ tbX6_init_14, decode cX6_init x.1 = .ok x.2 := by decide +kernel
noncomputable def j6_init_1097  (x0 : Nat) (w : Wd) : Option (Unit × Wd) :=
  ck (tg w x0 = 6) ((f6_text x0 w).bind fun z429 => (some ((), z429.2)))
theorem wpj6_init_1097 (X : CX) (w0 : Wd)  (x0 : Nat) (w : Wd) : WPe rtV X (mX6_init, 6, 18, 2187, w0) 18 2187 (j6_init_1097  x0 w) 1097 [(0, vR x0)] [] w := by
  unfold j6_init_1097
  refine WPe_aload_n (pc := 1097) 0 (dd dtX6_init_14 20 rfl) rfl ?_
  refine WPe_ck fun h428 => ?_
  refine WPe_callV (pc := 1098) (rtc := rtI) (Mc := mX6_text) (d' := 5) (mc' := 0) (ms' := 0) [] [] rfl (dd dtX6_init_14 21 rfl) (okf6_text x0 w) moX6_text miX6_text (bw_mem4 6 rfl rfl) (Or.inl ⟨_, _, _, _, (shE h428), rfl⟩) rfl (Nat.le_of_ble_eq_true rfl) ⟨(Nat.le_of_ble_eq_true rfl), (Nat.le_of_ble_eq_true rfl)⟩ ⟨(Nat.le_of_ble_eq_true rfl), (Nat.le_of_ble_eq_true rfl)⟩ (fun z429 h430 e431 => ?_)
  refine WPe_st (st2 := [vI z429.1]) rfl ?_
  refine WPe_pop (pc := 1101) (dd dtX6_init_14 22 rfl) rfl ?_
  exact WPe_return (pc := 1102) (dd dtX6_init_14 23 rfl) rfl rfl ⟨(Nat.le_of_ble_eq_true rfl), (Nat.le_of_ble_eq_true rfl)⟩
noncomputable def b6_init_1067 (k1067 : Nat × Int32 → Wd → Option (Unit × Wd)) (v : Nat × Int32) (w : Wd) : Option (Unit × Wd) :=
  if (53 : Int32) ≤ v.2 then (ck (tg w v.1 = 6) (lw (sI w v.1 6 (53 : Int32)) fun w426 => (j6_init_1097 v.1 w426))) else (ck (tg w v.1 = 6) (ck (tg w (wr w v.1 17) = 20 ∧ vp_in v.2 (ln w (wr w v.1 17))) (ck (tg w (wr w v.1 5) = 20 ∧ vp_in v.2 (ln w (wr w v.1 5))) (lw (sI w (wr w v.1 5) (v.2).toNatClampNeg (wi w (wr w v.1 17) (v.2).toNatClampNeg)) fun w435 => (k1067 (v.1, (v.2 + (1 : Int32))) w435)))))
theorem wpb6_init_1067 (X : CX) (w0 : Wd) (k1067 : Nat × Int32 → Wd → Option (Unit × Wd)) (hk1067 : ∀ (v : Nat × Int32) (w : Wd), WPe rtV X (mX6_init, 6, 18, 2187, w0) 18 2187 (k1067 v w) 1067 [(0, vR v.1), (1, vI v.2)] [] w) (v : Nat × Int32) (w : Wd) : WPe rtV X (mX6_init, 6, 18, 2187, w0) 18 2187 (b6_init_1067 k1067 v w) 1067 [(0, vR v.1), (1, vI v.2)] [] w := by
  unfold b6_init_1067
  refine WPe_iload_n (pc := 1067) 1 (dd dtX6_init_14 4 rfl) rfl ?_
  refine WPe_bipush (pc := 1068) (53 : Int32) (dd dtX6_init_14 5 rfl) (by decide) ?_
  refine WPe_icmp_ge (pc := 1070) 1091 (dd dtX6_init_14 6 rfl) (by decide) (fun h424 => ?_) (fun h424 => ?_)
  · refine WPe_aload_n (pc := 1091) 0 (dd dtX6_init_14 17 rfl) rfl ?_
    refine WPe_bipush (pc := 1092) (53 : Int32) (dd dtX6_init_14 18 rfl) (by decide) ?_
    refine WPe_ck fun h425 => ?_
    refine WPe_putI (pc := 1094) (t := 6) (C := RX6) (T := TX6) 6 (dd dtX6_init_14 19 rfl) (shE h425) rfl (Nat.le_of_ble_eq_true rfl) (bw_mem4 59 rfl rfl) (Or.inl rfl) rfl rfl rfl ?_
    refine WPe_lw fun w426 e427 => ?_
    refine WPe_sub [0] rfl ?_
    exact wpj6_init_1097 X w0  v.1 w426
  · refine WPe_aload_n (pc := 1073) 0 (dd dtX6_init_14 7 rfl) rfl ?_
    refine WPe_ck fun h432 => ?_
    refine WPe_getR (pc := 1074) (t := 6) (C := RX6) (T := TX6) 5 (dd dtX6_init_14 8 rfl) (shE h432) rfl (Nat.le_of_ble_eq_true rfl) rfl (bw_mem4 58 rfl rfl) ?_
    refine WPe_iload_n (pc := 1077) 1 (dd dtX6_init_14 9 rfl) rfl ?_
    refine WPe_aload_n (pc := 1078) 0 (dd dtX6_init_14 10 rfl) rfl ?_
    refine WPe_getR (pc := 1079) (t := 6) (C := RX6) (T := TX6) 17 (dd dtX6_init_14 11 rfl) (shE h432) rfl (Nat.le_of_ble_eq_true rfl) rfl (bw_mem4 70 rfl rfl) ?_
    refine WPe_iload_n (pc := 1082) 1 (dd dtX6_init_14 12 rfl) rfl ?_
    refine WPe_ck fun h433 => ?_
    refine WPe_iald (pc := 1083) (dd dtX6_init_14 13 rfl) (shE h433.1) h433.2 ?_
    refine WPe_ck fun h434 => ?_
    refine WPe_iast (pc := 1084) (dd dtX6_init_14 14 rfl) (shE h434.1) h434.2 ?_
    refine WPe_lw fun w435 e436 => ?_
    refine WPe_iinc (pc := 1085) (ls' := [(1, vI (v.2 + (1 : Int32))), (0, vR v.1)]) 1 (v.2 + (1 : Int32)) (dd dtX6_init_14 15 rfl) rfl (congrArg (HAdd.hAdd _) (by decide : Int32.ofInt (1) = (1 : Int32))) (Nat.le_of_ble_eq_true rfl) rfl ?_
    refine WPe_goto (pc := 1088) 1067 (dd dtX6_init_14 16 rfl) (by decide) ?_
    refine WPe_sub [1, 0] rfl ?_
    exact hk1067 (v.1, (v.2 + (1 : Int32))) w435
theorem wplb6_init_1067 (X : CX) (w0 : Wd)  : ∀ (n9 : Nat) (v : Nat × Int32) (w : Wd), WPe rtV X (mX6_init, 6, 18, 2187, w0) 18 2187 (loopF (b6_init_1067 ) n9 v w) 1067 [(0, vR v.1), (1, vI v.2)] [] w :=
  WPe_loop (rt := rtV) (X := X) (M := (mX6_init, 6, 18, 2187, w0)) (fun v : Nat × Int32 => [(0, vR v.1), (1, vI v.2)]) (fun k hk v w => wpb6_init_1067 X w0  k hk v w)
noncomputable def j6_init_1065  (x0 : Nat) (w : Wd) : Option (Unit × Wd) :=
  loopF (b6_init_1067) FU (x0, (0 : Int32)) w
theorem wpj6_init_1065 (X : CX) (w0 : Wd)  (x0 : Nat) (w : Wd) : WPe rtV X (mX6_init, 6, 18, 2187, w0) 18 2187 (j6_init_1065  x0 w) 1065 [(0, vR x0)] [] w := by
  unfold j6_init_1065
  refine WPe_iconst (pc := 1065) (0 : Int32) (dd dtX6_init_14 2 rfl) (by decide) ?_
  refine WPe_istore_n (pc := 1066) (ls' := [(1, vI (0 : Int32)), (0, vR x0)]) (dd dtX6_init_14 3 rfl) (Nat.le_of_ble_eq_true rfl) rfl ?_
  refine WPe_sub [1, 0] rfl ?_
  exact wplb6_init_1067 X w0  FU _ _
noncomputable def j6_init_1057  (x0 : Nat) (w : Wd) : Option (Unit × Wd) :=
  lw (wN w 20 22) fun w419 => (ck (tg w419 x0 = 6) (lw (sR w419 x0 29 (nx w)) fun w422 => (j6_init_1065 x0 w422)))
theorem wpj6_init_1057 (X : CX) (w0 : Wd)  (x0 : Nat) (w : Wd) : WPe rtV X (mX6_init, 6, 18, 2187, w0) 17 2165 (j6_init_1057  x0 w) 1057 [(0, vR x0)] [] w := by
  unfold j6_init_1057
  refine WPe_aload_n (pc := 1057) 0 (dd dtX6_init_13 48 rfl) rfl ?_
  refine WPe_bipush (pc := 1058) (22 : Int32) (dd dtX6_init_13 49 rfl) (by decide) ?_
  refine WPe_nx fun n418 => ?_
  refine WPe_newI (pc := 1060) (N := 22) (dd dtX6_init_14 0 rfl) (bw_mem1 61 rfl rfl) (by decide) (by decide) (Nat.le_of_ble_eq_true rfl) ⟨(Nat.le_of_ble_eq_true rfl), (Nat.le_of_ble_eq_true rfl)⟩ ?_
  refine WPe_lw fun w419 e420 => ?_
  refine WPe_ck fun h421 => ?_
  refine WPe_putR (pc := 1062) (t := 6) (C := RX6) (T := TX6) 29 (dd dtX6_init_14 1 rfl) (shE h421) rfl (Nat.le_of_ble_eq_true rfl) (bw_mem4 82 rfl rfl) (Or.inr ⟨rfl, rfl, rfl⟩) rfl ?_
  refine WPe_lw fun w422 e423 => ?_
  refine WPe_sub [0] rfl ?_
  exact wpj6_init_1065 X w0  x0 w422
noncomputable def j6_init_1049  (x0 : Nat) (w : Wd) : Option (Unit × Wd) :=
  lw (wN w 20 6) fun w413 => (ck (tg w413 x0 = 6) (lw (sR w413 x0 28 (nx w)) fun w416 => (j6_init_1057 x0 w416)))
theorem wpj6_init_1049 (X : CX) (w0 : Wd)  (x0 : Nat) (w : Wd) : WPe rtV X (mX6_init, 6, 18, 2187, w0) 16 2159 (j6_init_1049  x0 w) 1049 [(0, vR x0)] [] w := by
  unfold j6_init_1049
  refine WPe_aload_n (pc := 1049) 0 (dd dtX6_init_13 44 rfl) rfl ?_
  refine WPe_bipush (pc := 1050) (6 : Int32) (dd dtX6_init_13 45 rfl) (by decide) ?_
  refine WPe_nx fun n412 => ?_
  refine WPe_newI (pc := 1052) (N := 6) (dd dtX6_init_13 46 rfl) (bw_mem1 61 rfl rfl) (by decide) (by decide) (Nat.le_of_ble_eq_true rfl) ⟨(Nat.le_of_ble_eq_true rfl), (Nat.le_of_ble_eq_true rfl)⟩ ?_
  refine WPe_lw fun w413 e414 => ?_
  refine WPe_ck fun h415 => ?_
  refine WPe_putR (pc := 1054) (t := 6) (C := RX6) (T := TX6) 28 (dd dtX6_init_13 47 rfl) (shE h415) rfl (Nat.le_of_ble_eq_true rfl) (bw_mem4 81 rfl rfl) (Or.inr ⟨rfl, rfl, rfl⟩) rfl ?_
  refine WPe_lw fun w416 e417 => ?_
  refine WPe_sub [0] rfl ?_
  exact wpj6_init_1057 X w0  x0 w416
noncomputable def j6_init_1040  (x0 : Nat) (w : Wd) : Option (Unit × Wd) :=
  lw (wN w 20 200) fun w407 => (ck (tg w407 x0 = 6) (lw (sR w407 x0 27 (nx w)) fun w410 => (j6_init_1049 x0 w410)))
theorem wpj6_init_1040 (X : CX) (w0 : Wd)  (x0 : Nat) (w : Wd) : WPe rtV X (mX6_init, 6, 18, 2187, w0) 15 1959 (j6_init_1040  x0 w) 1040 [(0, vR x0)] [] w := by
  unfold j6_init_1040
  refine WPe_aload_n (pc := 1040) 0 (dd dtX6_init_13 40 rfl) rfl ?_
  refine WPe_sipush (pc := 1041) (200 : Int32) (dd dtX6_init_13 41 rfl) (by decide) ?_
  refine WPe_nx fun n406 => ?_
  refine WPe_newI (pc := 1044) (N := 200) (dd dtX6_init_13 42 rfl) (bw_mem1 61 rfl rfl) (by decide) (by decide) (Nat.le_of_ble_eq_true rfl) ⟨(Nat.le_of_ble_eq_true rfl), (Nat.le_of_ble_eq_true rfl)⟩ ?_
  refine WPe_lw fun w407 e408 => ?_
  refine WPe_ck fun h409 => ?_
  refine WPe_putR (pc := 1046) (t := 6) (C := RX6) (T := TX6) 27 (dd dtX6_init_13 43 rfl) (shE h409) rfl (Nat.le_of_ble_eq_true rfl) (bw_mem4 80 rfl rfl) (Or.inr ⟨rfl, rfl, rfl⟩) rfl ?_
  refine WPe_lw fun w410 e411 => ?_
  refine WPe_sub [0] rfl ?_
  exact wpj6_init_1049 X w0  x0 w410
noncomputable def j6_init_1031  (x0 : Nat) (w : Wd) : Option (Unit × Wd) :=
  lw (wN w 20 200) fun w401 => (ck (tg w401 x0 = 6) (lw (sR w401 x0 23 (nx w)) fun w404 => (j6_init_1040 x0 w404)))
theorem wpj6_init_1031 (X : CX) (w0 : Wd)  (x0 : Nat) (w : Wd) : WPe rtV X (mX6_init, 6, 18, 2187, w0) 14 1759 (j6_init_1031  x0 w) 1031 [(0, vR x0)] [] w := by
  unfold j6_init_1031
  refine WPe_aload_n (pc := 1031) 0 (dd dtX6_init_13 36 rfl) rfl ?_
  refine WPe_sipush (pc := 1032) (200 : Int32) (dd dtX6_init_13 37 rfl) (by decide) ?_
  refine WPe_nx fun n400 => ?_
  refine WPe_newI (pc := 1035) (N := 200) (dd dtX6_init_13 38 rfl) (bw_mem1 61 rfl rfl) (by decide) (by decide) (Nat.le_of_ble_eq_true rfl) ⟨(Nat.le_of_ble_eq_true rfl), (Nat.le_of_ble_eq_true rfl)⟩ ?_
  refine WPe_lw fun w401 e402 => ?_
  refine WPe_ck fun h403 => ?_
  refine WPe_putR (pc := 1037) (t := 6) (C := RX6) (T := TX6) 23 (dd dtX6_init_13 39 rfl) (shE h403) rfl (Nat.le_of_ble_eq_true rfl) (bw_mem4 76 rfl rfl) (Or.inr ⟨rfl, rfl, rfl⟩) rfl ?_
  refine WPe_lw fun w404 e405 => ?_
  refine WPe_sub [0] rfl ?_
  exact wpj6_init_1040 X w0  x0 w404
set_option maxRecDepth 100000 in
set_option maxHeartbeats 4000000 in
noncomputable def j6_init_453  (x0 : Nat) (w : Wd) : Option (Unit × Wd) :=
  lw (wN w 20 96) fun w203 => (lw (sI w203 (nx w) ((0 : Int32)).toNatClampNeg (102 : Int32)) fun w205 => (lw (sI w205 (nx w) ((1 : Int32)).toNatClampNeg (101 : Int32)) fun w207 => (lw (sI w207 (nx w) ((2 : Int32)).toNatClampNeg (101 : Int32)) fun w209 => (lw (sI w209 (nx w) ((3 : Int32)).toNatClampNeg (108 : Int32)) fun w211 => (lw (sI w211 (nx w) ((4 : Int32)).toNatClampNeg (115 : Int32)) fun w213 => (lw (sI w213 (nx w) ((5 : Int32)).toNatClampNeg (32 : Int32)) fun w215 => (lw (sI w215 (nx w) ((6 : Int32)).toNatClampNeg (32 : Int32)) fun w217 => (lw (sI w217 (nx w) ((7 : Int32)).toNatClampNeg (32 : Int32)) fun w219 => (lw (sI w219 (nx w) ((8 : Int32)).toNatClampNeg (98 : Int32)) fun w221 => (lw (sI w221 (nx w) ((9 : Int32)).toNatClampNeg (101 : Int32)) fun w223 => (lw (sI w223 (nx w) ((10 : Int32)).toNatClampNeg (97 : Int32)) fun w225 => (lw (sI w225 (nx w) ((11 : Int32)).toNatClampNeg (114 : Int32)) fun w227 => (lw (sI w227 (nx w) ((12 : Int32)).toNatClampNeg (115 : Int32)) fun w229 => (lw (sI w229 (nx w) ((13 : Int32)).toNatClampNeg (32 : Int32)) fun w231 => (lw (sI w231 (nx w) ((14 : Int32)).toNatClampNeg (32 : Int32)) fun w233 => (lw (sI w233 (nx w) ((15 : Int32)).toNatClampNeg (32 : Int32)) fun w235 => (lw (sI w235 (nx w) ((16 : Int32)).toNatClampNeg (103 : Int32)) fun w237 => (lw (sI w237 (nx w) ((17 : Int32)).toNatClampNeg (108 : Int32)) fun w239 => (lw (sI w239 (nx w) ((18 : Int32)).toNatClampNeg (97 : Int32)) fun w241 => (lw (sI w241 (nx w) ((19 : Int32)).toNatClampNeg (100 : Int32)) fun w243 => (lw (sI w243 (nx w) ((20 : Int32)).toNatClampNeg (32 : Int32)) fun w245 => (lw (sI w245 (nx w) ((21 : Int32)).toNatClampNeg (32 : Int32)) fun w247 => (lw (sI w247 (nx w) ((22 : Int32)).toNatClampNeg (32 : Int32)) fun w249 => (lw (sI w249 (nx w) ((23 : Int32)).toNatClampNeg (32 : Int32)) fun w251 => (lw (sI w251 (nx w) ((24 : Int32)).toNatClampNeg (115 : Int32)) fun w253 => (lw (sI w253 (nx w) ((25 : Int32)).toNatClampNeg (116 : Int32)) fun w255 => (lw (sI w255 (nx w) ((26 : Int32)).toNatClampNeg (111 : Int32)) fun w257 => (lw (sI w257 (nx w) ((27 : Int32)).toNatClampNeg (110 : Int32)) fun w259 => (lw (sI w259 (nx w) ((28 : Int32)).toNatClampNeg (101 : Int32)) fun w261 => (lw (sI w261 (nx w) ((29 : Int32)).toNatClampNeg (115 : Int32)) fun w263 => (lw (sI w263 (nx w) ((30 : Int32)).toNatClampNeg (32 : Int32)) fun w265 => (lw (sI w265 (nx w) ((31 : Int32)).toNatClampNeg (32 : Int32)) fun w267 => (lw (sI w267 (nx w) ((32 : Int32)).toNatClampNeg (115 : Int32)) fun w269 => (lw (sI w269 (nx w) ((33 : Int32)).toNatClampNeg (116 : Int32)) fun w271 => (lw (sI w271 (nx w) ((34 : Int32)).toNatClampNeg (101 : Int32)) fun w273 => (lw (sI w273 (nx w) ((35 : Int32)).toNatClampNeg (97 : Int32)) fun w275 => (lw (sI w275 (nx w) ((36 : Int32)).toNatClampNeg (109 : Int32)) fun w277 => (lw (sI w277 (nx w) ((37 : Int32)).toNatClampNeg (32 : Int32)) fun w279 => (lw (sI w279 (nx w) ((38 : Int32)).toNatClampNeg (32 : Int32)) fun w281 => (lw (sI w281 (nx w) ((39 : Int32)).toNatClampNeg (32 : Int32)) fun w283 => (lw (sI w283 (nx w) ((40 : Int32)).toNatClampNeg (98 : Int32)) fun w285 => (lw (sI w285 (nx w) ((41 : Int32)).toNatClampNeg (101 : Int32)) fun w287 => (lw (sI w287 (nx w) ((42 : Int32)).toNatClampNeg (110 : Int32)) fun w289 => (lw (sI w289 (nx w) ((43 : Int32)).toNatClampNeg (99 : Int32)) fun w291 => (lw (sI w291 (nx w) ((44 : Int32)).toNatClampNeg (104 : Int32)) fun w293 => (lw (sI w293 (nx w) ((45 : Int32)).toNatClampNeg (32 : Int32)) fun w295 => (lw (sI w295 (nx w) ((46 : Int32)).toNatClampNeg (32 : Int32)) fun w297 => (lw (sI w297 (nx w) ((47 : Int32)).toNatClampNeg (32 : Int32)) fun w299 => (lw (sI w299 (nx w) ((48 : Int32)).toNatClampNeg (109 : Int32)) fun w301 => (lw (sI w301 (nx w) ((49 : Int32)).toNatClampNeg (105 : Int32)) fun w303 => (lw (sI w303 (nx w) ((50 : Int32)).toNatClampNeg (110 : Int32)) fun w305 => (lw (sI w305 (nx w) ((51 : Int32)).toNatClampNeg (117 : Int32)) fun w307 => (lw (sI w307 (nx w) ((52 : Int32)).toNatClampNeg (116 : Int32)) fun w309 => (lw (sI w309 (nx w) ((53 : Int32)).toNatClampNeg (101 : Int32)) fun w311 => (lw (sI w311 (nx w) ((54 : Int32)).toNatClampNeg (32 : Int32)) fun w313 => (lw (sI w313 (nx w) ((55 : Int32)).toNatClampNeg (32 : Int32)) fun w315 => (lw (sI w315 (nx w) ((56 : Int32)).toNatClampNeg (119 : Int32)) fun w317 => (lw (sI w317 (nx w) ((57 : Int32)).toNatClampNeg (97 : Int32)) fun w319 => (lw (sI w319 (nx w) ((58 : Int32)).toNatClampNeg (114 : Int32)) fun w321 => (lw (sI w321 (nx w) ((59 : Int32)).toNatClampNeg (109 : Int32)) fun w323 => (lw (sI w323 (nx w) ((60 : Int32)).toNatClampNeg (32 : Int32)) fun w325 => (lw (sI w325 (nx w) ((61 : Int32)).toNatClampNeg (32 : Int32)) fun w327 => (lw (sI w327 (nx w) ((62 : Int32)).toNatClampNeg (32 : Int32)) fun w329 => (lw (sI w329 (nx w) ((63 : Int32)).toNatClampNeg (32 : Int32)) fun w331 => (lw (sI w331 (nx w) ((64 : Int32)).toNatClampNeg (109 : Int32)) fun w333 => (lw (sI w333 (nx w) ((65 : Int32)).toNatClampNeg (111 : Int32)) fun w335 => (lw (sI w335 (nx w) ((66 : Int32)).toNatClampNeg (114 : Int32)) fun w337 => (lw (sI w337 (nx w) ((67 : Int32)).toNatClampNeg (101 : Int32)) fun w339 => (lw (sI w339 (nx w) ((68 : Int32)).toNatClampNeg (32 : Int32)) fun w341 => (lw (sI w341 (nx w) ((69 : Int32)).toNatClampNeg (32 : Int32)) fun w343 => (lw (sI w343 (nx w) ((70 : Int32)).toNatClampNeg (32 : Int32)) fun w345 => (lw (sI w345 (nx w) ((71 : Int32)).toNatClampNeg (32 : Int32)) fun w347 => (lw (sI w347 (nx w) ((72 : Int32)).toNatClampNeg (111 : Int32)) fun w349 => (lw (sI w349 (nx w) ((73 : Int32)).toNatClampNeg (114 : Int32)) fun w351 => (lw (sI w351 (nx w) ((74 : Int32)).toNatClampNeg (32 : Int32)) fun w353 => (lw (sI w353 (nx w) ((75 : Int32)).toNatClampNeg (32 : Int32)) fun w355 => (lw (sI w355 (nx w) ((76 : Int32)).toNatClampNeg (32 : Int32)) fun w357 => (lw (sI w357 (nx w) ((77 : Int32)).toNatClampNeg (32 : Int32)) fun w359 => (lw (sI w359 (nx w) ((78 : Int32)).toNatClampNeg (32 : Int32)) fun w361 => (lw (sI w361 (nx w) ((79 : Int32)).toNatClampNeg (32 : Int32)) fun w363 => (lw (sI w363 (nx w) ((80 : Int32)).toNatClampNeg (97 : Int32)) fun w365 => (lw (sI w365 (nx w) ((81 : Int32)).toNatClampNeg (110 : Int32)) fun w367 => (lw (sI w367 (nx w) ((82 : Int32)).toNatClampNeg (100 : Int32)) fun w369 => (lw (sI w369 (nx w) ((83 : Int32)).toNatClampNeg (32 : Int32)) fun w371 => (lw (sI w371 (nx w) ((84 : Int32)).toNatClampNeg (32 : Int32)) fun w373 => (lw (sI w373 (nx w) ((85 : Int32)).toNatClampNeg (32 : Int32)) fun w375 => (lw (sI w375 (nx w) ((86 : Int32)).toNatClampNeg (32 : Int32)) fun w377 => (lw (sI w377 (nx w) ((87 : Int32)).toNatClampNeg (32 : Int32)) fun w379 => (lw (sI w379 (nx w) ((88 : Int32)).toNatClampNeg (110 : Int32)) fun w381 => (lw (sI w381 (nx w) ((89 : Int32)).toNatClampNeg (111 : Int32)) fun w383 => (lw (sI w383 (nx w) ((90 : Int32)).toNatClampNeg (116 : Int32)) fun w385 => (lw (sI w385 (nx w) ((91 : Int32)).toNatClampNeg (32 : Int32)) fun w387 => (lw (sI w387 (nx w) ((92 : Int32)).toNatClampNeg (32 : Int32)) fun w389 => (lw (sI w389 (nx w) ((93 : Int32)).toNatClampNeg (32 : Int32)) fun w391 => (lw (sI w391 (nx w) ((94 : Int32)).toNatClampNeg (32 : Int32)) fun w393 => (lw (sI w393 (nx w) ((95 : Int32)).toNatClampNeg (32 : Int32)) fun w395 => (ck (tg w395 x0 = 6) (lw (sR w395 x0 22 (nx w)) fun w398 => (j6_init_1031 x0 w398)))))))))))))))))))))))))))))))))))))))))))))))))))))))))))))))))))))))))))))))))))))))))))))))))))
set_option maxRecDepth 100000 in
set_option maxHeartbeats 4000000 in
theorem wpj6_init_453 (X : CX) (w0 : Wd)  (x0 : Nat) (w : Wd) : WPe rtV X (mX6_init, 6, 18, 2187, w0) 13 1663 (j6_init_453  x0 w) 453 [(0, vR x0)] [] w := by
  unfold j6_init_453
  refine WPe_aload_n (pc := 453) 0 (dd dtX6_init_5 48 rfl) rfl ?_
  refine WPe_bipush (pc := 454) (96 : Int32) (dd dtX6_init_5 49 rfl) (by decide) ?_
  refine WPe_nx fun n202 => ?_
  refine WPe_newI (pc := 456) (N := 96) (dd dtX6_init_6 0 rfl) (bw_mem1 61 rfl rfl) (by decide) (by decide) (Nat.le_of_ble_eq_true rfl) ⟨(Nat.le_of_ble_eq_true rfl), (Nat.le_of_ble_eq_true rfl)⟩ ?_
  refine WPe_lw fun w203 e204 => ?_
  refine WPe_dup (pc := 458) (dd dtX6_init_6 1 rfl) rfl ?_
  refine WPe_iconst (pc := 459) (0 : Int32) (dd dtX6_init_6 2 rfl) (by decide) ?_
  refine WPe_bipush (pc := 460) (102 : Int32) (dd dtX6_init_6 3 rfl) (by decide) ?_
  refine WPe_iast (pc := 462) (dd dtX6_init_6 4 rfl) (shN e204) (by unfold vp_in; decide) ?_
  refine WPe_lw fun w205 e206 => ?_
  refine WPe_dup (pc := 463) (dd dtX6_init_6 5 rfl) rfl ?_
  refine WPe_iconst (pc := 464) (1 : Int32) (dd dtX6_init_6 6 rfl) (by decide) ?_
  refine WPe_bipush (pc := 465) (101 : Int32) (dd dtX6_init_6 7 rfl) (by decide) ?_
  refine WPe_iast (pc := 467) (dd dtX6_init_6 8 rfl) (shI e206 (shN e204)) (by unfold vp_in; decide) ?_
  refine WPe_lw fun w207 e208 => ?_
  refine WPe_dup (pc := 468) (dd dtX6_init_6 9 rfl) rfl ?_
  refine WPe_iconst (pc := 469) (2 : Int32) (dd dtX6_init_6 10 rfl) (by decide) ?_
  refine WPe_bipush (pc := 470) (101 : Int32) (dd dtX6_init_6 11 rfl) (by decide) ?_
  refine WPe_iast (pc := 472) (dd dtX6_init_6 12 rfl) (shI e208 (shI e206 (shN e204))) (by unfold vp_in; decide) ?_
  refine WPe_lw fun w209 e210 => ?_
  refine WPe_dup (pc := 473) (dd dtX6_init_6 13 rfl) rfl ?_
  refine WPe_iconst (pc := 474) (3 : Int32) (dd dtX6_init_6 14 rfl) (by decide) ?_
  refine WPe_bipush (pc := 475) (108 : Int32) (dd dtX6_init_6 15 rfl) (by decide) ?_
  refine WPe_iast (pc := 477) (dd dtX6_init_6 16 rfl) (shI e210 (shI e208 (shI e206 (shN e204)))) (by unfold vp_in; decide) ?_
  refine WPe_lw fun w211 e212 => ?_
  refine WPe_dup (pc := 478) (dd dtX6_init_6 17 rfl) rfl ?_
  refine WPe_iconst (pc := 479) (4 : Int32) (dd dtX6_init_6 18 rfl) (by decide) ?_
  refine WPe_bipush (pc := 480) (115 : Int32) (dd dtX6_init_6 19 rfl) (by decide) ?_
  refine WPe_iast (pc := 482) (dd dtX6_init_6 20 rfl) (shI e212 (shI e210 (shI e208 (shI e206 (shN e204))))) (by unfold vp_in; decide) ?_
  refine WPe_lw fun w213 e214 => ?_
  refine WPe_dup (pc := 483) (dd dtX6_init_6 21 rfl) rfl ?_
  refine WPe_iconst (pc := 484) (5 : Int32) (dd dtX6_init_6 22 rfl) (by decide) ?_
  refine WPe_bipush (pc := 485) (32 : Int32) (dd dtX6_init_6 23 rfl) (by decide) ?_
  refine WPe_iast (pc := 487) (dd dtX6_init_6 24 rfl) (shI e214 (shI e212 (shI e210 (shI e208 (shI e206 (shN e204)))))) (by unfold vp_in; decide) ?_
  refine WPe_lw fun w215 e216 => ?_
  refine WPe_dup (pc := 488) (dd dtX6_init_6 25 rfl) rfl ?_
  refine WPe_bipush (pc := 489) (6 : Int32) (dd dtX6_init_6 26 rfl) (by decide) ?_
  refine WPe_bipush (pc := 491) (32 : Int32) (dd dtX6_init_6 27 rfl) (by decide) ?_
  refine WPe_iast (pc := 493) (dd dtX6_init_6 28 rfl) (shI e216 (shI e214 (shI e212 (shI e210 (shI e208 (shI e206 (shN e204))))))) (by unfold vp_in; decide) ?_
  refine WPe_lw fun w217 e218 => ?_
  refine WPe_dup (pc := 494) (dd dtX6_init_6 29 rfl) rfl ?_
  refine WPe_bipush (pc := 495) (7 : Int32) (dd dtX6_init_6 30 rfl) (by decide) ?_
  refine WPe_bipush (pc := 497) (32 : Int32) (dd dtX6_init_6 31 rfl) (by decide) ?_
  refine WPe_iast (pc := 499) (dd dtX6_init_6 32 rfl) (shI e218 (shI e216 (shI e214 (shI e212 (shI e210 (shI e208 (shI e206 (shN e204)))))))) (by unfold vp_in; decide) ?_
  refine WPe_lw fun w219 e220 => ?_
  refine WPe_dup (pc := 500) (dd dtX6_init_6 33 rfl) rfl ?_
  refine WPe_bipush (pc := 501) (8 : Int32) (dd dtX6_init_6 34 rfl) (by decide) ?_
  refine WPe_bipush (pc := 503) (98 : Int32) (dd dtX6_init_6 35 rfl) (by decide) ?_
  refine WPe_iast (pc := 505) (dd dtX6_init_6 36 rfl) (shI e220 (shI e218 (shI e216 (shI e214 (shI e212 (shI e210 (shI e208 (shI e206 (shN e204))))))))) (by unfold vp_in; decide) ?_
  refine WPe_lw fun w221 e222 => ?_
  refine WPe_dup (pc := 506) (dd dtX6_init_6 37 rfl) rfl ?_
  refine WPe_bipush (pc := 507) (9 : Int32) (dd dtX6_init_6 38 rfl) (by decide) ?_
  refine WPe_bipush (pc := 509) (101 : Int32) (dd dtX6_init_6 39 rfl) (by decide) ?_
  refine WPe_iast (pc := 511) (dd dtX6_init_6 40 rfl) (shI e222 (shI e220 (shI e218 (shI e216 (shI e214 (shI e212 (shI e210 (shI e208 (shI e206 (shN e204)))))))))) (by unfold vp_in; decide) ?_
  refine WPe_lw fun w223 e224 => ?_
  refine WPe_dup (pc := 512) (dd dtX6_init_6 41 rfl) rfl ?_
  refine WPe_bipush (pc := 513) (10 : Int32) (dd dtX6_init_6 42 rfl) (by decide) ?_
  refine WPe_bipush (pc := 515) (97 : Int32) (dd dtX6_init_6 43 rfl) (by decide) ?_
  refine WPe_iast (pc := 517) (dd dtX6_init_6 44 rfl) (shI e224 (shI e222 (shI e220 (shI e218 (shI e216 (shI e214 (shI e212 (shI e210 (shI e208 (shI e206 (shN e204))))))))))) (by unfold vp_in; decide) ?_
  refine WPe_lw fun w225 e226 => ?_
  refine WPe_dup (pc := 518) (dd dtX6_init_6 45 rfl) rfl ?_
  refine WPe_bipush (pc := 519) (11 : Int32) (dd dtX6_init_6 46 rfl) (by decide) ?_
  refine WPe_bipush (pc := 521) (114 : Int32) (dd dtX6_init_6 47 rfl) (by decide) ?_
  refine WPe_iast (pc := 523) (dd dtX6_init_6 48 rfl) (shI e226 (shI e224 (shI e222 (shI e220 (shI e218 (shI e216 (shI e214 (shI e212 (shI e210 (shI e208 (shI e206 (shN e204)))))))))))) (by unfold vp_in; decide) ?_
  refine WPe_lw fun w227 e228 => ?_
  refine WPe_dup (pc := 524) (dd dtX6_init_6 49 rfl) rfl ?_
  refine WPe_bipush (pc := 525) (12 : Int32) (dd dtX6_init_7 0 rfl) (by decide) ?_
  refine WPe_bipush (pc := 527) (115 : Int32) (dd dtX6_init_7 1 rfl) (by decide) ?_
  refine WPe_iast (pc := 529) (dd dtX6_init_7 2 rfl) (shI e228 (shI e226 (shI e224 (shI e222 (shI e220 (shI e218 (shI e216 (shI e214 (shI e212 (shI e210 (shI e208 (shI e206 (shN e204))))))))))))) (by unfold vp_in; decide) ?_
  refine WPe_lw fun w229 e230 => ?_
  refine WPe_dup (pc := 530) (dd dtX6_init_7 3 rfl) rfl ?_
  refine WPe_bipush (pc := 531) (13 : Int32) (dd dtX6_init_7 4 rfl) (by decide) ?_
  refine WPe_bipush (pc := 533) (32 : Int32) (dd dtX6_init_7 5 rfl) (by decide) ?_
  refine WPe_iast (pc := 535) (dd dtX6_init_7 6 rfl) (shI e230 (shI e228 (shI e226 (shI e224 (shI e222 (shI e220 (shI e218 (shI e216 (shI e214 (shI e212 (shI e210 (shI e208 (shI e206 (shN e204)))))))))))))) (by unfold vp_in; decide) ?_
  refine WPe_lw fun w231 e232 => ?_
  refine WPe_dup (pc := 536) (dd dtX6_init_7 7 rfl) rfl ?_
  refine WPe_bipush (pc := 537) (14 : Int32) (dd dtX6_init_7 8 rfl) (by decide) ?_
  refine WPe_bipush (pc := 539) (32 : Int32) (dd dtX6_init_7 9 rfl) (by decide) ?_
  refine WPe_iast (pc := 541) (dd dtX6_init_7 10 rfl) (shI e232 (shI e230 (shI e228 (shI e226 (shI e224 (shI e222 (shI e220 (shI e218 (shI e216 (shI e214 (shI e212 (shI e210 (shI e208 (shI e206 (shN e204))))))))))))))) (by unfold vp_in; decide) ?_
  refine WPe_lw fun w233 e234 => ?_
  refine WPe_dup (pc := 542) (dd dtX6_init_7 11 rfl) rfl ?_
  refine WPe_bipush (pc := 543) (15 : Int32) (dd dtX6_init_7 12 rfl) (by decide) ?_
  refine WPe_bipush (pc := 545) (32 : Int32) (dd dtX6_init_7 13 rfl) (by decide) ?_
  refine WPe_iast (pc := 547) (dd dtX6_init_7 14 rfl) (shI e234 (shI e232 (shI e230 (shI e228 (shI e226 (shI e224 (shI e222 (shI e220 (shI e218 (shI e216 (shI e214 (shI e212 (shI e210 (shI e208 (shI e206 (shN e204)))))))))))))))) (by unfold vp_in; decide) ?_
  refine WPe_lw fun w235 e236 => ?_
  refine WPe_dup (pc := 548) (dd dtX6_init_7 15 rfl) rfl ?_
  refine WPe_bipush (pc := 549) (16 : Int32) (dd dtX6_init_7 16 rfl) (by decide) ?_
  refine WPe_bipush (pc := 551) (103 : Int32) (dd dtX6_init_7 17 rfl) (by decide) ?_
  refine WPe_iast (pc := 553) (dd dtX6_init_7 18 rfl) (shI e236 (shI e234 (shI e232 (shI e230 (shI e228 (shI e226 (shI e224 (shI e222 (shI e220 (shI e218 (shI e216 (shI e214 (shI e212 (shI e210 (shI e208 (shI e206 (shN e204))))))))))))))))) (by unfold vp_in; decide) ?_
  refine WPe_lw fun w237 e238 => ?_
  refine WPe_dup (pc := 554) (dd dtX6_init_7 19 rfl) rfl ?_
  refine WPe_bipush (pc := 555) (17 : Int32) (dd dtX6_init_7 20 rfl) (by decide) ?_
  refine WPe_bipush (pc := 557) (108 : Int32) (dd dtX6_init_7 21 rfl) (by decide) ?_
  refine WPe_iast (pc := 559) (dd dtX6_init_7 22 rfl) (shI e238 (shI e236 (shI e234 (shI e232 (shI e230 (shI e228 (shI e226 (shI e224 (shI e222 (shI e220 (shI e218 (shI e216 (shI e214 (shI e212 (shI e210 (shI e208 (shI e206 (shN e204)))))))))))))))))) (by unfold vp_in; decide) ?_
  refine WPe_lw fun w239 e240 => ?_
  refine WPe_dup (pc := 560) (dd dtX6_init_7 23 rfl) rfl ?_
  refine WPe_bipush (pc := 561) (18 : Int32) (dd dtX6_init_7 24 rfl) (by decide) ?_
  refine WPe_bipush (pc := 563) (97 : Int32) (dd dtX6_init_7 25 rfl) (by decide) ?_
  refine WPe_iast (pc := 565) (dd dtX6_init_7 26 rfl) (shI e240 (shI e238 (shI e236 (shI e234 (shI e232 (shI e230 (shI e228 (shI e226 (shI e224 (shI e222 (shI e220 (shI e218 (shI e216 (shI e214 (shI e212 (shI e210 (shI e208 (shI e206 (shN e204))))))))))))))))))) (by unfold vp_in; decide) ?_
  refine WPe_lw fun w241 e242 => ?_
  refine WPe_dup (pc := 566) (dd dtX6_init_7 27 rfl) rfl ?_
  refine WPe_bipush (pc := 567) (19 : Int32) (dd dtX6_init_7 28 rfl) (by decide) ?_
  refine WPe_bipush (pc := 569) (100 : Int32) (dd dtX6_init_7 29 rfl) (by decide) ?_
  refine WPe_iast (pc := 571) (dd dtX6_init_7 30 rfl) (shI e242 (shI e240 (shI e238 (shI e236 (shI e234 (shI e232 (shI e230 (shI e228 (shI e226 (shI e224 (shI e222 (shI e220 (shI e218 (shI e216 (shI e214 (shI e212 (shI e210 (shI e208 (shI e206 (shN e204)))))))))))))))))))) (by unfold vp_in; decide) ?_
  refine WPe_lw fun w243 e244 => ?_
  refine WPe_dup (pc := 572) (dd dtX6_init_7 31 rfl) rfl ?_
  refine WPe_bipush (pc := 573) (20 : Int32) (dd dtX6_init_7 32 rfl) (by decide) ?_
  refine WPe_bipush (pc := 575) (32 : Int32) (dd dtX6_init_7 33 rfl) (by decide) ?_
  refine WPe_iast (pc := 577) (dd dtX6_init_7 34 rfl) (shI e244 (shI e242 (shI e240 (shI e238 (shI e236 (shI e234 (shI e232 (shI e230 (shI e228 (shI e226 (shI e224 (shI e222 (shI e220 (shI e218 (shI e216 (shI e214 (shI e212 (shI e210 (shI e208 (shI e206 (shN e204))))))))))))))))))))) (by unfold vp_in; decide) ?_
  refine WPe_lw fun w245 e246 => ?_
  refine WPe_dup (pc := 578) (dd dtX6_init_7 35 rfl) rfl ?_
  refine WPe_bipush (pc := 579) (21 : Int32) (dd dtX6_init_7 36 rfl) (by decide) ?_
  refine WPe_bipush (pc := 581) (32 : Int32) (dd dtX6_init_7 37 rfl) (by decide) ?_
  refine WPe_iast (pc := 583) (dd dtX6_init_7 38 rfl) (shI e246 (shI e244 (shI e242 (shI e240 (shI e238 (shI e236 (shI e234 (shI e232 (shI e230 (shI e228 (shI e226 (shI e224 (shI e222 (shI e220 (shI e218 (shI e216 (shI e214 (shI e212 (shI e210 (shI e208 (shI e206 (shN e204)))))))))))))))))))))) (by unfold vp_in; decide) ?_
  refine WPe_lw fun w247 e248 => ?_
  refine WPe_dup (pc := 584) (dd dtX6_init_7 39 rfl) rfl ?_
  refine WPe_bipush (pc := 585) (22 : Int32) (dd dtX6_init_7 40 rfl) (by decide) ?_
  refine WPe_bipush (pc := 587) (32 : Int32) (dd dtX6_init_7 41 rfl) (by decide) ?_
  refine WPe_iast (pc := 589) (dd dtX6_init_7 42 rfl) (shI e248 (shI e246 (shI e244 (shI e242 (shI e240 (shI e238 (shI e236 (shI e234 (shI e232 (shI e230 (shI e228 (shI e226 (shI e224 (shI e222 (shI e220 (shI e218 (shI e216 (shI e214 (shI e212 (shI e210 (shI e208 (shI e206 (shN e204))))))))))))))))))))))) (by unfold vp_in; decide) ?_
  refine WPe_lw fun w249 e250 => ?_
  refine WPe_dup (pc := 590) (dd dtX6_init_7 43 rfl) rfl ?_
  refine WPe_bipush (pc := 591) (23 : Int32) (dd dtX6_init_7 44 rfl) (by decide) ?_
  refine WPe_bipush (pc := 593) (32 : Int32) (dd dtX6_init_7 45 rfl) (by decide) ?_
  refine WPe_iast (pc := 595) (dd dtX6_init_7 46 rfl) (shI e250 (shI e248 (shI e246 (shI e244 (shI e242 (shI e240 (shI e238 (shI e236 (shI e234 (shI e232 (shI e230 (shI e228 (shI e226 (shI e224 (shI e222 (shI e220 (shI e218 (shI e216 (shI e214 (shI e212 (shI e210 (shI e208 (shI e206 (shN e204)))))))))))))))))))))))) (by unfold vp_in; decide) ?_
  refine WPe_lw fun w251 e252 => ?_
  refine WPe_dup (pc := 596) (dd dtX6_init_7 47 rfl) rfl ?_
  refine WPe_bipush (pc := 597) (24 : Int32) (dd dtX6_init_7 48 rfl) (by decide) ?_
  refine WPe_bipush (pc := 599) (115 : Int32) (dd dtX6_init_7 49 rfl) (by decide) ?_
  refine WPe_iast (pc := 601) (dd dtX6_init_8 0 rfl) (shI e252 (shI e250 (shI e248 (shI e246 (shI e244 (shI e242 (shI e240 (shI e238 (shI e236 (shI e234 (shI e232 (shI e230 (shI e228 (shI e226 (shI e224 (shI e222 (shI e220 (shI e218 (shI e216 (shI e214 (shI e212 (shI e210 (shI e208 (shI e206 (shN e204))))))))))))))))))))))))) (by unfold vp_in; decide) ?_
  refine WPe_lw fun w253 e254 => ?_
  refine WPe_dup (pc := 602) (dd dtX6_init_8 1 rfl) rfl ?_
  refine WPe_bipush (pc := 603) (25 : Int32) (dd dtX6_init_8 2 rfl) (by decide) ?_
  refine WPe_bipush (pc := 605) (116 : Int32) (dd dtX6_init_8 3 rfl) (by decide) ?_
  refine WPe_iast (pc := 607) (dd dtX6_init_8 4 rfl) (shI e254 (shI e252 (shI e250 (shI e248 (shI e246 (shI e244 (shI e242 (shI e240 (shI e238 (shI e236 (shI e234 (shI e232 (shI e230 (shI e228 (shI e226 (shI e224 (shI e222 (shI e220 (shI e218 (shI e216 (shI e214 (shI e212 (shI e210 (shI e208 (shI e206 (shN e204)))))))))))))))))))))))))) (by unfold vp_in; decide) ?_
  refine WPe_lw fun w255 e256 => ?_
  refine WPe_dup (pc := 608) (dd dtX6_init_8 5 rfl) rfl ?_
  refine WPe_bipush (pc := 609) (26 : Int32) (dd dtX6_init_8 6 rfl) (by decide) ?_
  refine WPe_bipush (pc := 611) (111 : Int32) (dd dtX6_init_8 7 rfl) (by decide) ?_
  refine WPe_iast (pc := 613) (dd dtX6_init_8 8 rfl) (shI e256 (shI e254 (shI e252 (shI e250 (shI e248 (shI e246 (shI e244 (shI e242 (shI e240 (shI e238 (shI e236 (shI e234 (shI e232 (shI e230 (shI e228 (shI e226 (shI e224 (shI e222 (shI e220 (shI e218 (shI e216 (shI e214 (shI e212 (shI e210 (shI e208 (shI e206 (shN e204))))))))))))))))))))))))))) (by unfold vp_in; decide) ?_
  refine WPe_lw fun w257 e258 => ?_
  refine WPe_dup (pc := 614) (dd dtX6_init_8 9 rfl) rfl ?_
  refine WPe_bipush (pc := 615) (27 : Int32) (dd dtX6_init_8 10 rfl) (by decide) ?_
  refine WPe_bipush (pc := 617) (110 : Int32) (dd dtX6_init_8 11 rfl) (by decide) ?_
  refine WPe_iast (pc := 619) (dd dtX6_init_8 12 rfl) (shI e258 (shI e256 (shI e254 (shI e252 (shI e250 (shI e248 (shI e246 (shI e244 (shI e242 (shI e240 (shI e238 (shI e236 (shI e234 (shI e232 (shI e230 (shI e228 (shI e226 (shI e224 (shI e222 (shI e220 (shI e218 (shI e216 (shI e214 (shI e212 (shI e210 (shI e208 (shI e206 (shN e204)))))))))))))))))))))))))))) (by unfold vp_in; decide) ?_
  refine WPe_lw fun w259 e260 => ?_
  refine WPe_dup (pc := 620) (dd dtX6_init_8 13 rfl) rfl ?_
  refine WPe_bipush (pc := 621) (28 : Int32) (dd dtX6_init_8 14 rfl) (by decide) ?_
  refine WPe_bipush (pc := 623) (101 : Int32) (dd dtX6_init_8 15 rfl) (by decide) ?_
  refine WPe_iast (pc := 625) (dd dtX6_init_8 16 rfl) (shI e260 (shI e258 (shI e256 (shI e254 (shI e252 (shI e250 (shI e248 (shI e246 (shI e244 (shI e242 (shI e240 (shI e238 (shI e236 (shI e234 (shI e232 (shI e230 (shI e228 (shI e226 (shI e224 (shI e222 (shI e220 (shI e218 (shI e216 (shI e214 (shI e212 (shI e210 (shI e208 (shI e206 (shN e204))))))))))))))))))))))))))))) (by unfold vp_in; decide) ?_
  refine WPe_lw fun w261 e262 => ?_
  refine WPe_dup (pc := 626) (dd dtX6_init_8 17 rfl) rfl ?_
  refine WPe_bipush (pc := 627) (29 : Int32) (dd dtX6_init_8 18 rfl) (by decide) ?_
  refine WPe_bipush (pc := 629) (115 : Int32) (dd dtX6_init_8 19 rfl) (by decide) ?_
  refine WPe_iast (pc := 631) (dd dtX6_init_8 20 rfl) (shI e262 (shI e260 (shI e258 (shI e256 (shI e254 (shI e252 (shI e250 (shI e248 (shI e246 (shI e244 (shI e242 (shI e240 (shI e238 (shI e236 (shI e234 (shI e232 (shI e230 (shI e228 (shI e226 (shI e224 (shI e222 (shI e220 (shI e218 (shI e216 (shI e214 (shI e212 (shI e210 (shI e208 (shI e206 (shN e204)))))))))))))))))))))))))))))) (by unfold vp_in; decide) ?_
  refine WPe_lw fun w263 e264 => ?_
  refine WPe_dup (pc := 632) (dd dtX6_init_8 21 rfl) rfl ?_
  refine WPe_bipush (pc := 633) (30 : Int32) (dd dtX6_init_8 22 rfl) (by decide) ?_
  refine WPe_bipush (pc := 635) (32 : Int32) (dd dtX6_init_8 23 rfl) (by decide) ?_
  refine WPe_iast (pc := 637) (dd dtX6_init_8 24 rfl) (shI e264 (shI e262 (shI e260 (shI e258 (shI e256 (shI e254 (shI e252 (shI e250 (shI e248 (shI e246 (shI e244 (shI e242 (shI e240 (shI e238 (shI e236 (shI e234 (shI e232 (shI e230 (shI e228 (shI e226 (shI e224 (shI e222 (shI e220 (shI e218 (shI e216 (shI e214 (shI e212 (shI e210 (shI e208 (shI e206 (shN e204))))))))))))))))))))))))))))))) (by unfold vp_in; decide) ?_
  refine WPe_lw fun w265 e266 => ?_
  refine WPe_dup (pc := 638) (dd dtX6_init_8 25 rfl) rfl ?_
  refine WPe_bipush (pc := 639) (31 : Int32) (dd dtX6_init_8 26 rfl) (by decide) ?_
  refine WPe_bipush (pc := 641) (32 : Int32) (dd dtX6_init_8 27 rfl) (by decide) ?_
  refine WPe_iast (pc := 643) (dd dtX6_init_8 28 rfl) (shI e266 (shI e264 (shI e262 (shI e260 (shI e258 (shI e256 (shI e254 (shI e252 (shI e250 (shI e248 (shI e246 (shI e244 (shI e242 (shI e240 (shI e238 (shI e236 (shI e234 (shI e232 (shI e230 (shI e228 (shI e226 (shI e224 (shI e222 (shI e220 (shI e218 (shI e216 (shI e214 (shI e212 (shI e210 (shI e208 (shI e206 (shN e204)))))))))))))))))))))))))))))))) (by unfold vp_in; decide) ?_
  refine WPe_lw fun w267 e268 => ?_
  refine WPe_dup (pc := 644) (dd dtX6_init_8 29 rfl) rfl ?_
  refine WPe_bipush (pc := 645) (32 : Int32) (dd dtX6_init_8 30 rfl) (by decide) ?_
  refine WPe_bipush (pc := 647) (115 : Int32) (dd dtX6_init_8 31 rfl) (by decide) ?_
  refine WPe_iast (pc := 649) (dd dtX6_init_8 32 rfl) (shI e268 (shI e266 (shI e264 (shI e262 (shI e260 (shI e258 (shI e256 (shI e254 (shI e252 (shI e250 (shI e248 (shI e246 (shI e244 (shI e242 (shI e240 (shI e238 (shI e236 (shI e234 (shI e232 (shI e230 (shI e228 (shI e226 (shI e224 (shI e222 (shI e220 (shI e218 (shI e216 (shI e214 (shI e212 (shI e210 (shI e208 (shI e206 (shN e204))))))))))))))))))))))))))))))))) (by unfold vp_in; decide) ?_
  refine WPe_lw fun w269 e270 => ?_
  refine WPe_dup (pc := 650) (dd dtX6_init_8 33 rfl) rfl ?_
  refine WPe_bipush (pc := 651) (33 : Int32) (dd dtX6_init_8 34 rfl) (by decide) ?_
  refine WPe_bipush (pc := 653) (116 : Int32) (dd dtX6_init_8 35 rfl) (by decide) ?_
  refine WPe_iast (pc := 655) (dd dtX6_init_8 36 rfl) (shI e270 (shI e268 (shI e266 (shI e264 (shI e262 (shI e260 (shI e258 (shI e256 (shI e254 (shI e252 (shI e250 (shI e248 (shI e246 (shI e244 (shI e242 (shI e240 (shI e238 (shI e236 (shI e234 (shI e232 (shI e230 (shI e228 (shI e226 (shI e224 (shI e222 (shI e220 (shI e218 (shI e216 (shI e214 (shI e212 (shI e210 (shI e208 (shI e206 (shN e204)))))))))))))))))))))))))))))))))) (by unfold vp_in; decide) ?_
  refine WPe_lw fun w271 e272 => ?_
  refine WPe_dup (pc := 656) (dd dtX6_init_8 37 rfl) rfl ?_
  refine WPe_bipush (pc := 657) (34 : Int32) (dd dtX6_init_8 38 rfl) (by decide) ?_
  refine WPe_bipush (pc := 659) (101 : Int32) (dd dtX6_init_8 39 rfl) (by decide) ?_
  refine WPe_iast (pc := 661) (dd dtX6_init_8 40 rfl) (shI e272 (shI e270 (shI e268 (shI e266 (shI e264 (shI e262 (shI e260 (shI e258 (shI e256 (shI e254 (shI e252 (shI e250 (shI e248 (shI e246 (shI e244 (shI e242 (shI e240 (shI e238 (shI e236 (shI e234 (shI e232 (shI e230 (shI e228 (shI e226 (shI e224 (shI e222 (shI e220 (shI e218 (shI e216 (shI e214 (shI e212 (shI e210 (shI e208 (shI e206 (shN e204))))))))))))))))))))))))))))))))))) (by unfold vp_in; decide) ?_
  refine WPe_lw fun w273 e274 => ?_
  refine WPe_dup (pc := 662) (dd dtX6_init_8 41 rfl) rfl ?_
  refine WPe_bipush (pc := 663) (35 : Int32) (dd dtX6_init_8 42 rfl) (by decide) ?_
  refine WPe_bipush (pc := 665) (97 : Int32) (dd dtX6_init_8 43 rfl) (by decide) ?_
  refine WPe_iast (pc := 667) (dd dtX6_init_8 44 rfl) (shI e274 (shI e272 (shI e270 (shI e268 (shI e266 (shI e264 (shI e262 (shI e260 (shI e258 (shI e256 (shI e254 (shI e252 (shI e250 (shI e248 (shI e246 (shI e244 (shI e242 (shI e240 (shI e238 (shI e236 (shI e234 (shI e232 (shI e230 (shI e228 (shI e226 (shI e224 (shI e222 (shI e220 (shI e218 (shI e216 (shI e214 (shI e212 (shI e210 (shI e208 (shI e206 (shN e204)))))))))))))))))))))))))))))))))))) (by unfold vp_in; decide) ?_
  refine WPe_lw fun w275 e276 => ?_
  refine WPe_dup (pc := 668) (dd dtX6_init_8 45 rfl) rfl ?_
  refine WPe_bipush (pc := 669) (36 : Int32) (dd dtX6_init_8 46 rfl) (by decide) ?_
  refine WPe_bipush (pc := 671) (109 : Int32) (dd dtX6_init_8 47 rfl) (by decide) ?_
  refine WPe_iast (pc := 673) (dd dtX6_init_8 48 rfl) (shI e276 (shI e274 (shI e272 (shI e270 (shI e268 (shI e266 (shI e264 (shI e262 (shI e260 (shI e258 (shI e256 (shI e254 (shI e252 (shI e250 (shI e248 (shI e246 (shI e244 (shI e242 (shI e240 (shI e238 (shI e236 (shI e234 (shI e232 (shI e230 (shI e228 (shI e226 (shI e224 (shI e222 (shI e220 (shI e218 (shI e216 (shI e214 (shI e212 (shI e210 (shI e208 (shI e206 (shN e204))))))))))))))))))))))))))))))))))))) (by unfold vp_in; decide) ?_
  refine WPe_lw fun w277 e278 => ?_
  refine WPe_dup (pc := 674) (dd dtX6_init_8 49 rfl) rfl ?_
  refine WPe_bipush (pc := 675) (37 : Int32) (dd dtX6_init_9 0 rfl) (by decide) ?_
  refine WPe_bipush (pc := 677) (32 : Int32) (dd dtX6_init_9 1 rfl) (by decide) ?_
  refine WPe_iast (pc := 679) (dd dtX6_init_9 2 rfl) (shI e278 (shI e276 (shI e274 (shI e272 (shI e270 (shI e268 (shI e266 (shI e264 (shI e262 (shI e260 (shI e258 (shI e256 (shI e254 (shI e252 (shI e250 (shI e248 (shI e246 (shI e244 (shI e242 (shI e240 (shI e238 (shI e236 (shI e234 (shI e232 (shI e230 (shI e228 (shI e226 (shI e224 (shI e222 (shI e220 (shI e218 (shI e216 (shI e214 (shI e212 (shI e210 (shI e208 (shI e206 (shN e204)))))))))))))))))))))))))))))))))))))) (by unfold vp_in; decide) ?_
  refine WPe_lw fun w279 e280 => ?_
  refine WPe_dup (pc := 680) (dd dtX6_init_9 3 rfl) rfl ?_
  refine WPe_bipush (pc := 681) (38 : Int32) (dd dtX6_init_9 4 rfl) (by decide) ?_
  refine WPe_bipush (pc := 683) (32 : Int32) (dd dtX6_init_9 5 rfl) (by decide) ?_
  refine WPe_iast (pc := 685) (dd dtX6_init_9 6 rfl) (shI e280 (shI e278 (shI e276 (shI e274 (shI e272 (shI e270 (shI e268 (shI e266 (shI e264 (shI e262 (shI e260 (shI e258 (shI e256 (shI e254 (shI e252 (shI e250 (shI e248 (shI e246 (shI e244 (shI e242 (shI e240 (shI e238 (shI e236 (shI e234 (shI e232 (shI e230 (shI e228 (shI e226 (shI e224 (shI e222 (shI e220 (shI e218 (shI e216 (shI e214 (shI e212 (shI e210 (shI e208 (shI e206 (shN e204))))))))))))))))))))))))))))))))))))))) (by unfold vp_in; decide) ?_
  refine WPe_lw fun w281 e282 => ?_
  refine WPe_dup (pc := 686) (dd dtX6_init_9 7 rfl) rfl ?_
  refine WPe_bipush (pc := 687) (39 : Int32) (dd dtX6_init_9 8 rfl) (by decide) ?_
  refine WPe_bipush (pc := 689) (32 : Int32) (dd dtX6_init_9 9 rfl) (by decide) ?_
  refine WPe_iast (pc := 691) (dd dtX6_init_9 10 rfl) (shI e282 (shI e280 (shI e278 (shI e276 (shI e274 (shI e272 (shI e270 (shI e268 (shI e266 (shI e264 (shI e262 (shI e260 (shI e258 (shI e256 (shI e254 (shI e252 (shI e250 (shI e248 (shI e246 (shI e244 (shI e242 (shI e240 (shI e238 (shI e236 (shI e234 (shI e232 (shI e230 (shI e228 (shI e226 (shI e224 (shI e222 (shI e220 (shI e218 (shI e216 (shI e214 (shI e212 (shI e210 (shI e208 (shI e206 (shN e204)))))))))))))))))))))))))))))))))))))))) (by unfold vp_in; decide) ?_
  refine WPe_lw fun w283 e284 => ?_
  refine WPe_dup (pc := 692) (dd dtX6_init_9 11 rfl) rfl ?_
  refine WPe_bipush (pc := 693) (40 : Int32) (dd dtX6_init_9 12 rfl) (by decide) ?_
  refine WPe_bipush (pc := 695) (98 : Int32) (dd dtX6_init_9 13 rfl) (by decide) ?_
  refine WPe_iast (pc := 697) (dd dtX6_init_9 14 rfl) (shI e284 (shI e282 (shI e280 (shI e278 (shI e276 (shI e274 (shI e272 (shI e270 (shI e268 (shI e266 (shI e264 (shI e262 (shI e260 (shI e258 (shI e256 (shI e254 (shI e252 (shI e250 (shI e248 (shI e246 (shI e244 (shI e242 (shI e240 (shI e238 (shI e236 (shI e234 (shI e232 (shI e230 (shI e228 (shI e226 (shI e224 (shI e222 (shI e220 (shI e218 (shI e216 (shI e214 (shI e212 (shI e210 (shI e208 (shI e206 (shN e204))))))))))))))))))))))))))))))))))))))))) (by unfold vp_in; decide) ?_
  refine WPe_lw fun w285 e286 => ?_
  refine WPe_dup (pc := 698) (dd dtX6_init_9 15 rfl) rfl ?_
  refine WPe_bipush (pc := 699) (41 : Int32) (dd dtX6_init_9 16 rfl) (by decide) ?_
  refine WPe_bipush (pc := 701) (101 : Int32) (dd dtX6_init_9 17 rfl) (by decide) ?_
  refine WPe_iast (pc := 703) (dd dtX6_init_9 18 rfl) (shI e286 (shI e284 (shI e282 (shI e280 (shI e278 (shI e276 (shI e274 (shI e272 (shI e270 (shI e268 (shI e266 (shI e264 (shI e262 (shI e260 (shI e258 (shI e256 (shI e254 (shI e252 (shI e250 (shI e248 (shI e246 (shI e244 (shI e242 (shI e240 (shI e238 (shI e236 (shI e234 (shI e232 (shI e230 (shI e228 (shI e226 (shI e224 (shI e222 (shI e220 (shI e218 (shI e216 (shI e214 (shI e212 (shI e210 (shI e208 (shI e206 (shN e204)))))))))))))))))))))))))))))))))))))))))) (by unfold vp_in; decide) ?_
  refine WPe_lw fun w287 e288 => ?_
  refine WPe_dup (pc := 704) (dd dtX6_init_9 19 rfl) rfl ?_
  refine WPe_bipush (pc := 705) (42 : Int32) (dd dtX6_init_9 20 rfl) (by decide) ?_
  refine WPe_bipush (pc := 707) (110 : Int32) (dd dtX6_init_9 21 rfl) (by decide) ?_
  refine WPe_iast (pc := 709) (dd dtX6_init_9 22 rfl) (shI e288 (shI e286 (shI e284 (shI e282 (shI e280 (shI e278 (shI e276 (shI e274 (shI e272 (shI e270 (shI e268 (shI e266 (shI e264 (shI e262 (shI e260 (shI e258 (shI e256 (shI e254 (shI e252 (shI e250 (shI e248 (shI e246 (shI e244 (shI e242 (shI e240 (shI e238 (shI e236 (shI e234 (shI e232 (shI e230 (shI e228 (shI e226 (shI e224 (shI e222 (shI e220 (shI e218 (shI e216 (shI e214 (shI e212 (shI e210 (shI e208 (shI e206 (shN e204))))))))))))))))))))))))))))))))))))))))))) (by unfold vp_in; decide) ?_
  refine WPe_lw fun w289 e290 => ?_
  refine WPe_dup (pc := 710) (dd dtX6_init_9 23 rfl) rfl ?_
  refine WPe_bipush (pc := 711) (43 : Int32) (dd dtX6_init_9 24 rfl) (by decide) ?_
  refine WPe_bipush (pc := 713) (99 : Int32) (dd dtX6_init_9 25 rfl) (by decide) ?_
  refine WPe_iast (pc := 715) (dd dtX6_init_9 26 rfl) (shI e290 (shI e288 (shI e286 (shI e284 (shI e282 (shI e280 (shI e278 (shI e276 (shI e274 (shI e272 (shI e270 (shI e268 (shI e266 (shI e264 (shI e262 (shI e260 (shI e258 (shI e256 (shI e254 (shI e252 (shI e250 (shI e248 (shI e246 (shI e244 (shI e242 (shI e240 (shI e238 (shI e236 (shI e234 (shI e232 (shI e230 (shI e228 (shI e226 (shI e224 (shI e222 (shI e220 (shI e218 (shI e216 (shI e214 (shI e212 (shI e210 (shI e208 (shI e206 (shN e204)))))))))))))))))))))))))))))))))))))))))))) (by unfold vp_in; decide) ?_
  refine WPe_lw fun w291 e292 => ?_
  refine WPe_dup (pc := 716) (dd dtX6_init_9 27 rfl) rfl ?_
  refine WPe_bipush (pc := 717) (44 : Int32) (dd dtX6_init_9 28 rfl) (by decide) ?_
  refine WPe_bipush (pc := 719) (104 : Int32) (dd dtX6_init_9 29 rfl) (by decide) ?_
  refine WPe_iast (pc := 721) (dd dtX6_init_9 30 rfl) (shI e292 (shI e290 (shI e288 (shI e286 (shI e284 (shI e282 (shI e280 (shI e278 (shI e276 (shI e274 (shI e272 (shI e270 (shI e268 (shI e266 (shI e264 (shI e262 (shI e260 (shI e258 (shI e256 (shI e254 (shI e252 (shI e250 (shI e248 (shI e246 (shI e244 (shI e242 (shI e240 (shI e238 (shI e236 (shI e234 (shI e232 (shI e230 (shI e228 (shI e226 (shI e224 (shI e222 (shI e220 (shI e218 (shI e216 (shI e214 (shI e212 (shI e210 (shI e208 (shI e206 (shN e204))))))))))))))))))))))))))))))))))))))))))))) (by unfold vp_in; decide) ?_
  refine WPe_lw fun w293 e294 => ?_
  refine WPe_dup (pc := 722) (dd dtX6_init_9 31 rfl) rfl ?_
  refine WPe_bipush (pc := 723) (45 : Int32) (dd dtX6_init_9 32 rfl) (by decide) ?_
  refine WPe_bipush (pc := 725) (32 : Int32) (dd dtX6_init_9 33 rfl) (by decide) ?_
  refine WPe_iast (pc := 727) (dd dtX6_init_9 34 rfl) (shI e294 (shI e292 (shI e290 (shI e288 (shI e286 (shI e284 (shI e282 (shI e280 (shI e278 (shI e276 (shI e274 (shI e272 (shI e270 (shI e268 (shI e266 (shI e264 (shI e262 (shI e260 (shI e258 (shI e256 (shI e254 (shI e252 (shI e250 (shI e248 (shI e246 (shI e244 (shI e242 (shI e240 (shI e238 (shI e236 (shI e234 (shI e232 (shI e230 (shI e228 (shI e226 (shI e224 (shI e222 (shI e220 (shI e218 (shI e216 (shI e214 (shI e212 (shI e210 (shI e208 (shI e206 (shN e204)))))))))))))))))))))))))))))))))))))))))))))) (by unfold vp_in; decide) ?_
  refine WPe_lw fun w295 e296 => ?_
  refine WPe_dup (pc := 728) (dd dtX6_init_9 35 rfl) rfl ?_
  refine WPe_bipush (pc := 729) (46 : Int32) (dd dtX6_init_9 36 rfl) (by decide) ?_
  refine WPe_bipush (pc := 731) (32 : Int32) (dd dtX6_init_9 37 rfl) (by decide) ?_
  refine WPe_iast (pc := 733) (dd dtX6_init_9 38 rfl) (shI e296 (shI e294 (shI e292 (shI e290 (shI e288 (shI e286 (shI e284 (shI e282 (shI e280 (shI e278 (shI e276 (shI e274 (shI e272 (shI e270 (shI e268 (shI e266 (shI e264 (shI e262 (shI e260 (shI e258 (shI e256 (shI e254 (shI e252 (shI e250 (shI e248 (shI e246 (shI e244 (shI e242 (shI e240 (shI e238 (shI e236 (shI e234 (shI e232 (shI e230 (shI e228 (shI e226 (shI e224 (shI e222 (shI e220 (shI e218 (shI e216 (shI e214 (shI e212 (shI e210 (shI e208 (shI e206 (shN e204))))))))))))))))))))))))))))))))))))))))))))))) (by unfold vp_in; decide) ?_
  refine WPe_lw fun w297 e298 => ?_
  refine WPe_dup (pc := 734) (dd dtX6_init_9 39 rfl) rfl ?_
  refine WPe_bipush (pc := 735) (47 : Int32) (dd dtX6_init_9 40 rfl) (by decide) ?_
  refine WPe_bipush (pc := 737) (32 : Int32) (dd dtX6_init_9 41 rfl) (by decide) ?_
  refine WPe_iast (pc := 739) (dd dtX6_init_9 42 rfl) (shI e298 (shI e296 (shI e294 (shI e292 (shI e290 (shI e288 (shI e286 (shI e284 (shI e282 (shI e280 (shI e278 (shI e276 (shI e274 (shI e272 (shI e270 (shI e268 (shI e266 (shI e264 (shI e262 (shI e260 (shI e258 (shI e256 (shI e254 (shI e252 (shI e250 (shI e248 (shI e246 (shI e244 (shI e242 (shI e240 (shI e238 (shI e236 (shI e234 (shI e232 (shI e230 (shI e228 (shI e226 (shI e224 (shI e222 (shI e220 (shI e218 (shI e216 (shI e214 (shI e212 (shI e210 (shI e208 (shI e206 (shN e204)))))))))))))))))))))))))))))))))))))))))))))))) (by unfold vp_in; decide) ?_
  refine WPe_lw fun w299 e300 => ?_
  refine WPe_dup (pc := 740) (dd dtX6_init_9 43 rfl) rfl ?_
  refine WPe_bipush (pc := 741) (48 : Int32) (dd dtX6_init_9 44 rfl) (by decide) ?_
  refine WPe_bipush (pc := 743) (109 : Int32) (dd dtX6_init_9 45 rfl) (by decide) ?_
  refine WPe_iast (pc := 745) (dd dtX6_init_9 46 rfl) (shI e300 (shI e298 (shI e296 (shI e294 (shI e292 (shI e290 (shI e288 (shI e286 (shI e284 (shI e282 (shI e280 (shI e278 (shI e276 (shI e274 (shI e272 (shI e270 (shI e268 (shI e266 (shI e264 (shI e262 (shI e260 (shI e258 (shI e256 (shI e254 (shI e252 (shI e250 (shI e248 (shI e246 (shI e244 (shI e242 (shI e240 (shI e238 (shI e236 (shI e234 (shI e232 (shI e230 (shI e228 (shI e226 (shI e224 (shI e222 (shI e220 (shI e218 (shI e216 (shI e214 (shI e212 (shI e210 (shI e208 (shI e206 (shN e204))))))))))))))))))))))))))))))))))))))))))))))))) (by unfold vp_in; decide) ?_
  refine WPe_lw fun w301 e302 => ?_
  refine WPe_dup (pc := 746) (dd dtX6_init_9 47 rfl) rfl ?_
  refine WPe_bipush (pc := 747) (49 : Int32) (dd dtX6_init_9 48 rfl) (by decide) ?_
  refine WPe_bipush (pc := 749) (105 : Int32) (dd dtX6_init_9 49 rfl) (by decide) ?_
  refine WPe_iast (pc := 751) (dd dtX6_init_10 0 rfl) (shI e302 (shI e300 (shI e298 (shI e296 (shI e294 (shI e292 (shI e290 (shI e288 (shI e286 (shI e284 (shI e282 (shI e280 (shI e278 (shI e276 (shI e274 (shI e272 (shI e270 (shI e268 (shI e266 (shI e264 (shI e262 (shI e260 (shI e258 (shI e256 (shI e254 (shI e252 (shI e250 (shI e248 (shI e246 (shI e244 (shI e242 (shI e240 (shI e238 (shI e236 (shI e234 (shI e232 (shI e230 (shI e228 (shI e226 (shI e224 (shI e222 (shI e220 (shI e218 (shI e216 (shI e214 (shI e212 (shI e210 (shI e208 (shI e206 (shN e204)))))))))))))))))))))))))))))))))))))))))))))))))) (by unfold vp_in; decide) ?_
  refine WPe_lw fun w303 e304 => ?_
  refine WPe_dup (pc := 752) (dd dtX6_init_10 1 rfl) rfl ?_
  refine WPe_bipush (pc := 753) (50 : Int32) (dd dtX6_init_10 2 rfl) (by decide) ?_
  refine WPe_bipush (pc := 755) (110 : Int32) (dd dtX6_init_10 3 rfl) (by decide) ?_
  refine WPe_iast (pc := 757) (dd dtX6_init_10 4 rfl) (shI e304 (shI e302 (shI e300 (shI e298 (shI e296 (shI e294 (shI e292 (shI e290 (shI e288 (shI e286 (shI e284 (shI e282 (shI e280 (shI e278 (shI e276 (shI e274 (shI e272 (shI e270 (shI e268 (shI e266 (shI e264 (shI e262 (shI e260 (shI e258 (shI e256 (shI e254 (shI e252 (shI e250 (shI e248 (shI e246 (shI e244 (shI e242 (shI e240 (shI e238 (shI e236 (shI e234 (shI e232 (shI e230 (shI e228 (shI e226 (shI e224 (shI e222 (shI e220 (shI e218 (shI e216 (shI e214 (shI e212 (shI e210 (shI e208 (shI e206 (shN e204))))))))))))))))))))))))))))))))))))))))))))))))))) (by unfold vp_in; decide) ?_
  refine WPe_lw fun w305 e306 => ?_
  refine WPe_dup (pc := 758) (dd dtX6_init_10 5 rfl) rfl ?_
  refine WPe_bipush (pc := 759) (51 : Int32) (dd dtX6_init_10 6 rfl) (by decide) ?_
  refine WPe_bipush (pc := 761) (117 : Int32) (dd dtX6_init_10 7 rfl) (by decide) ?_
  refine WPe_iast (pc := 763) (dd dtX6_init_10 8 rfl) (shI e306 (shI e304 (shI e302 (shI e300 (shI e298 (shI e296 (shI e294 (shI e292 (shI e290 (shI e288 (shI e286 (shI e284 (shI e282 (shI e280 (shI e278 (shI e276 (shI e274 (shI e272 (shI e270 (shI e268 (shI e266 (shI e264 (shI e262 (shI e260 (shI e258 (shI e256 (shI e254 (shI e252 (shI e250 (shI e248 (shI e246 (shI e244 (shI e242 (shI e240 (shI e238 (shI e236 (shI e234 (shI e232 (shI e230 (shI e228 (shI e226 (shI e224 (shI e222 (shI e220 (shI e218 (shI e216 (shI e214 (shI e212 (shI e210 (shI e208 (shI e206 (shN e204)))))))))))))))))))))))))))))))))))))))))))))))))))) (by unfold vp_in; decide) ?_
  refine WPe_lw fun w307 e308 => ?_
  refine WPe_dup (pc := 764) (dd dtX6_init_10 9 rfl) rfl ?_
  refine WPe_bipush (pc := 765) (52 : Int32) (dd dtX6_init_10 10 rfl) (by decide) ?_
  refine WPe_bipush (pc := 767) (116 : Int32) (dd dtX6_init_10 11 rfl) (by decide) ?_
  refine WPe_iast (pc := 769) (dd dtX6_init_10 12 rfl) (shI e308 (shI e306 (shI e304 (shI e302 (shI e300 (shI e298 (shI e296 (shI e294 (shI e292 (shI e290 (shI e288 (shI e286 (shI e284 (shI e282 (shI e280 (shI e278 (shI e276 (shI e274 (shI e272 (shI e270 (shI e268 (shI e266 (shI e264 (shI e262 (shI e260 (shI e258 (shI e256 (shI e254 (shI e252 (shI e250 (shI e248 (shI e246 (shI e244 (shI e242 (shI e240 (shI e238 (shI e236 (shI e234 (shI e232 (shI e230 (shI e228 (shI e226 (shI e224 (shI e222 (shI e220 (shI e218 (shI e216 (shI e214 (shI e212 (shI e210 (shI e208 (shI e206 (shN e204))))))))))))))))))))))))))))))))))))))))))))))))))))) (by unfold vp_in; decide) ?_
  refine WPe_lw fun w309 e310 => ?_
  refine WPe_dup (pc := 770) (dd dtX6_init_10 13 rfl) rfl ?_
  refine WPe_bipush (pc := 771) (53 : Int32) (dd dtX6_init_10 14 rfl) (by decide) ?_
  refine WPe_bipush (pc := 773) (101 : Int32) (dd dtX6_init_10 15 rfl) (by decide) ?_
  refine WPe_iast (pc := 775) (dd dtX6_init_10 16 rfl) (shI e310 (shI e308 (shI e306 (shI e304 (shI e302 (shI e300 (shI e298 (shI e296 (shI e294 (shI e292 (shI e290 (shI e288 (shI e286 (shI e284 (shI e282 (shI e280 (shI e278 (shI e276 (shI e274 (shI e272 (shI e270 (shI e268 (shI e266 (shI e264 (shI e262 (shI e260 (shI e258 (shI e256 (shI e254 (shI e252 (shI e250 (shI e248 (shI e246 (shI e244 (shI e242 (shI e240 (shI e238 (shI e236 (shI e234 (shI e232 (shI e230 (shI e228 (shI e226 (shI e224 (shI e222 (shI e220 (shI e218 (shI e216 (shI e214 (shI e212 (shI e210 (shI e208 (shI e206 (shN e204)))))))))))))))))))))))))))))))))))))))))))))))))))))) (by unfold vp_in; decide) ?_
  refine WPe_lw fun w311 e312 => ?_
  refine WPe_dup (pc := 776) (dd dtX6_init_10 17 rfl) rfl ?_
  refine WPe_bipush (pc := 777) (54 : Int32) (dd dtX6_init_10 18 rfl) (by decide) ?_
  refine WPe_bipush (pc := 779) (32 : Int32) (dd dtX6_init_10 19 rfl) (by decide) ?_
  refine WPe_iast (pc := 781) (dd dtX6_init_10 20 rfl) (shI e312 (shI e310 (shI e308 (shI e306 (shI e304 (shI e302 (shI e300 (shI e298 (shI e296 (shI e294 (shI e292 (shI e290 (shI e288 (shI e286 (shI e284 (shI e282 (shI e280 (shI e278 (shI e276 (shI e274 (shI e272 (shI e270 (shI e268 (shI e266 (shI e264 (shI e262 (shI e260 (shI e258 (shI e256 (shI e254 (shI e252 (shI e250 (shI e248 (shI e246 (shI e244 (shI e242 (shI e240 (shI e238 (shI e236 (shI e234 (shI e232 (shI e230 (shI e228 (shI e226 (shI e224 (shI e222 (shI e220 (shI e218 (shI e216 (shI e214 (shI e212 (shI e210 (shI e208 (shI e206 (shN e204))))))))))))))))))))))))))))))))))))))))))))))))))))))) (by unfold vp_in; decide) ?_
  refine WPe_lw fun w313 e314 => ?_
  refine WPe_dup (pc := 782) (dd dtX6_init_10 21 rfl) rfl ?_
  refine WPe_bipush (pc := 783) (55 : Int32) (dd dtX6_init_10 22 rfl) (by decide) ?_
  refine WPe_bipush (pc := 785) (32 : Int32) (dd dtX6_init_10 23 rfl) (by decide) ?_
  refine WPe_iast (pc := 787) (dd dtX6_init_10 24 rfl) (shI e314 (shI e312 (shI e310 (shI e308 (shI e306 (shI e304 (shI e302 (shI e300 (shI e298 (shI e296 (shI e294 (shI e292 (shI e290 (shI e288 (shI e286 (shI e284 (shI e282 (shI e280 (shI e278 (shI e276 (shI e274 (shI e272 (shI e270 (shI e268 (shI e266 (shI e264 (shI e262 (shI e260 (shI e258 (shI e256 (shI e254 (shI e252 (shI e250 (shI e248 (shI e246 (shI e244 (shI e242 (shI e240 (shI e238 (shI e236 (shI e234 (shI e232 (shI e230 (shI e228 (shI e226 (shI e224 (shI e222 (shI e220 (shI e218 (shI e216 (shI e214 (shI e212 (shI e210 (shI e208 (shI e206 (shN e204)))))))))))))))))))))))))))))))))))))))))))))))))))))))) (by unfold vp_in; decide) ?_
  refine WPe_lw fun w315 e316 => ?_
  refine WPe_dup (pc := 788) (dd dtX6_init_10 25 rfl) rfl ?_
  refine WPe_bipush (pc := 789) (56 : Int32) (dd dtX6_init_10 26 rfl) (by decide) ?_
  refine WPe_bipush (pc := 791) (119 : Int32) (dd dtX6_init_10 27 rfl) (by decide) ?_
  refine WPe_iast (pc := 793) (dd dtX6_init_10 28 rfl) (shI e316 (shI e314 (shI e312 (shI e310 (shI e308 (shI e306 (shI e304 (shI e302 (shI e300 (shI e298 (shI e296 (shI e294 (shI e292 (shI e290 (shI e288 (shI e286 (shI e284 (shI e282 (shI e280 (shI e278 (shI e276 (shI e274 (shI e272 (shI e270 (shI e268 (shI e266 (shI e264 (shI e262 (shI e260 (shI e258 (shI e256 (shI e254 (shI e252 (shI e250 (shI e248 (shI e246 (shI e244 (shI e242 (shI e240 (shI e238 (shI e236 (shI e234 (shI e232 (shI e230 (shI e228 (shI e226 (shI e224 (shI e222 (shI e220 (shI e218 (shI e216 (shI e214 (shI e212 (shI e210 (shI e208 (shI e206 (shN e204))))))))))))))))))))))))))))))))))))))))))))))))))))))))) (by unfold vp_in; decide) ?_
  refine WPe_lw fun w317 e318 => ?_
  refine WPe_dup (pc := 794) (dd dtX6_init_10 29 rfl) rfl ?_
  refine WPe_bipush (pc := 795) (57 : Int32) (dd dtX6_init_10 30 rfl) (by decide) ?_
  refine WPe_bipush (pc := 797) (97 : Int32) (dd dtX6_init_10 31 rfl) (by decide) ?_
  refine WPe_iast (pc := 799) (dd dtX6_init_10 32 rfl) (shI e318 (shI e316 (shI e314 (shI e312 (shI e310 (shI e308 (shI e306 (shI e304 (shI e302 (shI e300 (shI e298 (shI e296 (shI e294 (shI e292 (shI e290 (shI e288 (shI e286 (shI e284 (shI e282 (shI e280 (shI e278 (shI e276 (shI e274 (shI e272 (shI e270 (shI e268 (shI e266 (shI e264 (shI e262 (shI e260 (shI e258 (shI e256 (shI e254 (shI e252 (shI e250 (shI e248 (shI e246 (shI e244 (shI e242 (shI e240 (shI e238 (shI e236 (shI e234 (shI e232 (shI e230 (shI e228 (shI e226 (shI e224 (shI e222 (shI e220 (shI e218 (shI e216 (shI e214 (shI e212 (shI e210 (shI e208 (shI e206 (shN e204)))))))))))))))))))))))))))))))))))))))))))))))))))))))))) (by unfold vp_in; decide) ?_
  refine WPe_lw fun w319 e320 => ?_
  refine WPe_dup (pc := 800) (dd dtX6_init_10 33 rfl) rfl ?_
  refine WPe_bipush (pc := 801) (58 : Int32) (dd dtX6_init_10 34 rfl) (by decide) ?_
  refine WPe_bipush (pc := 803) (114 : Int32) (dd dtX6_init_10 35 rfl) (by decide) ?_
  refine WPe_iast (pc := 805) (dd dtX6_init_10 36 rfl) (shI e320 (shI e318 (shI e316 (shI e314 (shI e312 (shI e310 (shI e308 (shI e306 (shI e304 (shI e302 (shI e300 (shI e298 (shI e296 (shI e294 (shI e292 (shI e290 (shI e288 (shI e286 (shI e284 (shI e282 (shI e280 (shI e278 (shI e276 (shI e274 (shI e272 (shI e270 (shI e268 (shI e266 (shI e264 (shI e262 (shI e260 (shI e258 (shI e256 (shI e254 (shI e252 (shI e250 (shI e248 (shI e246 (shI e244 (shI e242 (shI e240 (shI e238 (shI e236 (shI e234 (shI e232 (shI e230 (shI e228 (shI e226 (shI e224 (shI e222 (shI e220 (shI e218 (shI e216 (shI e214 (shI e212 (shI e210 (shI e208 (shI e206 (shN e204))))))))))))))))))))))))))))))))))))))))))))))))))))))))))) (by unfold vp_in; decide) ?_
  refine WPe_lw fun w321 e322 => ?_
  refine WPe_dup (pc := 806) (dd dtX6_init_10 37 rfl) rfl ?_
  refine WPe_bipush (pc := 807) (59 : Int32) (dd dtX6_init_10 38 rfl) (by decide) ?_
  refine WPe_bipush (pc := 809) (109 : Int32) (dd dtX6_init_10 39 rfl) (by decide) ?_
  refine WPe_iast (pc := 811) (dd dtX6_init_10 40 rfl) (shI e322 (shI e320 (shI e318 (shI e316 (shI e314 (shI e312 (shI e310 (shI e308 (shI e306 (shI e304 (shI e302 (shI e300 (shI e298 (shI e296 (shI e294 (shI e292 (shI e290 (shI e288 (shI e286 (shI e284 (shI e282 (shI e280 (shI e278 (shI e276 (shI e274 (shI e272 (shI e270 (shI e268 (shI e266 (shI e264 (shI e262 (shI e260 (shI e258 (shI e256 (shI e254 (shI e252 (shI e250 (shI e248 (shI e246 (shI e244 (shI e242 (shI e240 (shI e238 (shI e236 (shI e234 (shI e232 (shI e230 (shI e228 (shI e226 (shI e224 (shI e222 (shI e220 (shI e218 (shI e216 (shI e214 (shI e212 (shI e210 (shI e208 (shI e206 (shN e204)))))))))))))))))))))))))))))))))))))))))))))))))))))))))))) (by unfold vp_in; decide) ?_
  refine WPe_lw fun w323 e324 => ?_
  refine WPe_dup (pc := 812) (dd dtX6_init_10 41 rfl) rfl ?_
  refine WPe_bipush (pc := 813) (60 : Int32) (dd dtX6_init_10 42 rfl) (by decide) ?_
  refine WPe_bipush (pc := 815) (32 : Int32) (dd dtX6_init_10 43 rfl) (by decide) ?_
  refine WPe_iast (pc := 817) (dd dtX6_init_10 44 rfl) (shI e324 (shI e322 (shI e320 (shI e318 (shI e316 (shI e314 (shI e312 (shI e310 (shI e308 (shI e306 (shI e304 (shI e302 (shI e300 (shI e298 (shI e296 (shI e294 (shI e292 (shI e290 (shI e288 (shI e286 (shI e284 (shI e282 (shI e280 (shI e278 (shI e276 (shI e274 (shI e272 (shI e270 (shI e268 (shI e266 (shI e264 (shI e262 (shI e260 (shI e258 (shI e256 (shI e254 (shI e252 (shI e250 (shI e248 (shI e246 (shI e244 (shI e242 (shI e240 (shI e238 (shI e236 (shI e234 (shI e232 (shI e230 (shI e228 (shI e226 (shI e224 (shI e222 (shI e220 (shI e218 (shI e216 (shI e214 (shI e212 (shI e210 (shI e208 (shI e206 (shN e204))))))))))))))))))))))))))))))))))))))))))))))))))))))))))))) (by unfold vp_in; decide) ?_
  refine WPe_lw fun w325 e326 => ?_
  refine WPe_dup (pc := 818) (dd dtX6_init_10 45 rfl) rfl ?_
  refine WPe_bipush (pc := 819) (61 : Int32) (dd dtX6_init_10 46 rfl) (by decide) ?_
  refine WPe_bipush (pc := 821) (32 : Int32) (dd dtX6_init_10 47 rfl) (by decide) ?_
  refine WPe_iast (pc := 823) (dd dtX6_init_10 48 rfl) (shI e326 (shI e324 (shI e322 (shI e320 (shI e318 (shI e316 (shI e314 (shI e312 (shI e310 (shI e308 (shI e306 (shI e304 (shI e302 (shI e300 (shI e298 (shI e296 (shI e294 (shI e292 (shI e290 (shI e288 (shI e286 (shI e284 (shI e282 (shI e280 (shI e278 (shI e276 (shI e274 (shI e272 (shI e270 (shI e268 (shI e266 (shI e264 (shI e262 (shI e260 (shI e258 (shI e256 (shI e254 (shI e252 (shI e250 (shI e248 (shI e246 (shI e244 (shI e242 (shI e240 (shI e238 (shI e236 (shI e234 (shI e232 (shI e230 (shI e228 (shI e226 (shI e224 (shI e222 (shI e220 (shI e218 (shI e216 (shI e214 (shI e212 (shI e210 (shI e208 (shI e206 (shN e204)))))))))))))))))))))))))))))))))))))))))))))))))))))))))))))) (by unfold vp_in; decide) ?_
  refine WPe_lw fun w327 e328 => ?_
  refine WPe_dup (pc := 824) (dd dtX6_init_10 49 rfl) rfl ?_
  refine WPe_bipush (pc := 825) (62 : Int32) (dd dtX6_init_11 0 rfl) (by decide) ?_
  refine WPe_bipush (pc := 827) (32 : Int32) (dd dtX6_init_11 1 rfl) (by decide) ?_
  refine WPe_iast (pc := 829) (dd dtX6_init_11 2 rfl) (shI e328 (shI e326 (shI e324 (shI e322 (shI e320 (shI e318 (shI e316 (shI e314 (shI e312 (shI e310 (shI e308 (shI e306 (shI e304 (shI e302 (shI e300 (shI e298 (shI e296 (shI e294 (shI e292 (shI e290 (shI e288 (shI e286 (shI e284 (shI e282 (shI e280 (shI e278 (shI e276 (shI e274 (shI e272 (shI e270 (shI e268 (shI e266 (shI e264 (shI e262 (shI e260 (shI e258 (shI e256 (shI e254 (shI e252 (shI e250 (shI e248 (shI e246 (shI e244 (shI e242 (shI e240 (shI e238 (shI e236 (shI e234 (shI e232 (shI e230 (shI e228 (shI e226 (shI e224 (shI e222 (shI e220 (shI e218 (shI e216 (shI e214 (shI e212 (shI e210 (shI e208 (shI e206 (shN e204))))))))))))))))))))))))))))))))))))))))))))))))))))))))))))))) (by unfold vp_in; decide) ?_
  refine WPe_lw fun w329 e330 => ?_
  refine WPe_dup (pc := 830) (dd dtX6_init_11 3 rfl) rfl ?_
  refine WPe_bipush (pc := 831) (63 : Int32) (dd dtX6_init_11 4 rfl) (by decide) ?_
  refine WPe_bipush (pc := 833) (32 : Int32) (dd dtX6_init_11 5 rfl) (by decide) ?_
  refine WPe_iast (pc := 835) (dd dtX6_init_11 6 rfl) (shI e330 (shI e328 (shI e326 (shI e324 (shI e322 (shI e320 (shI e318 (shI e316 (shI e314 (shI e312 (shI e310 (shI e308 (shI e306 (shI e304 (shI e302 (shI e300 (shI e298 (shI e296 (shI e294 (shI e292 (shI e290 (shI e288 (shI e286 (shI e284 (shI e282 (shI e280 (shI e278 (shI e276 (shI e274 (shI e272 (shI e270 (shI e268 (shI e266 (shI e264 (shI e262 (shI e260 (shI e258 (shI e256 (shI e254 (shI e252 (shI e250 (shI e248 (shI e246 (shI e244 (shI e242 (shI e240 (shI e238 (shI e236 (shI e234 (shI e232 (shI e230 (shI e228 (shI e226 (shI e224 (shI e222 (shI e220 (shI e218 (shI e216 (shI e214 (shI e212 (shI e210 (shI e208 (shI e206 (shN e204)))))))))))))))))))))))))))))))))))))))))))))))))))))))))))))))) (by unfold vp_in; decide) ?_
  refine WPe_lw fun w331 e332 => ?_
  refine WPe_dup (pc := 836) (dd dtX6_init_11 7 rfl) rfl ?_
  refine WPe_bipush (pc := 837) (64 : Int32) (dd dtX6_init_11 8 rfl) (by decide) ?_
  refine WPe_bipush (pc := 839) (109 : Int32) (dd dtX6_init_11 9 rfl) (by decide) ?_
  refine WPe_iast (pc := 841) (dd dtX6_init_11 10 rfl) (shI e332 (shI e330 (shI e328 (shI e326 (shI e324 (shI e322 (shI e320 (shI e318 (shI e316 (shI e314 (shI e312 (shI e310 (shI e308 (shI e306 (shI e304 (shI e302 (shI e300 (shI e298 (shI e296 (shI e294 (shI e292 (shI e290 (shI e288 (shI e286 (shI e284 (shI e282 (shI e280 (shI e278 (shI e276 (shI e274 (shI e272 (shI e270 (shI e268 (shI e266 (shI e264 (shI e262 (shI e260 (shI e258 (shI e256 (shI e254 (shI e252 (shI e250 (shI e248 (shI e246 (shI e244 (shI e242 (shI e240 (shI e238 (shI e236 (shI e234 (shI e232 (shI e230 (shI e228 (shI e226 (shI e224 (shI e222 (shI e220 (shI e218 (shI e216 (shI e214 (shI e212 (shI e210 (shI e208 (shI e206 (shN e204))))))))))))))))))))))))))))))))))))))))))))))))))))))))))))))))) (by unfold vp_in; decide) ?_
  refine WPe_lw fun w333 e334 => ?_
  refine WPe_dup (pc := 842) (dd dtX6_init_11 11 rfl) rfl ?_
  refine WPe_bipush (pc := 843) (65 : Int32) (dd dtX6_init_11 12 rfl) (by decide) ?_
  refine WPe_bipush (pc := 845) (111 : Int32) (dd dtX6_init_11 13 rfl) (by decide) ?_
  refine WPe_iast (pc := 847) (dd dtX6_init_11 14 rfl) (shI e334 (shI e332 (shI e330 (shI e328 (shI e326 (shI e324 (shI e322 (shI e320 (shI e318 (shI e316 (shI e314 (shI e312 (shI e310 (shI e308 (shI e306 (shI e304 (shI e302 (shI e300 (shI e298 (shI e296 (shI e294 (shI e292 (shI e290 (shI e288 (shI e286 (shI e284 (shI e282 (shI e280 (shI e278 (shI e276 (shI e274 (shI e272 (shI e270 (shI e268 (shI e266 (shI e264 (shI e262 (shI e260 (shI e258 (shI e256 (shI e254 (shI e252 (shI e250 (shI e248 (shI e246 (shI e244 (shI e242 (shI e240 (shI e238 (shI e236 (shI e234 (shI e232 (shI e230 (shI e228 (shI e226 (shI e224 (shI e222 (shI e220 (shI e218 (shI e216 (shI e214 (shI e212 (shI e210 (shI e208 (shI e206 (shN e204)))))))))))))))))))))))))))))))))))))))))))))))))))))))))))))))))) (by unfold vp_in; decide) ?_
  refine WPe_lw fun w335 e336 => ?_
  refine WPe_dup (pc := 848) (dd dtX6_init_11 15 rfl) rfl ?_
  refine WPe_bipush (pc := 849) (66 : Int32) (dd dtX6_init_11 16 rfl) (by decide) ?_
  refine WPe_bipush (pc := 851) (114 : Int32) (dd dtX6_init_11 17 rfl) (by decide) ?_
  refine WPe_iast (pc := 853) (dd dtX6_init_11 18 rfl) (shI e336 (shI e334 (shI e332 (shI e330 (shI e328 (shI e326 (shI e324 (shI e322 (shI e320 (shI e318 (shI e316 (shI e314 (shI e312 (shI e310 (shI e308 (shI e306 (shI e304 (shI e302 (shI e300 (shI e298 (shI e296 (shI e294 (shI e292 (shI e290 (shI e288 (shI e286 (shI e284 (shI e282 (shI e280 (shI e278 (shI e276 (shI e274 (shI e272 (shI e270 (shI e268 (shI e266 (shI e264 (shI e262 (shI e260 (shI e258 (shI e256 (shI e254 (shI e252 (shI e250 (shI e248 (shI e246 (shI e244 (shI e242 (shI e240 (shI e238 (shI e236 (shI e234 (shI e232 (shI e230 (shI e228 (shI e226 (shI e224 (shI e222 (shI e220 (shI e218 (shI e216 (shI e214 (shI e212 (shI e210 (shI e208 (shI e206 (shN e204))))))))))))))))))))))))))))))))))))))))))))))))))))))))))))))))))) (by unfold vp_in; decide) ?_
  refine WPe_lw fun w337 e338 => ?_
  refine WPe_dup (pc := 854) (dd dtX6_init_11 19 rfl) rfl ?_
  refine WPe_bipush (pc := 855) (67 : Int32) (dd dtX6_init_11 20 rfl) (by decide) ?_
  refine WPe_bipush (pc := 857) (101 : Int32) (dd dtX6_init_11 21 rfl) (by decide) ?_
  refine WPe_iast (pc := 859) (dd dtX6_init_11 22 rfl) (shI e338 (shI e336 (shI e334 (shI e332 (shI e330 (shI e328 (shI e326 (shI e324 (shI e322 (shI e320 (shI e318 (shI e316 (shI e314 (shI e312 (shI e310 (shI e308 (shI e306 (shI e304 (shI e302 (shI e300 (shI e298 (shI e296 (shI e294 (shI e292 (shI e290 (shI e288 (shI e286 (shI e284 (shI e282 (shI e280 (shI e278 (shI e276 (shI e274 (shI e272 (shI e270 (shI e268 (shI e266 (shI e264 (shI e262 (shI e260 (shI e258 (shI e256 (shI e254 (shI e252 (shI e250 (shI e248 (shI e246 (shI e244 (shI e242 (shI e240 (shI e238 (shI e236 (shI e234 (shI e232 (shI e230 (shI e228 (shI e226 (shI e224 (shI e222 (shI e220 (shI e218 (shI e216 (shI e214 (shI e212 (shI e210 (shI e208 (shI e206 (shN e204)))))))))))))))))))))))))))))))))))))))))))))))))))))))))))))))))))) (by unfold vp_in; decide) ?_
  refine WPe_lw fun w339 e340 => ?_
  refine WPe_dup (pc := 860) (dd dtX6_init_11 23 rfl) rfl ?_
  refine WPe_bipush (pc := 861) (68 : Int32) (dd dtX6_init_11 24 rfl) (by decide) ?_
  refine WPe_bipush (pc := 863) (32 : Int32) (dd dtX6_init_11 25 rfl) (by decide) ?_
  refine WPe_iast (pc := 865) (dd dtX6_init_11 26 rfl) (shI e340 (shI e338 (shI e336 (shI e334 (shI e332 (shI e330 (shI e328 (shI e326 (shI e324 (shI e322 (shI e320 (shI e318 (shI e316 (shI e314 (shI e312 (shI e310 (shI e308 (shI e306 (shI e304 (shI e302 (shI e300 (shI e298 (shI e296 (shI e294 (shI e292 (shI e290 (shI e288 (shI e286 (shI e284 (shI e282 (shI e280 (shI e278 (shI e276 (shI e274 (shI e272 (shI e270 (shI e268 (shI e266 (shI e264 (shI e262 (shI e260 (shI e258 (shI e256 (shI e254 (shI e252 (shI e250 (shI e248 (shI e246 (shI e244 (shI e242 (shI e240 (shI e238 (shI e236 (shI e234 (shI e232 (shI e230 (shI e228 (shI e226 (shI e224 (shI e222 (shI e220 (shI e218 (shI e216 (shI e214 (shI e212 (shI e210 (shI e208 (shI e206 (shN e204))))))))))))))))))))))))))))))))))))))))))))))))))))))))))))))))))))) (by unfold vp_in; decide) ?_
  refine WPe_lw fun w341 e342 => ?_
  refine WPe_dup (pc := 866) (dd dtX6_init_11 27 rfl) rfl ?_
  refine WPe_bipush (pc := 867) (69 : Int32) (dd dtX6_init_11 28 rfl) (by decide) ?_
  refine WPe_bipush (pc := 869) (32 : Int32) (dd dtX6_init_11 29 rfl) (by decide) ?_
  refine WPe_iast (pc := 871) (dd dtX6_init_11 30 rfl) (shI e342 (shI e340 (shI e338 (shI e336 (shI e334 (shI e332 (shI e330 (shI e328 (shI e326 (shI e324 (shI e322 (shI e320 (shI e318 (shI e316 (shI e314 (shI e312 (shI e310 (shI e308 (shI e306 (shI e304 (shI e302 (shI e300 (shI e298 (shI e296 (shI e294 (shI e292 (shI e290 (shI e288 (shI e286 (shI e284 (shI e282 (shI e280 (shI e278 (shI e276 (shI e274 (shI e272 (shI e270 (shI e268 (shI e266 (shI e264 (shI e262 (shI e260 (shI e258 (shI e256 (shI e254 (shI e252 (shI e250 (shI e248 (shI e246 (shI e244 (shI e242 (shI e240 (shI e238 (shI e236 (shI e234 (shI e232 (shI e230 (shI e228 (shI e226 (shI e224 (shI e222 (shI e220 (shI e218 (shI e216 (shI e214 (shI e212 (shI e210 (shI e208 (shI e206 (shN e204)))))))))))))))))))))))))))))))))))))))))))))))))))))))))))))))))))))) (by unfold vp_in; decide) ?_
  refine WPe_lw fun w343 e344 => ?_
  refine WPe_dup (pc := 872) (dd dtX6_init_11 31 rfl) rfl ?_
  refine WPe_bipush (pc := 873) (70 : Int32) (dd dtX6_init_11 32 rfl) (by decide) ?_
  refine WPe_bipush (pc := 875) (32 : Int32) (dd dtX6_init_11 33 rfl) (by decide) ?_
  refine WPe_iast (pc := 877) (dd dtX6_init_11 34 rfl) (shI e344 (shI e342 (shI e340 (shI e338 (shI e336 (shI e334 (shI e332 (shI e330 (shI e328 (shI e326 (shI e324 (shI e322 (shI e320 (shI e318 (shI e316 (shI e314 (shI e312 (shI e310 (shI e308 (shI e306 (shI e304 (shI e302 (shI e300 (shI e298 (shI e296 (shI e294 (shI e292 (shI e290 (shI e288 (shI e286 (shI e284 (shI e282 (shI e280 (shI e278 (shI e276 (shI e274 (shI e272 (shI e270 (shI e268 (shI e266 (shI e264 (shI e262 (shI e260 (shI e258 (shI e256 (shI e254 (shI e252 (shI e250 (shI e248 (shI e246 (shI e244 (shI e242 (shI e240 (shI e238 (shI e236 (shI e234 (shI e232 (shI e230 (shI e228 (shI e226 (shI e224 (shI e222 (shI e220 (shI e218 (shI e216 (shI e214 (shI e212 (shI e210 (shI e208 (shI e206 (shN e204))))))))))))))))))))))))))))))))))))))))))))))))))))))))))))))))))))))) (by unfold vp_in; decide) ?_
  refine WPe_lw fun w345 e346 => ?_
  refine WPe_dup (pc := 878) (dd dtX6_init_11 35 rfl) rfl ?_
  refine WPe_bipush (pc := 879) (71 : Int32) (dd dtX6_init_11 36 rfl) (by decide) ?_
  refine WPe_bipush (pc := 881) (32 : Int32) (dd dtX6_init_11 37 rfl) (by decide) ?_
  refine WPe_iast (pc := 883) (dd dtX6_init_11 38 rfl) (shI e346 (shI e344 (shI e342 (shI e340 (shI e338 (shI e336 (shI e334 (shI e332 (shI e330 (shI e328 (shI e326 (shI e324 (shI e322 (shI e320 (shI e318 (shI e316 (shI e314 (shI e312 (shI e310 (shI e308 (shI e306 (shI e304 (shI e302 (shI e300 (shI e298 (shI e296 (shI e294 (shI e292 (shI e290 (shI e288 (shI e286 (shI e284 (shI e282 (shI e280 (shI e278 (shI e276 (shI e274 (shI e272 (shI e270 (shI e268 (shI e266 (shI e264 (shI e262 (shI e260 (shI e258 (shI e256 (shI e254 (shI e252 (shI e250 (shI e248 (shI e246 (shI e244 (shI e242 (shI e240 (shI e238 (shI e236 (shI e234 (shI e232 (shI e230 (shI e228 (shI e226 (shI e224 (shI e222 (shI e220 (shI e218 (shI e216 (shI e214 (shI e212 (shI e210 (shI e208 (shI e206 (shN e204)))))))))))))))))))))))))))))))))))))))))))))))))))))))))))))))))))))))) (by unfold vp_in; decide) ?_
  refine WPe_lw fun w347 e348 => ?_
  refine WPe_dup (pc := 884) (dd dtX6_init_11 39 rfl) rfl ?_
  refine WPe_bipush (pc := 885) (72 : Int32) (dd dtX6_init_11 40 rfl) (by decide) ?_
  refine WPe_bipush (pc := 887) (111 : Int32) (dd dtX6_init_11 41 rfl) (by decide) ?_
  refine WPe_iast (pc := 889) (dd dtX6_init_11 42 rfl) (shI e348 (shI e346 (shI e344 (shI e342 (shI e340 (shI e338 (shI e336 (shI e334 (shI e332 (shI e330 (shI e328 (shI e326 (shI e324 (shI e322 (shI e320 (shI e318 (shI e316 (shI e314 (shI e312 (shI e310 (shI e308 (shI e306 (shI e304 (shI e302 (shI e300 (shI e298 (shI e296 (shI e294 (shI e292 (shI e290 (shI e288 (shI e286 (shI e284 (shI e282 (shI e280 (shI e278 (shI e276 (shI e274 (shI e272 (shI e270 (shI e268 (shI e266 (shI e264 (shI e262 (shI e260 (shI e258 (shI e256 (shI e254 (shI e252 (shI e250 (shI e248 (shI e246 (shI e244 (shI e242 (shI e240 (shI e238 (shI e236 (shI e234 (shI e232 (shI e230 (shI e228 (shI e226 (shI e224 (shI e222 (shI e220 (shI e218 (shI e216 (shI e214 (shI e212 (shI e210 (shI e208 (shI e206 (shN e204))))))))))))))))))))))))))))))))))))))))))))))))))))))))))))))))))))))))) (by unfold vp_in; decide) ?_
  refine WPe_lw fun w349 e350 => ?_
  refine WPe_dup (pc := 890) (dd dtX6_init_11 43 rfl) rfl ?_
  refine WPe_bipush (pc := 891) (73 : Int32) (dd dtX6_init_11 44 rfl) (by decide) ?_
  refine WPe_bipush (pc := 893) (114 : Int32) (dd dtX6_init_11 45 rfl) (by decide) ?_
  refine WPe_iast (pc := 895) (dd dtX6_init_11 46 rfl) (shI e350 (shI e348 (shI e346 (shI e344 (shI e342 (shI e340 (shI e338 (shI e336 (shI e334 (shI e332 (shI e330 (shI e328 (shI e326 (shI e324 (shI e322 (shI e320 (shI e318 (shI e316 (shI e314 (shI e312 (shI e310 (shI e308 (shI e306 (shI e304 (shI e302 (shI e300 (shI e298 (shI e296 (shI e294 (shI e292 (shI e290 (shI e288 (shI e286 (shI e284 (shI e282 (shI e280 (shI e278 (shI e276 (shI e274 (shI e272 (shI e270 (shI e268 (shI e266 (shI e264 (shI e262 (shI e260 (shI e258 (shI e256 (shI e254 (shI e252 (shI e250 (shI e248 (shI e246 (shI e244 (shI e242 (shI e240 (shI e238 (shI e236 (shI e234 (shI e232 (shI e230 (shI e228 (shI e226 (shI e224 (shI e222 (shI e220 (shI e218 (shI e216 (shI e214 (shI e212 (shI e210 (shI e208 (shI e206 (shN e204)))))))))))))))))))))))))))))))))))))))))))))))))))))))))))))))))))))))))) (by unfold vp_in; decide) ?_
  refine WPe_lw fun w351 e352 => ?_
  refine WPe_dup (pc := 896) (dd dtX6_init_11 47 rfl) rfl ?_
  refine WPe_bipush (pc := 897) (74 : Int32) (dd dtX6_init_11 48 rfl) (by decide) ?_
  refine WPe_bipush (pc := 899) (32 : Int32) (dd dtX6_init_11 49 rfl) (by decide) ?_
  refine WPe_iast (pc := 901) (dd dtX6_init_12 0 rfl) (shI e352 (shI e350 (shI e348 (shI e346 (shI e344 (shI e342 (shI e340 (shI e338 (shI e336 (shI e334 (shI e332 (shI e330 (shI e328 (shI e326 (shI e324 (shI e322 (shI e320 (shI e318 (shI e316 (shI e314 (shI e312 (shI e310 (shI e308 (shI e306 (shI e304 (shI e302 (shI e300 (shI e298 (shI e296 (shI e294 (shI e292 (shI e290 (shI e288 (shI e286 (shI e284 (shI e282 (shI e280 (shI e278 (shI e276 (shI e274 (shI e272 (shI e270 (shI e268 (shI e266 (shI e264 (shI e262 (shI e260 (shI e258 (shI e256 (shI e254 (shI e252 (shI e250 (shI e248 (shI e246 (shI e244 (shI e242 (shI e240 (shI e238 (shI e236 (shI e234 (shI e232 (shI e230 (shI e228 (shI e226 (shI e224 (shI e222 (shI e220 (shI e218 (shI e216 (shI e214 (shI e212 (shI e210 (shI e208 (shI e206 (shN e204))))))))))))))))))))))))))))))))))))))))))))))))))))))))))))))))))))))))))) (by unfold vp_in; decide) ?_
  refine WPe_lw fun w353 e354 => ?_
  refine WPe_dup (pc := 902) (dd dtX6_init_12 1 rfl) rfl ?_
  refine WPe_bipush (pc := 903) (75 : Int32) (dd dtX6_init_12 2 rfl) (by decide) ?_
  refine WPe_bipush (pc := 905) (32 : Int32) (dd dtX6_init_12 3 rfl) (by decide) ?_
  refine WPe_iast (pc := 907) (dd dtX6_init_12 4 rfl) (shI e354 (shI e352 (shI e350 (shI e348 (shI e346 (shI e344 (shI e342 (shI e340 (shI e338 (shI e336 (shI e334 (shI e332 (shI e330 (shI e328 (shI e326 (shI e324 (shI e322 (shI e320 (shI e318 (shI e316 (shI e314 (shI e312 (shI e310 (shI e308 (shI e306 (shI e304 (shI e302 (shI e300 (shI e298 (shI e296 (shI e294 (shI e292 (shI e290 (shI e288 (shI e286 (shI e284 (shI e282 (shI e280 (shI e278 (shI e276 (shI e274 (shI e272 (shI e270 (shI e268 (shI e266 (shI e264 (shI e262 (shI e260 (shI e258 (shI e256 (shI e254 (shI e252 (shI e250 (shI e248 (shI e246 (shI e244 (shI e242 (shI e240 (shI e238 (shI e236 (shI e234 (shI e232 (shI e230 (shI e228 (shI e226 (shI e224 (shI e222 (shI e220 (shI e218 (shI e216 (shI e214 (shI e212 (shI e210 (shI e208 (shI e206 (shN e204)))))))))))))))))))))))))))))))))))))))))))))))))))))))))))))))))))))))))))) (by unfold vp_in; decide) ?_
  refine WPe_lw fun w355 e356 => ?_
  refine WPe_dup (pc := 908) (dd dtX6_init_12 5 rfl) rfl ?_
  refine WPe_bipush (pc := 909) (76 : Int32) (dd dtX6_init_12 6 rfl) (by decide) ?_
  refine WPe_bipush (pc := 911) (32 : Int32) (dd dtX6_init_12 7 rfl) (by decide) ?_
  refine WPe_iast (pc := 913) (dd dtX6_init_12 8 rfl) (shI e356 (shI e354 (shI e352 (shI e350 (shI e348 (shI e346 (shI e344 (shI e342 (shI e340 (shI e338 (shI e336 (shI e334 (shI e332 (shI e330 (shI e328 (shI e326 (shI e324 (shI e322 (shI e320 (shI e318 (shI e316 (shI e314 (shI e312 (shI e310 (shI e308 (shI e306 (shI e304 (shI e302 (shI e300 (shI e298 (shI e296 (shI e294 (shI e292 (shI e290 (shI e288 (shI e286 (shI e284 (shI e282 (shI e280 (shI e278 (shI e276 (shI e274 (shI e272 (shI e270 (shI e268 (shI e266 (shI e264 (shI e262 (shI e260 (shI e258 (shI e256 (shI e254 (shI e252 (shI e250 (shI e248 (shI e246 (shI e244 (shI e242 (shI e240 (shI e238 (shI e236 (shI e234 (shI e232 (shI e230 (shI e228 (shI e226 (shI e224 (shI e222 (shI e220 (shI e218 (shI e216 (shI e214 (shI e212 (shI e210 (shI e208 (shI e206 (shN e204))))))))))))))))))))))))))))))))))))))))))))))))))))))))))))))))))))))))))))) (by unfold vp_in; decide) ?_
  refine WPe_lw fun w357 e358 => ?_
  refine WPe_dup (pc := 914) (dd dtX6_init_12 9 rfl) rfl ?_
  refine WPe_bipush (pc := 915) (77 : Int32) (dd dtX6_init_12 10 rfl) (by decide) ?_
  refine WPe_bipush (pc := 917) (32 : Int32) (dd dtX6_init_12 11 rfl) (by decide) ?_
  refine WPe_iast (pc := 919) (dd dtX6_init_12 12 rfl) (shI e358 (shI e356 (shI e354 (shI e352 (shI e350 (shI e348 (shI e346 (shI e344 (shI e342 (shI e340 (shI e338 (shI e336 (shI e334 (shI e332 (shI e330 (shI e328 (shI e326 (shI e324 (shI e322 (shI e320 (shI e318 (shI e316 (shI e314 (shI e312 (shI e310 (shI e308 (shI e306 (shI e304 (shI e302 (shI e300 (shI e298 (shI e296 (shI e294 (shI e292 (shI e290 (shI e288 (shI e286 (shI e284 (shI e282 (shI e280 (shI e278 (shI e276 (shI e274 (shI e272 (shI e270 (shI e268 (shI e266 (shI e264 (shI e262 (shI e260 (shI e258 (shI e256 (shI e254 (shI e252 (shI e250 (shI e248 (shI e246 (shI e244 (shI e242 (shI e240 (shI e238 (shI e236 (shI e234 (shI e232 (shI e230 (shI e228 (shI e226 (shI e224 (shI e222 (shI e220 (shI e218 (shI e216 (shI e214 (shI e212 (shI e210 (shI e208 (shI e206 (shN e204)))))))))))))))))))))))))))))))))))))))))))))))))))))))))))))))))))))))))))))) (by unfold vp_in; decide) ?_
  refine WPe_lw fun w359 e360 => ?_
  refine WPe_dup (pc := 920) (dd dtX6_init_12 13 rfl) rfl ?_
  refine WPe_bipush (pc := 921) (78 : Int32) (dd dtX6_init_12 14 rfl) (by decide) ?_
  refine WPe_bipush (pc := 923) (32 : Int32) (dd dtX6_init_12 15 rfl) (by decide) ?_
  refine WPe_iast (pc := 925) (dd dtX6_init_12 16 rfl) (shI e360 (shI e358 (shI e356 (shI e354 (shI e352 (shI e350 (shI e348 (shI e346 (shI e344 (shI e342 (shI e340 (shI e338 (shI e336 (shI e334 (shI e332 (shI e330 (shI e328 (shI e326 (shI e324 (shI e322 (shI e320 (shI e318 (shI e316 (shI e314 (shI e312 (shI e310 (shI e308 (shI e306 (shI e304 (shI e302 (shI e300 (shI e298 (shI e296 (shI e294 (shI e292 (shI e290 (shI e288 (shI e286 (shI e284 (shI e282 (shI e280 (shI e278 (shI e276 (shI e274 (shI e272 (shI e270 (shI e268 (shI e266 (shI e264 (shI e262 (shI e260 (shI e258 (shI e256 (shI e254 (shI e252 (shI e250 (shI e248 (shI e246 (shI e244 (shI e242 (shI e240 (shI e238 (shI e236 (shI e234 (shI e232 (shI e230 (shI e228 (shI e226 (shI e224 (shI e222 (shI e220 (shI e218 (shI e216 (shI e214 (shI e212 (shI e210 (shI e208 (shI e206 (shN e204))))))))))))))))))))))))))))))))))))))))))))))))))))))))))))))))))))))))))))))) (by unfold vp_in; decide) ?_
  refine WPe_lw fun w361 e362 => ?_
  refine WPe_dup (pc := 926) (dd dtX6_init_12 17 rfl) rfl ?_
  refine WPe_bipush (pc := 927) (79 : Int32) (dd dtX6_init_12 18 rfl) (by decide) ?_
  refine WPe_bipush (pc := 929) (32 : Int32) (dd dtX6_init_12 19 rfl) (by decide) ?_
  refine WPe_iast (pc := 931) (dd dtX6_init_12 20 rfl) (shI e362 (shI e360 (shI e358 (shI e356 (shI e354 (shI e352 (shI e350 (shI e348 (shI e346 (shI e344 (shI e342 (shI e340 (shI e338 (shI e336 (shI e334 (shI e332 (shI e330 (shI e328 (shI e326 (shI e324 (shI e322 (shI e320 (shI e318 (shI e316 (shI e314 (shI e312 (shI e310 (shI e308 (shI e306 (shI e304 (shI e302 (shI e300 (shI e298 (shI e296 (shI e294 (shI e292 (shI e290 (shI e288 (shI e286 (shI e284 (shI e282 (shI e280 (shI e278 (shI e276 (shI e274 (shI e272 (shI e270 (shI e268 (shI e266 (shI e264 (shI e262 (shI e260 (shI e258 (shI e256 (shI e254 (shI e252 (shI e250 (shI e248 (shI e246 (shI e244 (shI e242 (shI e240 (shI e238 (shI e236 (shI e234 (shI e232 (shI e230 (shI e228 (shI e226 (shI e224 (shI e222 (shI e220 (shI e218 (shI e216 (shI e214 (shI e212 (shI e210 (shI e208 (shI e206 (shN e204)))))))))))))))))))))))))))))))))))))))))))))))))))))))))))))))))))))))))))))))) (by unfold vp_in; decide) ?_
  refine WPe_lw fun w363 e364 => ?_
  refine WPe_dup (pc := 932) (dd dtX6_init_12 21 rfl) rfl ?_
  refine WPe_bipush (pc := 933) (80 : Int32) (dd dtX6_init_12 22 rfl) (by decide) ?_
  refine WPe_bipush (pc := 935) (97 : Int32) (dd dtX6_init_12 23 rfl) (by decide) ?_
  refine WPe_iast (pc := 937) (dd dtX6_init_12 24 rfl) (shI e364 (shI e362 (shI e360 (shI e358 (shI e356 (shI e354 (shI e352 (shI e350 (shI e348 (shI e346 (shI e344 (shI e342 (shI e340 (shI e338 (shI e336 (shI e334 (shI e332 (shI e330 (shI e328 (shI e326 (shI e324 (shI e322 (shI e320 (shI e318 (shI e316 (shI e314 (shI e312 (shI e310 (shI e308 (shI e306 (shI e304 (shI e302 (shI e300 (shI e298 (shI e296 (shI e294 (shI e292 (shI e290 (shI e288 (shI e286 (shI e284 (shI e282 (shI e280 (shI e278 (shI e276 (shI e274 (shI e272 (shI e270 (shI e268 (shI e266 (shI e264 (shI e262 (shI e260 (shI e258 (shI e256 (shI e254 (shI e252 (shI e250 (shI e248 (shI e246 (shI e244 (shI e242 (shI e240 (shI e238 (shI e236 (shI e234 (shI e232 (shI e230 (shI e228 (shI e226 (shI e224 (shI e222 (shI e220 (shI e218 (shI e216 (shI e214 (shI e212 (shI e210 (shI e208 (shI e206 (shN e204))))))))))))))))))))))))))))))))))))))))))))))))))))))))))))))))))))))))))))))))) (by unfold vp_in; decide) ?_
  refine WPe_lw fun w365 e366 => ?_
  refine WPe_dup (pc := 938) (dd dtX6_init_12 25 rfl) rfl ?_
  refine WPe_bipush (pc := 939) (81 : Int32) (dd dtX6_init_12 26 rfl) (by decide) ?_
  refine WPe_bipush (pc := 941) (110 : Int32) (dd dtX6_init_12 27 rfl) (by decide) ?_
  refine WPe_iast (pc := 943) (dd dtX6_init_12 28 rfl) (shI e366 (shI e364 (shI e362 (shI e360 (shI e358 (shI e356 (shI e354 (shI e352 (shI e350 (shI e348 (shI e346 (shI e344 (shI e342 (shI e340 (shI e338 (shI e336 (shI e334 (shI e332 (shI e330 (shI e328 (shI e326 (shI e324 (shI e322 (shI e320 (shI e318 (shI e316 (shI e314 (shI e312 (shI e310 (shI e308 (shI e306 (shI e304 (shI e302 (shI e300 (shI e298 (shI e296 (shI e294 (shI e292 (shI e290 (shI e288 (shI e286 (shI e284 (shI e282 (shI e280 (shI e278 (shI e276 (shI e274 (shI e272 (shI e270 (shI e268 (shI e266 (shI e264 (shI e262 (shI e260 (shI e258 (shI e256 (shI e254 (shI e252 (shI e250 (shI e248 (shI e246 (shI e244 (shI e242 (shI e240 (shI e238 (shI e236 (shI e234 (shI e232 (shI e230 (shI e228 (shI e226 (shI e224 (shI e222 (shI e220 (shI e218 (shI e216 (shI e214 (shI e212 (shI e210 (shI e208 (shI e206 (shN e204)))))))))))))))))))))))))))))))))))))))))))))))))))))))))))))))))))))))))))))))))) (by unfold vp_in; decide) ?_
  refine WPe_lw fun w367 e368 => ?_
  refine WPe_dup (pc := 944) (dd dtX6_init_12 29 rfl) rfl ?_
  refine WPe_bipush (pc := 945) (82 : Int32) (dd dtX6_init_12 30 rfl) (by decide) ?_
  refine WPe_bipush (pc := 947) (100 : Int32) (dd dtX6_init_12 31 rfl) (by decide) ?_
  refine WPe_iast (pc := 949) (dd dtX6_init_12 32 rfl) (shI e368 (shI e366 (shI e364 (shI e362 (shI e360 (shI e358 (shI e356 (shI e354 (shI e352 (shI e350 (shI e348 (shI e346 (shI e344 (shI e342 (shI e340 (shI e338 (shI e336 (shI e334 (shI e332 (shI e330 (shI e328 (shI e326 (shI e324 (shI e322 (shI e320 (shI e318 (shI e316 (shI e314 (shI e312 (shI e310 (shI e308 (shI e306 (shI e304 (shI e302 (shI e300 (shI e298 (shI e296 (shI e294 (shI e292 (shI e290 (shI e288 (shI e286 (shI e284 (shI e282 (shI e280 (shI e278 (shI e276 (shI e274 (shI e272 (shI e270 (shI e268 (shI e266 (shI e264 (shI e262 (shI e260 (shI e258 (shI e256 (shI e254 (shI e252 (shI e250 (shI e248 (shI e246 (shI e244 (shI e242 (shI e240 (shI e238 (shI e236 (shI e234 (shI e232 (shI e230 (shI e228 (shI e226 (shI e224 (shI e222 (shI e220 (shI e218 (shI e216 (shI e214 (shI e212 (shI e210 (shI e208 (shI e206 (shN e204))))))))))))))))))))))))))))))))))))))))))))))))))))))))))))))))))))))))))))))))))) (by unfold vp_in; decide) ?_
  refine WPe_lw fun w369 e370 => ?_
  refine WPe_dup (pc := 950) (dd dtX6_init_12 33 rfl) rfl ?_
  refine WPe_bipush (pc := 951) (83 : Int32) (dd dtX6_init_12 34 rfl) (by decide) ?_
  refine WPe_bipush (pc := 953) (32 : Int32) (dd dtX6_init_12 35 rfl) (by decide) ?_
  refine WPe_iast (pc := 955) (dd dtX6_init_12 36 rfl) (shI e370 (shI e368 (shI e366 (shI e364 (shI e362 (shI e360 (shI e358 (shI e356 (shI e354 (shI e352 (shI e350 (shI e348 (shI e346 (shI e344 (shI e342 (shI e340 (shI e338 (shI e336 (shI e334 (shI e332 (shI e330 (shI e328 (shI e326 (shI e324 (shI e322 (shI e320 (shI e318 (shI e316 (shI e314 (shI e312 (shI e310 (shI e308 (shI e306 (shI e304 (shI e302 (shI e300 (shI e298 (shI e296 (shI e294 (shI e292 (shI e290 (shI e288 (shI e286 (shI e284 (shI e282 (shI e280 (shI e278 (shI e276 (shI e274 (shI e272 (shI e270 (shI e268 (shI e266 (shI e264 (shI e262 (shI e260 (shI e258 (shI e256 (shI e254 (shI e252 (shI e250 (shI e248 (shI e246 (shI e244 (shI e242 (shI e240 (shI e238 (shI e236 (shI e234 (shI e232 (shI e230 (shI e228 (shI e226 (shI e224 (shI e222 (shI e220 (shI e218 (shI e216 (shI e214 (shI e212 (shI e210 (shI e208 (shI e206 (shN e204)))))))))))))))))))))))))))))))))))))))))))))))))))))))))))))))))))))))))))))))))))) (by unfold vp_in; decide) ?_
  refine WPe_lw fun w371 e372 => ?_
  refine WPe_dup (pc := 956) (dd dtX6_init_12 37 rfl) rfl ?_
  refine WPe_bipush (pc := 957) (84 : Int32) (dd dtX6_init_12 38 rfl) (by decide) ?_
  refine WPe_bipush (pc := 959) (32 : Int32) (dd dtX6_init_12 39 rfl) (by decide) ?_
  refine WPe_iast (pc := 961) (dd dtX6_init_12 40 rfl) (shI e372 (shI e370 (shI e368 (shI e366 (shI e364 (shI e362 (shI e360 (shI e358 (shI e356 (shI e354 (shI e352 (shI e350 (shI e348 (shI e346 (shI e344 (shI e342 (shI e340 (shI e338 (shI e336 (shI e334 (shI e332 (shI e330 (shI e328 (shI e326 (shI e324 (shI e322 (shI e320 (shI e318 (shI e316 (shI e314 (shI e312 (shI e310 (shI e308 (shI e306 (shI e304 (shI e302 (shI e300 (shI e298 (shI e296 (shI e294 (shI e292 (shI e290 (shI e288 (shI e286 (shI e284 (shI e282 (shI e280 (shI e278 (shI e276 (shI e274 (shI e272 (shI e270 (shI e268 (shI e266 (shI e264 (shI e262 (shI e260 (shI e258 (shI e256 (shI e254 (shI e252 (shI e250 (shI e248 (shI e246 (shI e244 (shI e242 (shI e240 (shI e238 (shI e236 (shI e234 (shI e232 (shI e230 (shI e228 (shI e226 (shI e224 (shI e222 (shI e220 (shI e218 (shI e216 (shI e214 (shI e212 (shI e210 (shI e208 (shI e206 (shN e204))))))))))))))))))))))))))))))))))))))))))))))))))))))))))))))))))))))))))))))))))))) (by unfold vp_in; decide) ?_
  refine WPe_lw fun w373 e374 => ?_
  refine WPe_dup (pc := 962) (dd dtX6_init_12 41 rfl) rfl ?_
  refine WPe_bipush (pc := 963) (85 : Int32) (dd dtX6_init_12 42 rfl) (by decide) ?_
  refine WPe_bipush (pc := 965) (32 : Int32) (dd dtX6_init_12 43 rfl) (by decide) ?_
  refine WPe_iast (pc := 967) (dd dtX6_init_12 44 rfl) (shI e374 (shI e372 (shI e370 (shI e368 (shI e366 (shI e364 (shI e362 (shI e360 (shI e358 (shI e356 (shI e354 (shI e352 (shI e350 (shI e348 (shI e346 (shI e344 (shI e342 (shI e340 (shI e338 (shI e336 (shI e334 (shI e332 (shI e330 (shI e328 (shI e326 (shI e324 (shI e322 (shI e320 (shI e318 (shI e316 (shI e314 (shI e312 (shI e310 (shI e308 (shI e306 (shI e304 (shI e302 (shI e300 (shI e298 (shI e296 (shI e294 (shI e292 (shI e290 (shI e288 (shI e286 (shI e284 (shI e282 (shI e280 (shI e278 (shI e276 (shI e274 (shI e272 (shI e270 (shI e268 (shI e266 (shI e264 (shI e262 (shI e260 (shI e258 (shI e256 (shI e254 (shI e252 (shI e250 (shI e248 (shI e246 (shI e244 (shI e242 (shI e240 (shI e238 (shI e236 (shI e234 (shI e232 (shI e230 (shI e228 (shI e226 (shI e224 (shI e222 (shI e220 (shI e218 (shI e216 (shI e214 (shI e212 (shI e210 (shI e208 (shI e206 (shN e204)))))))))))))))))))))))))))))))))))))))))))))))))))))))))))))))))))))))))))))))))))))) (by unfold vp_in; decide) ?_
  refine WPe_lw fun w375 e376 => ?_
  refine WPe_dup (pc := 968) (dd dtX6_init_12 45 rfl) rfl ?_
  refine WPe_bipush (pc := 969) (86 : Int32) (dd dtX6_init_12 46 rfl) (by decide) ?_
  refine WPe_bipush (pc := 971) (32 : Int32) (dd dtX6_init_12 47 rfl) (by decide) ?_
  refine WPe_iast (pc := 973) (dd dtX6_init_12 48 rfl) (shI e376 (shI e374 (shI e372 (shI e370 (shI e368 (shI e366 (shI e364 (shI e362 (shI e360 (shI e358 (shI e356 (shI e354 (shI e352 (shI e350 (shI e348 (shI e346 (shI e344 (shI e342 (shI e340 (shI e338 (shI e336 (shI e334 (shI e332 (shI e330 (shI e328 (shI e326 (shI e324 (shI e322 (shI e320 (shI e318 (shI e316 (shI e314 (shI e312 (shI e310 (shI e308 (shI e306 (shI e304 (shI e302 (shI e300 (shI e298 (shI e296 (shI e294 (shI e292 (shI e290 (shI e288 (shI e286 (shI e284 (shI e282 (shI e280 (shI e278 (shI e276 (shI e274 (shI e272 (shI e270 (shI e268 (shI e266 (shI e264 (shI e262 (shI e260 (shI e258 (shI e256 (shI e254 (shI e252 (shI e250 (shI e248 (shI e246 (shI e244 (shI e242 (shI e240 (shI e238 (shI e236 (shI e234 (shI e232 (shI e230 (shI e228 (shI e226 (shI e224 (shI e222 (shI e220 (shI e218 (shI e216 (shI e214 (shI e212 (shI e210 (shI e208 (shI e206 (shN e204))))))))))))))))))))))))))))))))))))))))))))))))))))))))))))))))))))))))))))))))))))))) (by unfold vp_in; decide) ?_
  refine WPe_lw fun w377 e378 => ?_
  refine WPe_dup (pc := 974) (dd dtX6_init_12 49 rfl) rfl ?_
  refine WPe_bipush (pc := 975) (87 : Int32) (dd dtX6_init_13 0 rfl) (by decide) ?_
  refine WPe_bipush (pc := 977) (32 : Int32) (dd dtX6_init_13 1 rfl) (by decide) ?_
  refine WPe_iast (pc := 979) (dd dtX6_init_13 2 rfl) (shI e378 (shI e376 (shI e374 (shI e372 (shI e370 (shI e368 (shI e366 (shI e364 (shI e362 (shI e360 (shI e358 (shI e356 (shI e354 (shI e352 (shI e350 (shI e348 (shI e346 (shI e344 (shI e342 (shI e340 (shI e338 (shI e336 (shI e334 (shI e332 (shI e330 (shI e328 (shI e326 (shI e324 (shI e322 (shI e320 (shI e318 (shI e316 (shI e314 (shI e312 (shI e310 (shI e308 (shI e306 (shI e304 (shI e302 (shI e300 (shI e298 (shI e296 (shI e294 (shI e292 (shI e290 (shI e288 (shI e286 (shI e284 (shI e282 (shI e280 (shI e278 (shI e276 (shI e274 (shI e272 (shI e270 (shI e268 (shI e266 (shI e264 (shI e262 (shI e260 (shI e258 (shI e256 (shI e254 (shI e252 (shI e250 (shI e248 (shI e246 (shI e244 (shI e242 (shI e240 (shI e238 (shI e236 (shI e234 (shI e232 (shI e230 (shI e228 (shI e226 (shI e224 (shI e222 (shI e220 (shI e218 (shI e216 (shI e214 (shI e212 (shI e210 (shI e208 (shI e206 (shN e204)))))))))))))))))))))))))))))))))))))))))))))))))))))))))))))))))))))))))))))))))))))))) (by unfold vp_in; decide) ?_
  refine WPe_lw fun w379 e380 => ?_
  refine WPe_dup (pc := 980) (dd dtX6_init_13 3 rfl) rfl ?_
  refine WPe_bipush (pc := 981) (88 : Int32) (dd dtX6_init_13 4 rfl) (by decide) ?_
  refine WPe_bipush (pc := 983) (110 : Int32) (dd dtX6_init_13 5 rfl) (by decide) ?_
  refine WPe_iast (pc := 985) (dd dtX6_init_13 6 rfl) (shI e380 (shI e378 (shI e376 (shI e374 (shI e372 (shI e370 (shI e368 (shI e366 (shI e364 (shI e362 (shI e360 (shI e358 (shI e356 (shI e354 (shI e352 (shI e350 (shI e348 (shI e346 (shI e344 (shI e342 (shI e340 (shI e338 (shI e336 (shI e334 (shI e332 (shI e330 (shI e328 (shI e326 (shI e324 (shI e322 (shI e320 (shI e318 (shI e316 (shI e314 (shI e312 (shI e310 (shI e308 (shI e306 (shI e304 (shI e302 (shI e300 (shI e298 (shI e296 (shI e294 (shI e292 (shI e290 (shI e288 (shI e286 (shI e284 (shI e282 (shI e280 (shI e278 (shI e276 (shI e274 (shI e272 (shI e270 (shI e268 (shI e266 (shI e264 (shI e262 (shI e260 (shI e258 (shI e256 (shI e254 (shI e252 (shI e250 (shI e248 (shI e246 (shI e244 (shI e242 (shI e240 (shI e238 (shI e236 (shI e234 (shI e232 (shI e230 (shI e228 (shI e226 (shI e224 (shI e222 (shI e220 (shI e218 (shI e216 (shI e214 (shI e212 (shI e210 (shI e208 (shI e206 (shN e204))))))))))))))))))))))))))))))))))))))))))))))))))))))))))))))))))))))))))))))))))))))))) (by unfold vp_in; decide) ?_
  refine WPe_lw fun w381 e382 => ?_
  refine WPe_dup (pc := 986) (dd dtX6_init_13 7 rfl) rfl ?_
  refine WPe_bipush (pc := 987) (89 : Int32) (dd dtX6_init_13 8 rfl) (by decide) ?_
  refine WPe_bipush (pc := 989) (111 : Int32) (dd dtX6_init_13 9 rfl) (by decide) ?_
  refine WPe_iast (pc := 991) (dd dtX6_init_13 10 rfl) (shI e382 (shI e380 (shI e378 (shI e376 (shI e374 (shI e372 (shI e370 (shI e368 (shI e366 (shI e364 (shI e362 (shI e360 (shI e358 (shI e356 (shI e354 (shI e352 (shI e350 (shI e348 (shI e346 (shI e344 (shI e342 (shI e340 (shI e338 (shI e336 (shI e334 (shI e332 (shI e330 (shI e328 (shI e326 (shI e324 (shI e322 (shI e320 (shI e318 (shI e316 (shI e314 (shI e312 (shI e310 (shI e308 (shI e306 (shI e304 (shI e302 (shI e300 (shI e298 (shI e296 (shI e294 (shI e292 (shI e290 (shI e288 (shI e286 (shI e284 (shI e282 (shI e280 (shI e278 (shI e276 (shI e274 (shI e272 (shI e270 (shI e268 (shI e266 (shI e264 (shI e262 (shI e260 (shI e258 (shI e256 (shI e254 (shI e252 (shI e250 (shI e248 (shI e246 (shI e244 (shI e242 (shI e240 (shI e238 (shI e236 (shI e234 (shI e232 (shI e230 (shI e228 (shI e226 (shI e224 (shI e222 (shI e220 (shI e218 (shI e216 (shI e214 (shI e212 (shI e210 (shI e208 (shI e206 (shN e204)))))))))))))))))))))))))))))))))))))))))))))))))))))))))))))))))))))))))))))))))))))))))) (by unfold vp_in; decide) ?_
  refine WPe_lw fun w383 e384 => ?_
  refine WPe_dup (pc := 992) (dd dtX6_init_13 11 rfl) rfl ?_
  refine WPe_bipush (pc := 993) (90 : Int32) (dd dtX6_init_13 12 rfl) (by decide) ?_
  refine WPe_bipush (pc := 995) (116 : Int32) (dd dtX6_init_13 13 rfl) (by decide) ?_
  refine WPe_iast (pc := 997) (dd dtX6_init_13 14 rfl) (shI e384 (shI e382 (shI e380 (shI e378 (shI e376 (shI e374 (shI e372 (shI e370 (shI e368 (shI e366 (shI e364 (shI e362 (shI e360 (shI e358 (shI e356 (shI e354 (shI e352 (shI e350 (shI e348 (shI e346 (shI e344 (shI e342 (shI e340 (shI e338 (shI e336 (shI e334 (shI e332 (shI e330 (shI e328 (shI e326 (shI e324 (shI e322 (shI e320 (shI e318 (shI e316 (shI e314 (shI e312 (shI e310 (shI e308 (shI e306 (shI e304 (shI e302 (shI e300 (shI e298 (shI e296 (shI e294 (shI e292 (shI e290 (shI e288 (shI e286 (shI e284 (shI e282 (shI e280 (shI e278 (shI e276 (shI e274 (shI e272 (shI e270 (shI e268 (shI e266 (shI e264 (shI e262 (shI e260 (shI e258 (shI e256 (shI e254 (shI e252 (shI e250 (shI e248 (shI e246 (shI e244 (shI e242 (shI e240 (shI e238 (shI e236 (shI e234 (shI e232 (shI e230 (shI e228 (shI e226 (shI e224 (shI e222 (shI e220 (shI e218 (shI e216 (shI e214 (shI e212 (shI e210 (shI e208 (shI e206 (shN e204))))))))))))))))))))))))))))))))))))))))))))))))))))))))))))))))))))))))))))))))))))))))))) (by unfold vp_in; decide) ?_
  refine WPe_lw fun w385 e386 => ?_
  refine WPe_dup (pc := 998) (dd dtX6_init_13 15 rfl) rfl ?_
  refine WPe_bipush (pc := 999) (91 : Int32) (dd dtX6_init_13 16 rfl) (by decide) ?_
  refine WPe_bipush (pc := 1001) (32 : Int32) (dd dtX6_init_13 17 rfl) (by decide) ?_
  refine WPe_iast (pc := 1003) (dd dtX6_init_13 18 rfl) (shI e386 (shI e384 (shI e382 (shI e380 (shI e378 (shI e376 (shI e374 (shI e372 (shI e370 (shI e368 (shI e366 (shI e364 (shI e362 (shI e360 (shI e358 (shI e356 (shI e354 (shI e352 (shI e350 (shI e348 (shI e346 (shI e344 (shI e342 (shI e340 (shI e338 (shI e336 (shI e334 (shI e332 (shI e330 (shI e328 (shI e326 (shI e324 (shI e322 (shI e320 (shI e318 (shI e316 (shI e314 (shI e312 (shI e310 (shI e308 (shI e306 (shI e304 (shI e302 (shI e300 (shI e298 (shI e296 (shI e294 (shI e292 (shI e290 (shI e288 (shI e286 (shI e284 (shI e282 (shI e280 (shI e278 (shI e276 (shI e274 (shI e272 (shI e270 (shI e268 (shI e266 (shI e264 (shI e262 (shI e260 (shI e258 (shI e256 (shI e254 (shI e252 (shI e250 (shI e248 (shI e246 (shI e244 (shI e242 (shI e240 (shI e238 (shI e236 (shI e234 (shI e232 (shI e230 (shI e228 (shI e226 (shI e224 (shI e222 (shI e220 (shI e218 (shI e216 (shI e214 (shI e212 (shI e210 (shI e208 (shI e206 (shN e204)))))))))))))))))))))))))))))))))))))))))))))))))))))))))))))))))))))))))))))))))))))))))))) (by unfold vp_in; decide) ?_
  refine WPe_lw fun w387 e388 => ?_
  refine WPe_dup (pc := 1004) (dd dtX6_init_13 19 rfl) rfl ?_
  refine WPe_bipush (pc := 1005) (92 : Int32) (dd dtX6_init_13 20 rfl) (by decide) ?_
  refine WPe_bipush (pc := 1007) (32 : Int32) (dd dtX6_init_13 21 rfl) (by decide) ?_
  refine WPe_iast (pc := 1009) (dd dtX6_init_13 22 rfl) (shI e388 (shI e386 (shI e384 (shI e382 (shI e380 (shI e378 (shI e376 (shI e374 (shI e372 (shI e370 (shI e368 (shI e366 (shI e364 (shI e362 (shI e360 (shI e358 (shI e356 (shI e354 (shI e352 (shI e350 (shI e348 (shI e346 (shI e344 (shI e342 (shI e340 (shI e338 (shI e336 (shI e334 (shI e332 (shI e330 (shI e328 (shI e326 (shI e324 (shI e322 (shI e320 (shI e318 (shI e316 (shI e314 (shI e312 (shI e310 (shI e308 (shI e306 (shI e304 (shI e302 (shI e300 (shI e298 (shI e296 (shI e294 (shI e292 (shI e290 (shI e288 (shI e286 (shI e284 (shI e282 (shI e280 (shI e278 (shI e276 (shI e274 (shI e272 (shI e270 (shI e268 (shI e266 (shI e264 (shI e262 (shI e260 (shI e258 (shI e256 (shI e254 (shI e252 (shI e250 (shI e248 (shI e246 (shI e244 (shI e242 (shI e240 (shI e238 (shI e236 (shI e234 (shI e232 (shI e230 (shI e228 (shI e226 (shI e224 (shI e222 (shI e220 (shI e218 (shI e216 (shI e214 (shI e212 (shI e210 (shI e208 (shI e206 (shN e204))))))))))))))))))))))))))))))))))))))))))))))))))))))))))))))))))))))))))))))))))))))))))))) (by unfold vp_in; decide) ?_
  refine WPe_lw fun w389 e390 => ?_
  refine WPe_dup (pc := 1010) (dd dtX6_init_13 23 rfl) rfl ?_
  refine WPe_bipush (pc := 1011) (93 : Int32) (dd dtX6_init_13 24 rfl) (by decide) ?_
  refine WPe_bipush (pc := 1013) (32 : Int32) (dd dtX6_init_13 25 rfl) (by decide) ?_
  refine WPe_iast (pc := 1015) (dd dtX6_init_13 26 rfl) (shI e390 (shI e388 (shI e386 (shI e384 (shI e382 (shI e380 (shI e378 (shI e376 (shI e374 (shI e372 (shI e370 (shI e368 (shI e366 (shI e364 (shI e362 (shI e360 (shI e358 (shI e356 (shI e354 (shI e352 (shI e350 (shI e348 (shI e346 (shI e344 (shI e342 (shI e340 (shI e338 (shI e336 (shI e334 (shI e332 (shI e330 (shI e328 (shI e326 (shI e324 (shI e322 (shI e320 (shI e318 (shI e316 (shI e314 (shI e312 (shI e310 (shI e308 (shI e306 (shI e304 (shI e302 (shI e300 (shI e298 (shI e296 (shI e294 (shI e292 (shI e290 (shI e288 (shI e286 (shI e284 (shI e282 (shI e280 (shI e278 (shI e276 (shI e274 (shI e272 (shI e270 (shI e268 (shI e266 (shI e264 (shI e262 (shI e260 (shI e258 (shI e256 (shI e254 (shI e252 (shI e250 (shI e248 (shI e246 (shI e244 (shI e242 (shI e240 (shI e238 (shI e236 (shI e234 (shI e232 (shI e230 (shI e228 (shI e226 (shI e224 (shI e222 (shI e220 (shI e218 (shI e216 (shI e214 (shI e212 (shI e210 (shI e208 (shI e206 (shN e204)))))))))))))))))))))))))))))))))))))))))))))))))))))))))))))))))))))))))))))))))))))))))))))) (by unfold vp_in; decide) ?_
  refine WPe_lw fun w391 e392 => ?_
  refine WPe_dup (pc := 1016) (dd dtX6_init_13 27 rfl) rfl ?_
  refine WPe_bipush (pc := 1017) (94 : Int32) (dd dtX6_init_13 28 rfl) (by decide) ?_
  refine WPe_bipush (pc := 1019) (32 : Int32) (dd dtX6_init_13 29 rfl) (by decide) ?_
  refine WPe_iast (pc := 1021) (dd dtX6_init_13 30 rfl) (shI e392 (shI e390 (shI e388 (shI e386 (shI e384 (shI e382 (shI e380 (shI e378 (shI e376 (shI e374 (shI e372 (shI e370 (shI e368 (shI e366 (shI e364 (shI e362 (shI e360 (shI e358 (shI e356 (shI e354 (shI e352 (shI e350 (shI e348 (shI e346 (shI e344 (shI e342 (shI e340 (shI e338 (shI e336 (shI e334 (shI e332 (shI e330 (shI e328 (shI e326 (shI e324 (shI e322 (shI e320 (shI e318 (shI e316 (shI e314 (shI e312 (shI e310 (shI e308 (shI e306 (shI e304 (shI e302 (shI e300 (shI e298 (shI e296 (shI e294 (shI e292 (shI e290 (shI e288 (shI e286 (shI e284 (shI e282 (shI e280 (shI e278 (shI e276 (shI e274 (shI e272 (shI e270 (shI e268 (shI e266 (shI e264 (shI e262 (shI e260 (shI e258 (shI e256 (shI e254 (shI e252 (shI e250 (shI e248 (shI e246 (shI e244 (shI e242 (shI e240 (shI e238 (shI e236 (shI e234 (shI e232 (shI e230 (shI e228 (shI e226 (shI e224 (shI e222 (shI e220 (shI e218 (shI e216 (shI e214 (shI e212 (shI e210 (shI e208 (shI e206 (shN e204))))))))))))))))))))))))))))))))))))))))))))))))))))))))))))))))))))))))))))))))))))))))))))))) (by unfold vp_in; decide) ?_
  refine WPe_lw fun w393 e394 => ?_
  refine WPe_dup (pc := 1022) (dd dtX6_init_13 31 rfl) rfl ?_
  refine WPe_bipush (pc := 1023) (95 : Int32) (dd dtX6_init_13 32 rfl) (by decide) ?_
  refine WPe_bipush (pc := 1025) (32 : Int32) (dd dtX6_init_13 33 rfl) (by decide) ?_
  refine WPe_iast (pc := 1027) (dd dtX6_init_13 34 rfl) (shI e394 (shI e392 (shI e390 (shI e388 (shI e386 (shI e384 (shI e382 (shI e380 (shI e378 (shI e376 (shI e374 (shI e372 (shI e370 (shI e368 (shI e366 (shI e364 (shI e362 (shI e360 (shI e358 (shI e356 (shI e354 (shI e352 (shI e350 (shI e348 (shI e346 (shI e344 (shI e342 (shI e340 (shI e338 (shI e336 (shI e334 (shI e332 (shI e330 (shI e328 (shI e326 (shI e324 (shI e322 (shI e320 (shI e318 (shI e316 (shI e314 (shI e312 (shI e310 (shI e308 (shI e306 (shI e304 (shI e302 (shI e300 (shI e298 (shI e296 (shI e294 (shI e292 (shI e290 (shI e288 (shI e286 (shI e284 (shI e282 (shI e280 (shI e278 (shI e276 (shI e274 (shI e272 (shI e270 (shI e268 (shI e266 (shI e264 (shI e262 (shI e260 (shI e258 (shI e256 (shI e254 (shI e252 (shI e250 (shI e248 (shI e246 (shI e244 (shI e242 (shI e240 (shI e238 (shI e236 (shI e234 (shI e232 (shI e230 (shI e228 (shI e226 (shI e224 (shI e222 (shI e220 (shI e218 (shI e216 (shI e214 (shI e212 (shI e210 (shI e208 (shI e206 (shN e204)))))))))))))))))))))))))))))))))))))))))))))))))))))))))))))))))))))))))))))))))))))))))))))))) (by unfold vp_in; decide) ?_
  refine WPe_lw fun w395 e396 => ?_
  refine WPe_ck fun h397 => ?_
  refine WPe_putR (pc := 1028) (t := 6) (C := RX6) (T := TX6) 22 (dd dtX6_init_13 35 rfl) (shE h397) rfl (Nat.le_of_ble_eq_true rfl) (bw_mem4 75 rfl rfl) (Or.inr ⟨rfl, rfl, rfl⟩) rfl ?_
  refine WPe_lw fun w398 e399 => ?_
  refine WPe_sub [0] rfl ?_
  exact wpj6_init_1031 X w0  x0 w398
set_option maxRecDepth 100000 in
set_option maxHeartbeats 4000000 in
noncomputable def j6_init_133  (x0 : Nat) (w : Wd) : Option (Unit × Wd) :=
  lw (wN w 20 53) fun w91 => (lw (sI w91 (nx w) ((0 : Int32)).toNatClampNeg (102 : Int32)) fun w93 => (lw (sI w93 (nx w) ((1 : Int32)).toNatClampNeg (101 : Int32)) fun w95 => (lw (sI w95 (nx w) ((2 : Int32)).toNatClampNeg (101 : Int32)) fun w97 => (lw (sI w97 (nx w) ((3 : Int32)).toNatClampNeg (108 : Int32)) fun w99 => (lw (sI w99 (nx w) ((4 : Int32)).toNatClampNeg (115 : Int32)) fun w101 => (lw (sI w101 (nx w) ((5 : Int32)).toNatClampNeg (32 : Int32)) fun w103 => (lw (sI w103 (nx w) ((6 : Int32)).toNatClampNeg (49 : Int32)) fun w105 => (lw (sI w105 (nx w) ((7 : Int32)).toNatClampNeg (32 : Int32)) fun w107 => (lw (sI w107 (nx w) ((8 : Int32)).toNatClampNeg (43 : Int32)) fun w109 => (lw (sI w109 (nx w) ((9 : Int32)).toNatClampNeg (32 : Int32)) fun w111 => (lw (sI w111 (nx w) ((10 : Int32)).toNatClampNeg (98 : Int32)) fun w113 => (lw (sI w113 (nx w) ((11 : Int32)).toNatClampNeg (101 : Int32)) fun w115 => (lw (sI w115 (nx w) ((12 : Int32)).toNatClampNeg (110 : Int32)) fun w117 => (lw (sI w117 (nx w) ((13 : Int32)).toNatClampNeg (99 : Int32)) fun w119 => (lw (sI w119 (nx w) ((14 : Int32)).toNatClampNeg (104 : Int32)) fun w121 => (lw (sI w121 (nx w) ((15 : Int32)).toNatClampNeg (32 : Int32)) fun w123 => (lw (sI w123 (nx w) ((16 : Int32)).toNatClampNeg (43 : Int32)) fun w125 => (lw (sI w125 (nx w) ((17 : Int32)).toNatClampNeg (32 : Int32)) fun w127 => (lw (sI w127 (nx w) ((18 : Int32)).toNatClampNeg (115 : Int32)) fun w129 => (lw (sI w129 (nx w) ((19 : Int32)).toNatClampNeg (116 : Int32)) fun w131 => (lw (sI w131 (nx w) ((20 : Int32)).toNatClampNeg (101 : Int32)) fun w133 => (lw (sI w133 (nx w) ((21 : Int32)).toNatClampNeg (97 : Int32)) fun w135 => (lw (sI w135 (nx w) ((22 : Int32)).toNatClampNeg (109 : Int32)) fun w137 => (lw (sI w137 (nx w) ((23 : Int32)).toNatClampNeg (32 : Int32)) fun w139 => (lw (sI w139 (nx w) ((24 : Int32)).toNatClampNeg (59 : Int32)) fun w141 => (lw (sI w141 (nx w) ((25 : Int32)).toNatClampNeg (32 : Int32)) fun w143 => (lw (sI w143 (nx w) ((26 : Int32)).toNatClampNeg (98 : Int32)) fun w145 => (lw (sI w145 (nx w) ((27 : Int32)).toNatClampNeg (101 : Int32)) fun w147 => (lw (sI w147 (nx w) ((28 : Int32)).toNatClampNeg (97 : Int32)) fun w149 => (lw (sI w149 (nx w) ((29 : Int32)).toNatClampNeg (114 : Int32)) fun w151 => (lw (sI w151 (nx w) ((30 : Int32)).toNatClampNeg (115 : Int32)) fun w153 => (lw (sI w153 (nx w) ((31 : Int32)).toNatClampNeg (32 : Int32)) fun w155 => (lw (sI w155 (nx w) ((32 : Int32)).toNatClampNeg (54 : Int32)) fun w157 => (lw (sI w157 (nx w) ((33 : Int32)).toNatClampNeg (48 : Int32)) fun w159 => (lw (sI w159 (nx w) ((34 : Int32)).toNatClampNeg (32 : Int32)) fun w161 => (lw (sI w161 (nx w) ((35 : Int32)).toNatClampNeg (59 : Int32)) fun w163 => (lw (sI w163 (nx w) ((36 : Int32)).toNatClampNeg (32 : Int32)) fun w165 => (lw (sI w165 (nx w) ((37 : Int32)).toNatClampNeg (103 : Int32)) fun w167 => (lw (sI w167 (nx w) ((38 : Int32)).toNatClampNeg (108 : Int32)) fun w169 => (lw (sI w169 (nx w) ((39 : Int32)).toNatClampNeg (97 : Int32)) fun w171 => (lw (sI w171 (nx w) ((40 : Int32)).toNatClampNeg (100 : Int32)) fun w173 => (lw (sI w173 (nx w) ((41 : Int32)).toNatClampNeg (32 : Int32)) fun w175 => (lw (sI w175 (nx w) ((42 : Int32)).toNatClampNeg (115 : Int32)) fun w177 => (lw (sI w177 (nx w) ((43 : Int32)).toNatClampNeg (116 : Int32)) fun w179 => (lw (sI w179 (nx w) ((44 : Int32)).toNatClampNeg (101 : Int32)) fun w181 => (lw (sI w181 (nx w) ((45 : Int32)).toNatClampNeg (97 : Int32)) fun w183 => (lw (sI w183 (nx w) ((46 : Int32)).toNatClampNeg (109 : Int32)) fun w185 => (lw (sI w185 (nx w) ((47 : Int32)).toNatClampNeg (32 : Int32)) fun w187 => (lw (sI w187 (nx w) ((48 : Int32)).toNatClampNeg (45 : Int32)) fun w189 => (lw (sI w189 (nx w) ((49 : Int32)).toNatClampNeg (32 : Int32)) fun w191 => (lw (sI w191 (nx w) ((50 : Int32)).toNatClampNeg (50 : Int32)) fun w193 => (lw (sI w193 (nx w) ((51 : Int32)).toNatClampNeg (32 : Int32)) fun w195 => (lw (sI w195 (nx w) ((52 : Int32)).toNatClampNeg (59 : Int32)) fun w197 => (ck (tg w197 x0 = 6) (lw (sR w197 x0 17 (nx w)) fun w200 => (j6_init_453 x0 w200))))))))))))))))))))))))))))))))))))))))))))))))))))))))
set_option maxRecDepth 100000 in
set_option maxHeartbeats 4000000 in
theorem wpj6_init_133 (X : CX) (w0 : Wd)  (x0 : Nat) (w : Wd) : WPe rtV X (mX6_init, 6, 18, 2187, w0) 12 1610 (j6_init_133  x0 w) 133 [(0, vR x0)] [] w := by
  unfold j6_init_133
  refine WPe_aload_n (pc := 133) 0 (dd dtX6_init_1 32 rfl) rfl ?_
  refine WPe_bipush (pc := 134) (53 : Int32) (dd dtX6_init_1 33 rfl) (by decide) ?_
  refine WPe_nx fun n90 => ?_
  refine WPe_newI (pc := 136) (N := 53) (dd dtX6_init_1 34 rfl) (bw_mem1 61 rfl rfl) (by decide) (by decide) (Nat.le_of_ble_eq_true rfl) ⟨(Nat.le_of_ble_eq_true rfl), (Nat.le_of_ble_eq_true rfl)⟩ ?_
  refine WPe_lw fun w91 e92 => ?_
  refine WPe_dup (pc := 138) (dd dtX6_init_1 35 rfl) rfl ?_
  refine WPe_iconst (pc := 139) (0 : Int32) (dd dtX6_init_1 36 rfl) (by decide) ?_
  refine WPe_bipush (pc := 140) (102 : Int32) (dd dtX6_init_1 37 rfl) (by decide) ?_
  refine WPe_iast (pc := 142) (dd dtX6_init_1 38 rfl) (shN e92) (by unfold vp_in; decide) ?_
  refine WPe_lw fun w93 e94 => ?_
  refine WPe_dup (pc := 143) (dd dtX6_init_1 39 rfl) rfl ?_
  refine WPe_iconst (pc := 144) (1 : Int32) (dd dtX6_init_1 40 rfl) (by decide) ?_
  refine WPe_bipush (pc := 145) (101 : Int32) (dd dtX6_init_1 41 rfl) (by decide) ?_
  refine WPe_iast (pc := 147) (dd dtX6_init_1 42 rfl) (shI e94 (shN e92)) (by unfold vp_in; decide) ?_
  refine WPe_lw fun w95 e96 => ?_
  refine WPe_dup (pc := 148) (dd dtX6_init_1 43 rfl) rfl ?_
  refine WPe_iconst (pc := 149) (2 : Int32) (dd dtX6_init_1 44 rfl) (by decide) ?_
  refine WPe_bipush (pc := 150) (101 : Int32) (dd dtX6_init_1 45 rfl) (by decide) ?_
  refine WPe_iast (pc := 152) (dd dtX6_init_1 46 rfl) (shI e96 (shI e94 (shN e92))) (by unfold vp_in; decide) ?_
  refine WPe_lw fun w97 e98 => ?_
  refine WPe_dup (pc := 153) (dd dtX6_init_1 47 rfl) rfl ?_
  refine WPe_iconst (pc := 154) (3 : Int32) (dd dtX6_init_1 48 rfl) (by decide) ?_
  refine WPe_bipush (pc := 155) (108 : Int32) (dd dtX6_init_1 49 rfl) (by decide) ?_
  refine WPe_iast (pc := 157) (dd dtX6_init_2 0 rfl) (shI e98 (shI e96 (shI e94 (shN e92)))) (by unfold vp_in; decide) ?_
  refine WPe_lw fun w99 e100 => ?_
  refine WPe_dup (pc := 158) (dd dtX6_init_2 1 rfl) rfl ?_
  refine WPe_iconst (pc := 159) (4 : Int32) (dd dtX6_init_2 2 rfl) (by decide) ?_
  refine WPe_bipush (pc := 160) (115 : Int32) (dd dtX6_init_2 3 rfl) (by decide) ?_
  refine WPe_iast (pc := 162) (dd dtX6_init_2 4 rfl) (shI e100 (shI e98 (shI e96 (shI e94 (shN e92))))) (by unfold vp_in; decide) ?_
  refine WPe_lw fun w101 e102 => ?_
  refine WPe_dup (pc := 163) (dd dtX6_init_2 5 rfl) rfl ?_
  refine WPe_iconst (pc := 164) (5 : Int32) (dd dtX6_init_2 6 rfl) (by decide) ?_
  refine WPe_bipush (pc := 165) (32 : Int32) (dd dtX6_init_2 7 rfl) (by decide) ?_
  refine WPe_iast (pc := 167) (dd dtX6_init_2 8 rfl) (shI e102 (shI e100 (shI e98 (shI e96 (shI e94 (shN e92)))))) (by unfold vp_in; decide) ?_
  refine WPe_lw fun w103 e104 => ?_
  refine WPe_dup (pc := 168) (dd dtX6_init_2 9 rfl) rfl ?_
  refine WPe_bipush (pc := 169) (6 : Int32) (dd dtX6_init_2 10 rfl) (by decide) ?_
  refine WPe_bipush (pc := 171) (49 : Int32) (dd dtX6_init_2 11 rfl) (by decide) ?_
  refine WPe_iast (pc := 173) (dd dtX6_init_2 12 rfl) (shI e104 (shI e102 (shI e100 (shI e98 (shI e96 (shI e94 (shN e92))))))) (by unfold vp_in; decide) ?_
  refine WPe_lw fun w105 e106 => ?_
  refine WPe_dup (pc := 174) (dd dtX6_init_2 13 rfl) rfl ?_
  refine WPe_bipush (pc := 175) (7 : Int32) (dd dtX6_init_2 14 rfl) (by decide) ?_
  refine WPe_bipush (pc := 177) (32 : Int32) (dd dtX6_init_2 15 rfl) (by decide) ?_
  refine WPe_iast (pc := 179) (dd dtX6_init_2 16 rfl) (shI e106 (shI e104 (shI e102 (shI e100 (shI e98 (shI e96 (shI e94 (shN e92)))))))) (by unfold vp_in; decide) ?_
  refine WPe_lw fun w107 e108 => ?_
  refine WPe_dup (pc := 180) (dd dtX6_init_2 17 rfl) rfl ?_
  refine WPe_bipush (pc := 181) (8 : Int32) (dd dtX6_init_2 18 rfl) (by decide) ?_
  refine WPe_bipush (pc := 183) (43 : Int32) (dd dtX6_init_2 19 rfl) (by decide) ?_
  refine WPe_iast (pc := 185) (dd dtX6_init_2 20 rfl) (shI e108 (shI e106 (shI e104 (shI e102 (shI e100 (shI e98 (shI e96 (shI e94 (shN e92))))))))) (by unfold vp_in; decide) ?_
  refine WPe_lw fun w109 e110 => ?_
  refine WPe_dup (pc := 186) (dd dtX6_init_2 21 rfl) rfl ?_
  refine WPe_bipush (pc := 187) (9 : Int32) (dd dtX6_init_2 22 rfl) (by decide) ?_
  refine WPe_bipush (pc := 189) (32 : Int32) (dd dtX6_init_2 23 rfl) (by decide) ?_
  refine WPe_iast (pc := 191) (dd dtX6_init_2 24 rfl) (shI e110 (shI e108 (shI e106 (shI e104 (shI e102 (shI e100 (shI e98 (shI e96 (shI e94 (shN e92)))))))))) (by unfold vp_in; decide) ?_
  refine WPe_lw fun w111 e112 => ?_
  refine WPe_dup (pc := 192) (dd dtX6_init_2 25 rfl) rfl ?_
  refine WPe_bipush (pc := 193) (10 : Int32) (dd dtX6_init_2 26 rfl) (by decide) ?_
  refine WPe_bipush (pc := 195) (98 : Int32) (dd dtX6_init_2 27 rfl) (by decide) ?_
  refine WPe_iast (pc := 197) (dd dtX6_init_2 28 rfl) (shI e112 (shI e110 (shI e108 (shI e106 (shI e104 (shI e102 (shI e100 (shI e98 (shI e96 (shI e94 (shN e92))))))))))) (by unfold vp_in; decide) ?_
  refine WPe_lw fun w113 e114 => ?_
  refine WPe_dup (pc := 198) (dd dtX6_init_2 29 rfl) rfl ?_
  refine WPe_bipush (pc := 199) (11 : Int32) (dd dtX6_init_2 30 rfl) (by decide) ?_
  refine WPe_bipush (pc := 201) (101 : Int32) (dd dtX6_init_2 31 rfl) (by decide) ?_
  refine WPe_iast (pc := 203) (dd dtX6_init_2 32 rfl) (shI e114 (shI e112 (shI e110 (shI e108 (shI e106 (shI e104 (shI e102 (shI e100 (shI e98 (shI e96 (shI e94 (shN e92)))))))))))) (by unfold vp_in; decide) ?_
  refine WPe_lw fun w115 e116 => ?_
  refine WPe_dup (pc := 204) (dd dtX6_init_2 33 rfl) rfl ?_
  refine WPe_bipush (pc := 205) (12 : Int32) (dd dtX6_init_2 34 rfl) (by decide) ?_
  refine WPe_bipush (pc := 207) (110 : Int32) (dd dtX6_init_2 35 rfl) (by decide) ?_
  refine WPe_iast (pc := 209) (dd dtX6_init_2 36 rfl) (shI e116 (shI e114 (shI e112 (shI e110 (shI e108 (shI e106 (shI e104 (shI e102 (shI e100 (shI e98 (shI e96 (shI e94 (shN e92))))))))))))) (by unfold vp_in; decide) ?_
  refine WPe_lw fun w117 e118 => ?_
  refine WPe_dup (pc := 210) (dd dtX6_init_2 37 rfl) rfl ?_
  refine WPe_bipush (pc := 211) (13 : Int32) (dd dtX6_init_2 38 rfl) (by decide) ?_
  refine WPe_bipush (pc := 213) (99 : Int32) (dd dtX6_init_2 39 rfl) (by decide) ?_
  refine WPe_iast (pc := 215) (dd dtX6_init_2 40 rfl) (shI e118 (shI e116 (shI e114 (shI e112 (shI e110 (shI e108 (shI e106 (shI e104 (shI e102 (shI e100 (shI e98 (shI e96 (shI e94 (shN e92)))))))))))))) (by unfold vp_in; decide) ?_
  refine WPe_lw fun w119 e120 => ?_
  refine WPe_dup (pc := 216) (dd dtX6_init_2 41 rfl) rfl ?_
  refine WPe_bipush (pc := 217) (14 : Int32) (dd dtX6_init_2 42 rfl) (by decide) ?_
  refine WPe_bipush (pc := 219) (104 : Int32) (dd dtX6_init_2 43 rfl) (by decide) ?_
  refine WPe_iast (pc := 221) (dd dtX6_init_2 44 rfl) (shI e120 (shI e118 (shI e116 (shI e114 (shI e112 (shI e110 (shI e108 (shI e106 (shI e104 (shI e102 (shI e100 (shI e98 (shI e96 (shI e94 (shN e92))))))))))))))) (by unfold vp_in; decide) ?_
  refine WPe_lw fun w121 e122 => ?_
  refine WPe_dup (pc := 222) (dd dtX6_init_2 45 rfl) rfl ?_
  refine WPe_bipush (pc := 223) (15 : Int32) (dd dtX6_init_2 46 rfl) (by decide) ?_
  refine WPe_bipush (pc := 225) (32 : Int32) (dd dtX6_init_2 47 rfl) (by decide) ?_
  refine WPe_iast (pc := 227) (dd dtX6_init_2 48 rfl) (shI e122 (shI e120 (shI e118 (shI e116 (shI e114 (shI e112 (shI e110 (shI e108 (shI e106 (shI e104 (shI e102 (shI e100 (shI e98 (shI e96 (shI e94 (shN e92)))))))))))))))) (by unfold vp_in; decide) ?_
  refine WPe_lw fun w123 e124 => ?_
  refine WPe_dup (pc := 228) (dd dtX6_init_2 49 rfl) rfl ?_
  refine WPe_bipush (pc := 229) (16 : Int32) (dd dtX6_init_3 0 rfl) (by decide) ?_
  refine WPe_bipush (pc := 231) (43 : Int32) (dd dtX6_init_3 1 rfl) (by decide) ?_
  refine WPe_iast (pc := 233) (dd dtX6_init_3 2 rfl) (shI e124 (shI e122 (shI e120 (shI e118 (shI e116 (shI e114 (shI e112 (shI e110 (shI e108 (shI e106 (shI e104 (shI e102 (shI e100 (shI e98 (shI e96 (shI e94 (shN e92))))))))))))))))) (by unfold vp_in; decide) ?_
  refine WPe_lw fun w125 e126 => ?_
  refine WPe_dup (pc := 234) (dd dtX6_init_3 3 rfl) rfl ?_
  refine WPe_bipush (pc := 235) (17 : Int32) (dd dtX6_init_3 4 rfl) (by decide) ?_
  refine WPe_bipush (pc := 237) (32 : Int32) (dd dtX6_init_3 5 rfl) (by decide) ?_
  refine WPe_iast (pc := 239) (dd dtX6_init_3 6 rfl) (shI e126 (shI e124 (shI e122 (shI e120 (shI e118 (shI e116 (shI e114 (shI e112 (shI e110 (shI e108 (shI e106 (shI e104 (shI e102 (shI e100 (shI e98 (shI e96 (shI e94 (shN e92)))))))))))))))))) (by unfold vp_in; decide) ?_
  refine WPe_lw fun w127 e128 => ?_
  refine WPe_dup (pc := 240) (dd dtX6_init_3 7 rfl) rfl ?_
  refine WPe_bipush (pc := 241) (18 : Int32) (dd dtX6_init_3 8 rfl) (by decide) ?_
  refine WPe_bipush (pc := 243) (115 : Int32) (dd dtX6_init_3 9 rfl) (by decide) ?_
  refine WPe_iast (pc := 245) (dd dtX6_init_3 10 rfl) (shI e128 (shI e126 (shI e124 (shI e122 (shI e120 (shI e118 (shI e116 (shI e114 (shI e112 (shI e110 (shI e108 (shI e106 (shI e104 (shI e102 (shI e100 (shI e98 (shI e96 (shI e94 (shN e92))))))))))))))))))) (by unfold vp_in; decide) ?_
  refine WPe_lw fun w129 e130 => ?_
  refine WPe_dup (pc := 246) (dd dtX6_init_3 11 rfl) rfl ?_
  refine WPe_bipush (pc := 247) (19 : Int32) (dd dtX6_init_3 12 rfl) (by decide) ?_
  refine WPe_bipush (pc := 249) (116 : Int32) (dd dtX6_init_3 13 rfl) (by decide) ?_
  refine WPe_iast (pc := 251) (dd dtX6_init_3 14 rfl) (shI e130 (shI e128 (shI e126 (shI e124 (shI e122 (shI e120 (shI e118 (shI e116 (shI e114 (shI e112 (shI e110 (shI e108 (shI e106 (shI e104 (shI e102 (shI e100 (shI e98 (shI e96 (shI e94 (shN e92)))))))))))))))))))) (by unfold vp_in; decide) ?_
  refine WPe_lw fun w131 e132 => ?_
  refine WPe_dup (pc := 252) (dd dtX6_init_3 15 rfl) rfl ?_
  refine WPe_bipush (pc := 253) (20 : Int32) (dd dtX6_init_3 16 rfl) (by decide) ?_
  refine WPe_bipush (pc := 255) (101 : Int32) (dd dtX6_init_3 17 rfl) (by decide) ?_
  refine WPe_iast (pc := 257) (dd dtX6_init_3 18 rfl) (shI e132 (shI e130 (shI e128 (shI e126 (shI e124 (shI e122 (shI e120 (shI e118 (shI e116 (shI e114 (shI e112 (shI e110 (shI e108 (shI e106 (shI e104 (shI e102 (shI e100 (shI e98 (shI e96 (shI e94 (shN e92))))))))))))))))))))) (by unfold vp_in; decide) ?_
  refine WPe_lw fun w133 e134 => ?_
  refine WPe_dup (pc := 258) (dd dtX6_init_3 19 rfl) rfl ?_
  refine WPe_bipush (pc := 259) (21 : Int32) (dd dtX6_init_3 20 rfl) (by decide) ?_
  refine WPe_bipush (pc := 261) (97 : Int32) (dd dtX6_init_3 21 rfl) (by decide) ?_
  refine WPe_iast (pc := 263) (dd dtX6_init_3 22 rfl) (shI e134 (shI e132 (shI e130 (shI e128 (shI e126 (shI e124 (shI e122 (shI e120 (shI e118 (shI e116 (shI e114 (shI e112 (shI e110 (shI e108 (shI e106 (shI e104 (shI e102 (shI e100 (shI e98 (shI e96 (shI e94 (shN e92)))))))))))))))))))))) (by unfold vp_in; decide) ?_
  refine WPe_lw fun w135 e136 => ?_
  refine WPe_dup (pc := 264) (dd dtX6_init_3 23 rfl) rfl ?_
  refine WPe_bipush (pc := 265) (22 : Int32) (dd dtX6_init_3 24 rfl) (by decide) ?_
  refine WPe_bipush (pc := 267) (109 : Int32) (dd dtX6_init_3 25 rfl) (by decide) ?_
  refine WPe_iast (pc := 269) (dd dtX6_init_3 26 rfl) (shI e136 (shI e134 (shI e132 (shI e130 (shI e128 (shI e126 (shI e124 (shI e122 (shI e120 (shI e118 (shI e116 (shI e114 (shI e112 (shI e110 (shI e108 (shI e106 (shI e104 (shI e102 (shI e100 (shI e98 (shI e96 (shI e94 (shN e92))))))))))))))))))))))) (by unfold vp_in; decide) ?_
  refine WPe_lw fun w137 e138 => ?_
  refine WPe_dup (pc := 270) (dd dtX6_init_3 27 rfl) rfl ?_
  refine WPe_bipush (pc := 271) (23 : Int32) (dd dtX6_init_3 28 rfl) (by decide) ?_
  refine WPe_bipush (pc := 273) (32 : Int32) (dd dtX6_init_3 29 rfl) (by decide) ?_
  refine WPe_iast (pc := 275) (dd dtX6_init_3 30 rfl) (shI e138 (shI e136 (shI e134 (shI e132 (shI e130 (shI e128 (shI e126 (shI e124 (shI e122 (shI e120 (shI e118 (shI e116 (shI e114 (shI e112 (shI e110 (shI e108 (shI e106 (shI e104 (shI e102 (shI e100 (shI e98 (shI e96 (shI e94 (shN e92)))))))))))))))))))))))) (by unfold vp_in; decide) ?_
  refine WPe_lw fun w139 e140 => ?_
  refine WPe_dup (pc := 276) (dd dtX6_init_3 31 rfl) rfl ?_
  refine WPe_bipush (pc := 277) (24 : Int32) (dd dtX6_init_3 32 rfl) (by decide) ?_
  refine WPe_bipush (pc := 279) (59 : Int32) (dd dtX6_init_3 33 rfl) (by decide) ?_
  refine WPe_iast (pc := 281) (dd dtX6_init_3 34 rfl) (shI e140 (shI e138 (shI e136 (shI e134 (shI e132 (shI e130 (shI e128 (shI e126 (shI e124 (shI e122 (shI e120 (shI e118 (shI e116 (shI e114 (shI e112 (shI e110 (shI e108 (shI e106 (shI e104 (shI e102 (shI e100 (shI e98 (shI e96 (shI e94 (shN e92))))))))))))))))))))))))) (by unfold vp_in; decide) ?_
  refine WPe_lw fun w141 e142 => ?_
  refine WPe_dup (pc := 282) (dd dtX6_init_3 35 rfl) rfl ?_
  refine WPe_bipush (pc := 283) (25 : Int32) (dd dtX6_init_3 36 rfl) (by decide) ?_
  refine WPe_bipush (pc := 285) (32 : Int32) (dd dtX6_init_3 37 rfl) (by decide) ?_
  refine WPe_iast (pc := 287) (dd dtX6_init_3 38 rfl) (shI e142 (shI e140 (shI e138 (shI e136 (shI e134 (shI e132 (shI e130 (shI e128 (shI e126 (shI e124 (shI e122 (shI e120 (shI e118 (shI e116 (shI e114 (shI e112 (shI e110 (shI e108 (shI e106 (shI e104 (shI e102 (shI e100 (shI e98 (shI e96 (shI e94 (shN e92)))))))))))))))))))))))))) (by unfold vp_in; decide) ?_
  refine WPe_lw fun w143 e144 => ?_
  refine WPe_dup (pc := 288) (dd dtX6_init_3 39 rfl) rfl ?_
  refine WPe_bipush (pc := 289) (26 : Int32) (dd dtX6_init_3 40 rfl) (by decide) ?_
  refine WPe_bipush (pc := 291) (98 : Int32) (dd dtX6_init_3 41 rfl) (by decide) ?_
  refine WPe_iast (pc := 293) (dd dtX6_init_3 42 rfl) (shI e144 (shI e142 (shI e140 (shI e138 (shI e136 (shI e134 (shI e132 (shI e130 (shI e128 (shI e126 (shI e124 (shI e122 (shI e120 (shI e118 (shI e116 (shI e114 (shI e112 (shI e110 (shI e108 (shI e106 (shI e104 (shI e102 (shI e100 (shI e98 (shI e96 (shI e94 (shN e92))))))))))))))))))))))))))) (by unfold vp_in; decide) ?_
  refine WPe_lw fun w145 e146 => ?_
  refine WPe_dup (pc := 294) (dd dtX6_init_3 43 rfl) rfl ?_
  refine WPe_bipush (pc := 295) (27 : Int32) (dd dtX6_init_3 44 rfl) (by decide) ?_
  refine WPe_bipush (pc := 297) (101 : Int32) (dd dtX6_init_3 45 rfl) (by decide) ?_
  refine WPe_iast (pc := 299) (dd dtX6_init_3 46 rfl) (shI e146 (shI e144 (shI e142 (shI e140 (shI e138 (shI e136 (shI e134 (shI e132 (shI e130 (shI e128 (shI e126 (shI e124 (shI e122 (shI e120 (shI e118 (shI e116 (shI e114 (shI e112 (shI e110 (shI e108 (shI e106 (shI e104 (shI e102 (shI e100 (shI e98 (shI e96 (shI e94 (shN e92)))))))))))))))))))))))))))) (by unfold vp_in; decide) ?_
  refine WPe_lw fun w147 e148 => ?_
  refine WPe_dup (pc := 300) (dd dtX6_init_3 47 rfl) rfl ?_
  refine WPe_bipush (pc := 301) (28 : Int32) (dd dtX6_init_3 48 rfl) (by decide) ?_
  refine WPe_bipush (pc := 303) (97 : Int32) (dd dtX6_init_3 49 rfl) (by decide) ?_
  refine WPe_iast (pc := 305) (dd dtX6_init_4 0 rfl) (shI e148 (shI e146 (shI e144 (shI e142 (shI e140 (shI e138 (shI e136 (shI e134 (shI e132 (shI e130 (shI e128 (shI e126 (shI e124 (shI e122 (shI e120 (shI e118 (shI e116 (shI e114 (shI e112 (shI e110 (shI e108 (shI e106 (shI e104 (shI e102 (shI e100 (shI e98 (shI e96 (shI e94 (shN e92))))))))))))))))))))))))))))) (by unfold vp_in; decide) ?_
  refine WPe_lw fun w149 e150 => ?_
  refine WPe_dup (pc := 306) (dd dtX6_init_4 1 rfl) rfl ?_
  refine WPe_bipush (pc := 307) (29 : Int32) (dd dtX6_init_4 2 rfl) (by decide) ?_
  refine WPe_bipush (pc := 309) (114 : Int32) (dd dtX6_init_4 3 rfl) (by decide) ?_
  refine WPe_iast (pc := 311) (dd dtX6_init_4 4 rfl) (shI e150 (shI e148 (shI e146 (shI e144 (shI e142 (shI e140 (shI e138 (shI e136 (shI e134 (shI e132 (shI e130 (shI e128 (shI e126 (shI e124 (shI e122 (shI e120 (shI e118 (shI e116 (shI e114 (shI e112 (shI e110 (shI e108 (shI e106 (shI e104 (shI e102 (shI e100 (shI e98 (shI e96 (shI e94 (shN e92)))))))))))))))))))))))))))))) (by unfold vp_in; decide) ?_
  refine WPe_lw fun w151 e152 => ?_
  refine WPe_dup (pc := 312) (dd dtX6_init_4 5 rfl) rfl ?_
  refine WPe_bipush (pc := 313) (30 : Int32) (dd dtX6_init_4 6 rfl) (by decide) ?_
  refine WPe_bipush (pc := 315) (115 : Int32) (dd dtX6_init_4 7 rfl) (by decide) ?_
  refine WPe_iast (pc := 317) (dd dtX6_init_4 8 rfl) (shI e152 (shI e150 (shI e148 (shI e146 (shI e144 (shI e142 (shI e140 (shI e138 (shI e136 (shI e134 (shI e132 (shI e130 (shI e128 (shI e126 (shI e124 (shI e122 (shI e120 (shI e118 (shI e116 (shI e114 (shI e112 (shI e110 (shI e108 (shI e106 (shI e104 (shI e102 (shI e100 (shI e98 (shI e96 (shI e94 (shN e92))))))))))))))))))))))))))))))) (by unfold vp_in; decide) ?_
  refine WPe_lw fun w153 e154 => ?_
  refine WPe_dup (pc := 318) (dd dtX6_init_4 9 rfl) rfl ?_
  refine WPe_bipush (pc := 319) (31 : Int32) (dd dtX6_init_4 10 rfl) (by decide) ?_
  refine WPe_bipush (pc := 321) (32 : Int32) (dd dtX6_init_4 11 rfl) (by decide) ?_
  refine WPe_iast (pc := 323) (dd dtX6_init_4 12 rfl) (shI e154 (shI e152 (shI e150 (shI e148 (shI e146 (shI e144 (shI e142 (shI e140 (shI e138 (shI e136 (shI e134 (shI e132 (shI e130 (shI e128 (shI e126 (shI e124 (shI e122 (shI e120 (shI e118 (shI e116 (shI e114 (shI e112 (shI e110 (shI e108 (shI e106 (shI e104 (shI e102 (shI e100 (shI e98 (shI e96 (shI e94 (shN e92)))))))))))))))))))))))))))))))) (by unfold vp_in; decide) ?_
  refine WPe_lw fun w155 e156 => ?_
  refine WPe_dup (pc := 324) (dd dtX6_init_4 13 rfl) rfl ?_
  refine WPe_bipush (pc := 325) (32 : Int32) (dd dtX6_init_4 14 rfl) (by decide) ?_
  refine WPe_bipush (pc := 327) (54 : Int32) (dd dtX6_init_4 15 rfl) (by decide) ?_
  refine WPe_iast (pc := 329) (dd dtX6_init_4 16 rfl) (shI e156 (shI e154 (shI e152 (shI e150 (shI e148 (shI e146 (shI e144 (shI e142 (shI e140 (shI e138 (shI e136 (shI e134 (shI e132 (shI e130 (shI e128 (shI e126 (shI e124 (shI e122 (shI e120 (shI e118 (shI e116 (shI e114 (shI e112 (shI e110 (shI e108 (shI e106 (shI e104 (shI e102 (shI e100 (shI e98 (shI e96 (shI e94 (shN e92))))))))))))))))))))))))))))))))) (by unfold vp_in; decide) ?_
  refine WPe_lw fun w157 e158 => ?_
  refine WPe_dup (pc := 330) (dd dtX6_init_4 17 rfl) rfl ?_
  refine WPe_bipush (pc := 331) (33 : Int32) (dd dtX6_init_4 18 rfl) (by decide) ?_
  refine WPe_bipush (pc := 333) (48 : Int32) (dd dtX6_init_4 19 rfl) (by decide) ?_
  refine WPe_iast (pc := 335) (dd dtX6_init_4 20 rfl) (shI e158 (shI e156 (shI e154 (shI e152 (shI e150 (shI e148 (shI e146 (shI e144 (shI e142 (shI e140 (shI e138 (shI e136 (shI e134 (shI e132 (shI e130 (shI e128 (shI e126 (shI e124 (shI e122 (shI e120 (shI e118 (shI e116 (shI e114 (shI e112 (shI e110 (shI e108 (shI e106 (shI e104 (shI e102 (shI e100 (shI e98 (shI e96 (shI e94 (shN e92)))))))))))))))))))))))))))))))))) (by unfold vp_in; decide) ?_
  refine WPe_lw fun w159 e160 => ?_
  refine WPe_dup (pc := 336) (dd dtX6_init_4 21 rfl) rfl ?_
  refine WPe_bipush (pc := 337) (34 : Int32) (dd dtX6_init_4 22 rfl) (by decide) ?_
  refine WPe_bipush (pc := 339) (32 : Int32) (dd dtX6_init_4 23 rfl) (by decide) ?_
  refine WPe_iast (pc := 341) (dd dtX6_init_4 24 rfl) (shI e160 (shI e158 (shI e156 (shI e154 (shI e152 (shI e150 (shI e148 (shI e146 (shI e144 (shI e142 (shI e140 (shI e138 (shI e136 (shI e134 (shI e132 (shI e130 (shI e128 (shI e126 (shI e124 (shI e122 (shI e120 (shI e118 (shI e116 (shI e114 (shI e112 (shI e110 (shI e108 (shI e106 (shI e104 (shI e102 (shI e100 (shI e98 (shI e96 (shI e94 (shN e92))))))))))))))))))))))))))))))))))) (by unfold vp_in; decide) ?_
  refine WPe_lw fun w161 e162 => ?_
  refine WPe_dup (pc := 342) (dd dtX6_init_4 25 rfl) rfl ?_
  refine WPe_bipush (pc := 343) (35 : Int32) (dd dtX6_init_4 26 rfl) (by decide) ?_
  refine WPe_bipush (pc := 345) (59 : Int32) (dd dtX6_init_4 27 rfl) (by decide) ?_
  refine WPe_iast (pc := 347) (dd dtX6_init_4 28 rfl) (shI e162 (shI e160 (shI e158 (shI e156 (shI e154 (shI e152 (shI e150 (shI e148 (shI e146 (shI e144 (shI e142 (shI e140 (shI e138 (shI e136 (shI e134 (shI e132 (shI e130 (shI e128 (shI e126 (shI e124 (shI e122 (shI e120 (shI e118 (shI e116 (shI e114 (shI e112 (shI e110 (shI e108 (shI e106 (shI e104 (shI e102 (shI e100 (shI e98 (shI e96 (shI e94 (shN e92)))))))))))))))))))))))))))))))))))) (by unfold vp_in; decide) ?_
  refine WPe_lw fun w163 e164 => ?_
  refine WPe_dup (pc := 348) (dd dtX6_init_4 29 rfl) rfl ?_
  refine WPe_bipush (pc := 349) (36 : Int32) (dd dtX6_init_4 30 rfl) (by decide) ?_
  refine WPe_bipush (pc := 351) (32 : Int32) (dd dtX6_init_4 31 rfl) (by decide) ?_
  refine WPe_iast (pc := 353) (dd dtX6_init_4 32 rfl) (shI e164 (shI e162 (shI e160 (shI e158 (shI e156 (shI e154 (shI e152 (shI e150 (shI e148 (shI e146 (shI e144 (shI e142 (shI e140 (shI e138 (shI e136 (shI e134 (shI e132 (shI e130 (shI e128 (shI e126 (shI e124 (shI e122 (shI e120 (shI e118 (shI e116 (shI e114 (shI e112 (shI e110 (shI e108 (shI e106 (shI e104 (shI e102 (shI e100 (shI e98 (shI e96 (shI e94 (shN e92))))))))))))))))))))))))))))))))))))) (by unfold vp_in; decide) ?_
  refine WPe_lw fun w165 e166 => ?_
  refine WPe_dup (pc := 354) (dd dtX6_init_4 33 rfl) rfl ?_
  refine WPe_bipush (pc := 355) (37 : Int32) (dd dtX6_init_4 34 rfl) (by decide) ?_
  refine WPe_bipush (pc := 357) (103 : Int32) (dd dtX6_init_4 35 rfl) (by decide) ?_
  refine WPe_iast (pc := 359) (dd dtX6_init_4 36 rfl) (shI e166 (shI e164 (shI e162 (shI e160 (shI e158 (shI e156 (shI e154 (shI e152 (shI e150 (shI e148 (shI e146 (shI e144 (shI e142 (shI e140 (shI e138 (shI e136 (shI e134 (shI e132 (shI e130 (shI e128 (shI e126 (shI e124 (shI e122 (shI e120 (shI e118 (shI e116 (shI e114 (shI e112 (shI e110 (shI e108 (shI e106 (shI e104 (shI e102 (shI e100 (shI e98 (shI e96 (shI e94 (shN e92)))))))))))))))))))))))))))))))))))))) (by unfold vp_in; decide) ?_
  refine WPe_lw fun w167 e168 => ?_
  refine WPe_dup (pc := 360) (dd dtX6_init_4 37 rfl) rfl ?_
  refine WPe_bipush (pc := 361) (38 : Int32) (dd dtX6_init_4 38 rfl) (by decide) ?_
  refine WPe_bipush (pc := 363) (108 : Int32) (dd dtX6_init_4 39 rfl) (by decide) ?_
  refine WPe_iast (pc := 365) (dd dtX6_init_4 40 rfl) (shI e168 (shI e166 (shI e164 (shI e162 (shI e160 (shI e158 (shI e156 (shI e154 (shI e152 (shI e150 (shI e148 (shI e146 (shI e144 (shI e142 (shI e140 (shI e138 (shI e136 (shI e134 (shI e132 (shI e130 (shI e128 (shI e126 (shI e124 (shI e122 (shI e120 (shI e118 (shI e116 (shI e114 (shI e112 (shI e110 (shI e108 (shI e106 (shI e104 (shI e102 (shI e100 (shI e98 (shI e96 (shI e94 (shN e92))))))))))))))))))))))))))))))))))))))) (by unfold vp_in; decide) ?_
  refine WPe_lw fun w169 e170 => ?_
  refine WPe_dup (pc := 366) (dd dtX6_init_4 41 rfl) rfl ?_
  refine WPe_bipush (pc := 367) (39 : Int32) (dd dtX6_init_4 42 rfl) (by decide) ?_
  refine WPe_bipush (pc := 369) (97 : Int32) (dd dtX6_init_4 43 rfl) (by decide) ?_
  refine WPe_iast (pc := 371) (dd dtX6_init_4 44 rfl) (shI e170 (shI e168 (shI e166 (shI e164 (shI e162 (shI e160 (shI e158 (shI e156 (shI e154 (shI e152 (shI e150 (shI e148 (shI e146 (shI e144 (shI e142 (shI e140 (shI e138 (shI e136 (shI e134 (shI e132 (shI e130 (shI e128 (shI e126 (shI e124 (shI e122 (shI e120 (shI e118 (shI e116 (shI e114 (shI e112 (shI e110 (shI e108 (shI e106 (shI e104 (shI e102 (shI e100 (shI e98 (shI e96 (shI e94 (shN e92)))))))))))))))))))))))))))))))))))))))) (by unfold vp_in; decide) ?_
  refine WPe_lw fun w171 e172 => ?_
  refine WPe_dup (pc := 372) (dd dtX6_init_4 45 rfl) rfl ?_
  refine WPe_bipush (pc := 373) (40 : Int32) (dd dtX6_init_4 46 rfl) (by decide) ?_
  refine WPe_bipush (pc := 375) (100 : Int32) (dd dtX6_init_4 47 rfl) (by decide) ?_
  refine WPe_iast (pc := 377) (dd dtX6_init_4 48 rfl) (shI e172 (shI e170 (shI e168 (shI e166 (shI e164 (shI e162 (shI e160 (shI e158 (shI e156 (shI e154 (shI e152 (shI e150 (shI e148 (shI e146 (shI e144 (shI e142 (shI e140 (shI e138 (shI e136 (shI e134 (shI e132 (shI e130 (shI e128 (shI e126 (shI e124 (shI e122 (shI e120 (shI e118 (shI e116 (shI e114 (shI e112 (shI e110 (shI e108 (shI e106 (shI e104 (shI e102 (shI e100 (shI e98 (shI e96 (shI e94 (shN e92))))))))))))))))))))))))))))))))))))))))) (by unfold vp_in; decide) ?_
  refine WPe_lw fun w173 e174 => ?_
  refine WPe_dup (pc := 378) (dd dtX6_init_4 49 rfl) rfl ?_
  refine WPe_bipush (pc := 379) (41 : Int32) (dd dtX6_init_5 0 rfl) (by decide) ?_
  refine WPe_bipush (pc := 381) (32 : Int32) (dd dtX6_init_5 1 rfl) (by decide) ?_
  refine WPe_iast (pc := 383) (dd dtX6_init_5 2 rfl) (shI e174 (shI e172 (shI e170 (shI e168 (shI e166 (shI e164 (shI e162 (shI e160 (shI e158 (shI e156 (shI e154 (shI e152 (shI e150 (shI e148 (shI e146 (shI e144 (shI e142 (shI e140 (shI e138 (shI e136 (shI e134 (shI e132 (shI e130 (shI e128 (shI e126 (shI e124 (shI e122 (shI e120 (shI e118 (shI e116 (shI e114 (shI e112 (shI e110 (shI e108 (shI e106 (shI e104 (shI e102 (shI e100 (shI e98 (shI e96 (shI e94 (shN e92)))))))))))))))))))))))))))))))))))))))))) (by unfold vp_in; decide) ?_
  refine WPe_lw fun w175 e176 => ?_
  refine WPe_dup (pc := 384) (dd dtX6_init_5 3 rfl) rfl ?_
  refine WPe_bipush (pc := 385) (42 : Int32) (dd dtX6_init_5 4 rfl) (by decide) ?_
  refine WPe_bipush (pc := 387) (115 : Int32) (dd dtX6_init_5 5 rfl) (by decide) ?_
  refine WPe_iast (pc := 389) (dd dtX6_init_5 6 rfl) (shI e176 (shI e174 (shI e172 (shI e170 (shI e168 (shI e166 (shI e164 (shI e162 (shI e160 (shI e158 (shI e156 (shI e154 (shI e152 (shI e150 (shI e148 (shI e146 (shI e144 (shI e142 (shI e140 (shI e138 (shI e136 (shI e134 (shI e132 (shI e130 (shI e128 (shI e126 (shI e124 (shI e122 (shI e120 (shI e118 (shI e116 (shI e114 (shI e112 (shI e110 (shI e108 (shI e106 (shI e104 (shI e102 (shI e100 (shI e98 (shI e96 (shI e94 (shN e92))))))))))))))))))))))))))))))))))))))))))) (by unfold vp_in; decide) ?_
  refine WPe_lw fun w177 e178 => ?_
  refine WPe_dup (pc := 390) (dd dtX6_init_5 7 rfl) rfl ?_
  refine WPe_bipush (pc := 391) (43 : Int32) (dd dtX6_init_5 8 rfl) (by decide) ?_
  refine WPe_bipush (pc := 393) (116 : Int32) (dd dtX6_init_5 9 rfl) (by decide) ?_
  refine WPe_iast (pc := 395) (dd dtX6_init_5 10 rfl) (shI e178 (shI e176 (shI e174 (shI e172 (shI e170 (shI e168 (shI e166 (shI e164 (shI e162 (shI e160 (shI e158 (shI e156 (shI e154 (shI e152 (shI e150 (shI e148 (shI e146 (shI e144 (shI e142 (shI e140 (shI e138 (shI e136 (shI e134 (shI e132 (shI e130 (shI e128 (shI e126 (shI e124 (shI e122 (shI e120 (shI e118 (shI e116 (shI e114 (shI e112 (shI e110 (shI e108 (shI e106 (shI e104 (shI e102 (shI e100 (shI e98 (shI e96 (shI e94 (shN e92)))))))))))))))))))))))))))))))))))))))))))) (by unfold vp_in; decide) ?_
  refine WPe_lw fun w179 e180 => ?_
  refine WPe_dup (pc := 396) (dd dtX6_init_5 11 rfl) rfl ?_
  refine WPe_bipush (pc := 397) (44 : Int32) (dd dtX6_init_5 12 rfl) (by decide) ?_
  refine WPe_bipush (pc := 399) (101 : Int32) (dd dtX6_init_5 13 rfl) (by decide) ?_
  refine WPe_iast (pc := 401) (dd dtX6_init_5 14 rfl) (shI e180 (shI e178 (shI e176 (shI e174 (shI e172 (shI e170 (shI e168 (shI e166 (shI e164 (shI e162 (shI e160 (shI e158 (shI e156 (shI e154 (shI e152 (shI e150 (shI e148 (shI e146 (shI e144 (shI e142 (shI e140 (shI e138 (shI e136 (shI e134 (shI e132 (shI e130 (shI e128 (shI e126 (shI e124 (shI e122 (shI e120 (shI e118 (shI e116 (shI e114 (shI e112 (shI e110 (shI e108 (shI e106 (shI e104 (shI e102 (shI e100 (shI e98 (shI e96 (shI e94 (shN e92))))))))))))))))))))))))))))))))))))))))))))) (by unfold vp_in; decide) ?_
  refine WPe_lw fun w181 e182 => ?_
  refine WPe_dup (pc := 402) (dd dtX6_init_5 15 rfl) rfl ?_
  refine WPe_bipush (pc := 403) (45 : Int32) (dd dtX6_init_5 16 rfl) (by decide) ?_
  refine WPe_bipush (pc := 405) (97 : Int32) (dd dtX6_init_5 17 rfl) (by decide) ?_
  refine WPe_iast (pc := 407) (dd dtX6_init_5 18 rfl) (shI e182 (shI e180 (shI e178 (shI e176 (shI e174 (shI e172 (shI e170 (shI e168 (shI e166 (shI e164 (shI e162 (shI e160 (shI e158 (shI e156 (shI e154 (shI e152 (shI e150 (shI e148 (shI e146 (shI e144 (shI e142 (shI e140 (shI e138 (shI e136 (shI e134 (shI e132 (shI e130 (shI e128 (shI e126 (shI e124 (shI e122 (shI e120 (shI e118 (shI e116 (shI e114 (shI e112 (shI e110 (shI e108 (shI e106 (shI e104 (shI e102 (shI e100 (shI e98 (shI e96 (shI e94 (shN e92)))))))))))))))))))))))))))))))))))))))))))))) (by unfold vp_in; decide) ?_
  refine WPe_lw fun w183 e184 => ?_
  refine WPe_dup (pc := 408) (dd dtX6_init_5 19 rfl) rfl ?_
  refine WPe_bipush (pc := 409) (46 : Int32) (dd dtX6_init_5 20 rfl) (by decide) ?_
  refine WPe_bipush (pc := 411) (109 : Int32) (dd dtX6_init_5 21 rfl) (by decide) ?_
  refine WPe_iast (pc := 413) (dd dtX6_init_5 22 rfl) (shI e184 (shI e182 (shI e180 (shI e178 (shI e176 (shI e174 (shI e172 (shI e170 (shI e168 (shI e166 (shI e164 (shI e162 (shI e160 (shI e158 (shI e156 (shI e154 (shI e152 (shI e150 (shI e148 (shI e146 (shI e144 (shI e142 (shI e140 (shI e138 (shI e136 (shI e134 (shI e132 (shI e130 (shI e128 (shI e126 (shI e124 (shI e122 (shI e120 (shI e118 (shI e116 (shI e114 (shI e112 (shI e110 (shI e108 (shI e106 (shI e104 (shI e102 (shI e100 (shI e98 (shI e96 (shI e94 (shN e92))))))))))))))))))))))))))))))))))))))))))))))) (by unfold vp_in; decide) ?_
  refine WPe_lw fun w185 e186 => ?_
  refine WPe_dup (pc := 414) (dd dtX6_init_5 23 rfl) rfl ?_
  refine WPe_bipush (pc := 415) (47 : Int32) (dd dtX6_init_5 24 rfl) (by decide) ?_
  refine WPe_bipush (pc := 417) (32 : Int32) (dd dtX6_init_5 25 rfl) (by decide) ?_
  refine WPe_iast (pc := 419) (dd dtX6_init_5 26 rfl) (shI e186 (shI e184 (shI e182 (shI e180 (shI e178 (shI e176 (shI e174 (shI e172 (shI e170 (shI e168 (shI e166 (shI e164 (shI e162 (shI e160 (shI e158 (shI e156 (shI e154 (shI e152 (shI e150 (shI e148 (shI e146 (shI e144 (shI e142 (shI e140 (shI e138 (shI e136 (shI e134 (shI e132 (shI e130 (shI e128 (shI e126 (shI e124 (shI e122 (shI e120 (shI e118 (shI e116 (shI e114 (shI e112 (shI e110 (shI e108 (shI e106 (shI e104 (shI e102 (shI e100 (shI e98 (shI e96 (shI e94 (shN e92)))))))))))))))))))))))))))))))))))))))))))))))) (by unfold vp_in; decide) ?_
  refine WPe_lw fun w187 e188 => ?_
  refine WPe_dup (pc := 420) (dd dtX6_init_5 27 rfl) rfl ?_
  refine WPe_bipush (pc := 421) (48 : Int32) (dd dtX6_init_5 28 rfl) (by decide) ?_
  refine WPe_bipush (pc := 423) (45 : Int32) (dd dtX6_init_5 29 rfl) (by decide) ?_
  refine WPe_iast (pc := 425) (dd dtX6_init_5 30 rfl) (shI e188 (shI e186 (shI e184 (shI e182 (shI e180 (shI e178 (shI e176 (shI e174 (shI e172 (shI e170 (shI e168 (shI e166 (shI e164 (shI e162 (shI e160 (shI e158 (shI e156 (shI e154 (shI e152 (shI e150 (shI e148 (shI e146 (shI e144 (shI e142 (shI e140 (shI e138 (shI e136 (shI e134 (shI e132 (shI e130 (shI e128 (shI e126 (shI e124 (shI e122 (shI e120 (shI e118 (shI e116 (shI e114 (shI e112 (shI e110 (shI e108 (shI e106 (shI e104 (shI e102 (shI e100 (shI e98 (shI e96 (shI e94 (shN e92))))))))))))))))))))))))))))))))))))))))))))))))) (by unfold vp_in; decide) ?_
  refine WPe_lw fun w189 e190 => ?_
  refine WPe_dup (pc := 426) (dd dtX6_init_5 31 rfl) rfl ?_
  refine WPe_bipush (pc := 427) (49 : Int32) (dd dtX6_init_5 32 rfl) (by decide) ?_
  refine WPe_bipush (pc := 429) (32 : Int32) (dd dtX6_init_5 33 rfl) (by decide) ?_
  refine WPe_iast (pc := 431) (dd dtX6_init_5 34 rfl) (shI e190 (shI e188 (shI e186 (shI e184 (shI e182 (shI e180 (shI e178 (shI e176 (shI e174 (shI e172 (shI e170 (shI e168 (shI e166 (shI e164 (shI e162 (shI e160 (shI e158 (shI e156 (shI e154 (shI e152 (shI e150 (shI e148 (shI e146 (shI e144 (shI e142 (shI e140 (shI e138 (shI e136 (shI e134 (shI e132 (shI e130 (shI e128 (shI e126 (shI e124 (shI e122 (shI e120 (shI e118 (shI e116 (shI e114 (shI e112 (shI e110 (shI e108 (shI e106 (shI e104 (shI e102 (shI e100 (shI e98 (shI e96 (shI e94 (shN e92)))))))))))))))))))))))))))))))))))))))))))))))))) (by unfold vp_in; decide) ?_
  refine WPe_lw fun w191 e192 => ?_
  refine WPe_dup (pc := 432) (dd dtX6_init_5 35 rfl) rfl ?_
  refine WPe_bipush (pc := 433) (50 : Int32) (dd dtX6_init_5 36 rfl) (by decide) ?_
  refine WPe_bipush (pc := 435) (50 : Int32) (dd dtX6_init_5 37 rfl) (by decide) ?_
  refine WPe_iast (pc := 437) (dd dtX6_init_5 38 rfl) (shI e192 (shI e190 (shI e188 (shI e186 (shI e184 (shI e182 (shI e180 (shI e178 (shI e176 (shI e174 (shI e172 (shI e170 (shI e168 (shI e166 (shI e164 (shI e162 (shI e160 (shI e158 (shI e156 (shI e154 (shI e152 (shI e150 (shI e148 (shI e146 (shI e144 (shI e142 (shI e140 (shI e138 (shI e136 (shI e134 (shI e132 (shI e130 (shI e128 (shI e126 (shI e124 (shI e122 (shI e120 (shI e118 (shI e116 (shI e114 (shI e112 (shI e110 (shI e108 (shI e106 (shI e104 (shI e102 (shI e100 (shI e98 (shI e96 (shI e94 (shN e92))))))))))))))))))))))))))))))))))))))))))))))))))) (by unfold vp_in; decide) ?_
  refine WPe_lw fun w193 e194 => ?_
  refine WPe_dup (pc := 438) (dd dtX6_init_5 39 rfl) rfl ?_
  refine WPe_bipush (pc := 439) (51 : Int32) (dd dtX6_init_5 40 rfl) (by decide) ?_
  refine WPe_bipush (pc := 441) (32 : Int32) (dd dtX6_init_5 41 rfl) (by decide) ?_
  refine WPe_iast (pc := 443) (dd dtX6_init_5 42 rfl) (shI e194 (shI e192 (shI e190 (shI e188 (shI e186 (shI e184 (shI e182 (shI e180 (shI e178 (shI e176 (shI e174 (shI e172 (shI e170 (shI e168 (shI e166 (shI e164 (shI e162 (shI e160 (shI e158 (shI e156 (shI e154 (shI e152 (shI e150 (shI e148 (shI e146 (shI e144 (shI e142 (shI e140 (shI e138 (shI e136 (shI e134 (shI e132 (shI e130 (shI e128 (shI e126 (shI e124 (shI e122 (shI e120 (shI e118 (shI e116 (shI e114 (shI e112 (shI e110 (shI e108 (shI e106 (shI e104 (shI e102 (shI e100 (shI e98 (shI e96 (shI e94 (shN e92)))))))))))))))))))))))))))))))))))))))))))))))))))) (by unfold vp_in; decide) ?_
  refine WPe_lw fun w195 e196 => ?_
  refine WPe_dup (pc := 444) (dd dtX6_init_5 43 rfl) rfl ?_
  refine WPe_bipush (pc := 445) (52 : Int32) (dd dtX6_init_5 44 rfl) (by decide) ?_
  refine WPe_bipush (pc := 447) (59 : Int32) (dd dtX6_init_5 45 rfl) (by decide) ?_
  refine WPe_iast (pc := 449) (dd dtX6_init_5 46 rfl) (shI e196 (shI e194 (shI e192 (shI e190 (shI e188 (shI e186 (shI e184 (shI e182 (shI e180 (shI e178 (shI e176 (shI e174 (shI e172 (shI e170 (shI e168 (shI e166 (shI e164 (shI e162 (shI e160 (shI e158 (shI e156 (shI e154 (shI e152 (shI e150 (shI e148 (shI e146 (shI e144 (shI e142 (shI e140 (shI e138 (shI e136 (shI e134 (shI e132 (shI e130 (shI e128 (shI e126 (shI e124 (shI e122 (shI e120 (shI e118 (shI e116 (shI e114 (shI e112 (shI e110 (shI e108 (shI e106 (shI e104 (shI e102 (shI e100 (shI e98 (shI e96 (shI e94 (shN e92))))))))))))))))))))))))))))))))))))))))))))))))))))) (by unfold vp_in; decide) ?_
  refine WPe_lw fun w197 e198 => ?_
  refine WPe_ck fun h199 => ?_
  refine WPe_putR (pc := 450) (t := 6) (C := RX6) (T := TX6) 17 (dd dtX6_init_5 47 rfl) (shE h199) rfl (Nat.le_of_ble_eq_true rfl) (bw_mem4 70 rfl rfl) (Or.inr ⟨rfl, rfl, rfl⟩) rfl ?_
  refine WPe_lw fun w200 e201 => ?_
  refine WPe_sub [0] rfl ?_
  exact wpj6_init_453 X w0  x0 w200
noncomputable def j6_init_124  (x0 : Nat) (w : Wd) : Option (Unit × Wd) :=
  lw (wN w 20 160) fun w85 => (ck (tg w85 x0 = 6) (lw (sR w85 x0 16 (nx w)) fun w88 => (j6_init_133 x0 w88)))
theorem wpj6_init_124 (X : CX) (w0 : Wd)  (x0 : Nat) (w : Wd) : WPe rtV X (mX6_init, 6, 18, 2187, w0) 11 1450 (j6_init_124  x0 w) 124 [(0, vR x0)] [] w := by
  unfold j6_init_124
  refine WPe_aload_n (pc := 124) 0 (dd dtX6_init_1 28 rfl) rfl ?_
  refine WPe_sipush (pc := 125) (160 : Int32) (dd dtX6_init_1 29 rfl) (by decide) ?_
  refine WPe_nx fun n84 => ?_
  refine WPe_newI (pc := 128) (N := 160) (dd dtX6_init_1 30 rfl) (bw_mem1 61 rfl rfl) (by decide) (by decide) (Nat.le_of_ble_eq_true rfl) ⟨(Nat.le_of_ble_eq_true rfl), (Nat.le_of_ble_eq_true rfl)⟩ ?_
  refine WPe_lw fun w85 e86 => ?_
  refine WPe_ck fun h87 => ?_
  refine WPe_putR (pc := 130) (t := 6) (C := RX6) (T := TX6) 16 (dd dtX6_init_1 31 rfl) (shE h87) rfl (Nat.le_of_ble_eq_true rfl) (bw_mem4 69 rfl rfl) (Or.inr ⟨rfl, rfl, rfl⟩) rfl ?_
  refine WPe_lw fun w88 e89 => ?_
  refine WPe_sub [0] rfl ?_
  exact wpj6_init_133 X w0  x0 w88
noncomputable def j6_init_117  (x0 : Nat) (w : Wd) : Option (Unit × Wd) :=
  lw (wN w 20 4) fun w79 => (ck (tg w79 x0 = 6) (lw (sR w79 x0 15 (nx w)) fun w82 => (j6_init_124 x0 w82)))
theorem wpj6_init_117 (X : CX) (w0 : Wd)  (x0 : Nat) (w : Wd) : WPe rtV X (mX6_init, 6, 18, 2187, w0) 10 1446 (j6_init_117  x0 w) 117 [(0, vR x0)] [] w := by
  unfold j6_init_117
  refine WPe_aload_n (pc := 117) 0 (dd dtX6_init_1 24 rfl) rfl ?_
  refine WPe_iconst (pc := 118) (4 : Int32) (dd dtX6_init_1 25 rfl) (by decide) ?_
  refine WPe_nx fun n78 => ?_
  refine WPe_newI (pc := 119) (N := 4) (dd dtX6_init_1 26 rfl) (bw_mem1 61 rfl rfl) (by decide) (by decide) (Nat.le_of_ble_eq_true rfl) ⟨(Nat.le_of_ble_eq_true rfl), (Nat.le_of_ble_eq_true rfl)⟩ ?_
  refine WPe_lw fun w79 e80 => ?_
  refine WPe_ck fun h81 => ?_
  refine WPe_putR (pc := 121) (t := 6) (C := RX6) (T := TX6) 15 (dd dtX6_init_1 27 rfl) (shE h81) rfl (Nat.le_of_ble_eq_true rfl) (bw_mem4 68 rfl rfl) (Or.inr ⟨rfl, rfl, rfl⟩) rfl ?_
  refine WPe_lw fun w82 e83 => ?_
  refine WPe_sub [0] rfl ?_
  exact wpj6_init_124 X w0  x0 w82
noncomputable def j6_init_94  (x0 : Nat) (w : Wd) : Option (Unit × Wd) :=
  lw (wN w 20 4) fun w65 => (lw (sI w65 (nx w) ((0 : Int32)).toNatClampNeg (-1 : Int32)) fun w67 => (lw (sI w67 (nx w) ((1 : Int32)).toNatClampNeg (-1 : Int32)) fun w69 => (lw (sI w69 (nx w) ((2 : Int32)).toNatClampNeg (-1 : Int32)) fun w71 => (lw (sI w71 (nx w) ((3 : Int32)).toNatClampNeg (-1 : Int32)) fun w73 => (ck (tg w73 x0 = 6) (lw (sR w73 x0 14 (nx w)) fun w76 => (j6_init_117 x0 w76)))))))
theorem wpj6_init_94 (X : CX) (w0 : Wd)  (x0 : Nat) (w : Wd) : WPe rtV X (mX6_init, 6, 18, 2187, w0) 9 1442 (j6_init_94  x0 w) 94 [(0, vR x0)] [] w := by
  unfold j6_init_94
  refine WPe_aload_n (pc := 94) 0 (dd dtX6_init_1 4 rfl) rfl ?_
  refine WPe_iconst (pc := 95) (4 : Int32) (dd dtX6_init_1 5 rfl) (by decide) ?_
  refine WPe_nx fun n64 => ?_
  refine WPe_newI (pc := 96) (N := 4) (dd dtX6_init_1 6 rfl) (bw_mem1 61 rfl rfl) (by decide) (by decide) (Nat.le_of_ble_eq_true rfl) ⟨(Nat.le_of_ble_eq_true rfl), (Nat.le_of_ble_eq_true rfl)⟩ ?_
  refine WPe_lw fun w65 e66 => ?_
  refine WPe_dup (pc := 98) (dd dtX6_init_1 7 rfl) rfl ?_
  refine WPe_iconst (pc := 99) (0 : Int32) (dd dtX6_init_1 8 rfl) (by decide) ?_
  refine WPe_iconst (pc := 100) (-1 : Int32) (dd dtX6_init_1 9 rfl) (by decide) ?_
  refine WPe_iast (pc := 101) (dd dtX6_init_1 10 rfl) (shN e66) (by unfold vp_in; decide) ?_
  refine WPe_lw fun w67 e68 => ?_
  refine WPe_dup (pc := 102) (dd dtX6_init_1 11 rfl) rfl ?_
  refine WPe_iconst (pc := 103) (1 : Int32) (dd dtX6_init_1 12 rfl) (by decide) ?_
  refine WPe_iconst (pc := 104) (-1 : Int32) (dd dtX6_init_1 13 rfl) (by decide) ?_
  refine WPe_iast (pc := 105) (dd dtX6_init_1 14 rfl) (shI e68 (shN e66)) (by unfold vp_in; decide) ?_
  refine WPe_lw fun w69 e70 => ?_
  refine WPe_dup (pc := 106) (dd dtX6_init_1 15 rfl) rfl ?_
  refine WPe_iconst (pc := 107) (2 : Int32) (dd dtX6_init_1 16 rfl) (by decide) ?_
  refine WPe_iconst (pc := 108) (-1 : Int32) (dd dtX6_init_1 17 rfl) (by decide) ?_
  refine WPe_iast (pc := 109) (dd dtX6_init_1 18 rfl) (shI e70 (shI e68 (shN e66))) (by unfold vp_in; decide) ?_
  refine WPe_lw fun w71 e72 => ?_
  refine WPe_dup (pc := 110) (dd dtX6_init_1 19 rfl) rfl ?_
  refine WPe_iconst (pc := 111) (3 : Int32) (dd dtX6_init_1 20 rfl) (by decide) ?_
  refine WPe_iconst (pc := 112) (-1 : Int32) (dd dtX6_init_1 21 rfl) (by decide) ?_
  refine WPe_iast (pc := 113) (dd dtX6_init_1 22 rfl) (shI e72 (shI e70 (shI e68 (shN e66)))) (by unfold vp_in; decide) ?_
  refine WPe_lw fun w73 e74 => ?_
  refine WPe_ck fun h75 => ?_
  refine WPe_putR (pc := 114) (t := 6) (C := RX6) (T := TX6) 14 (dd dtX6_init_1 23 rfl) (shE h75) rfl (Nat.le_of_ble_eq_true rfl) (bw_mem4 67 rfl rfl) (Or.inr ⟨rfl, rfl, rfl⟩) rfl ?_
  refine WPe_lw fun w76 e77 => ?_
  refine WPe_sub [0] rfl ?_
  exact wpj6_init_117 X w0  x0 w76
noncomputable def j6_init_87  (x0 : Nat) (w : Wd) : Option (Unit × Wd) :=
  lw (wN w 20 2) fun w59 => (ck (tg w59 x0 = 6) (lw (sR w59 x0 13 (nx w)) fun w62 => (j6_init_94 x0 w62)))
theorem wpj6_init_87 (X : CX) (w0 : Wd)  (x0 : Nat) (w : Wd) : WPe rtV X (mX6_init, 6, 18, 2187, w0) 8 1440 (j6_init_87  x0 w) 87 [(0, vR x0)] [] w := by
  unfold j6_init_87
  refine WPe_aload_n (pc := 87) 0 (dd dtX6_init_1 0 rfl) rfl ?_
  refine WPe_iconst (pc := 88) (2 : Int32) (dd dtX6_init_1 1 rfl) (by decide) ?_
  refine WPe_nx fun n58 => ?_
  refine WPe_newI (pc := 89) (N := 2) (dd dtX6_init_1 2 rfl) (bw_mem1 61 rfl rfl) (by decide) (by decide) (Nat.le_of_ble_eq_true rfl) ⟨(Nat.le_of_ble_eq_true rfl), (Nat.le_of_ble_eq_true rfl)⟩ ?_
  refine WPe_lw fun w59 e60 => ?_
  refine WPe_ck fun h61 => ?_
  refine WPe_putR (pc := 91) (t := 6) (C := RX6) (T := TX6) 13 (dd dtX6_init_1 3 rfl) (shE h61) rfl (Nat.le_of_ble_eq_true rfl) (bw_mem4 66 rfl rfl) (Or.inr ⟨rfl, rfl, rfl⟩) rfl ?_
  refine WPe_lw fun w62 e63 => ?_
  refine WPe_sub [0] rfl ?_
  exact wpj6_init_94 X w0  x0 w62
noncomputable def j6_init_79  (x0 : Nat) (w : Wd) : Option (Unit × Wd) :=
  lw (wN w 20 22) fun w53 => (ck (tg w53 x0 = 6) (lw (sR w53 x0 12 (nx w)) fun w56 => (j6_init_87 x0 w56)))
theorem wpj6_init_79 (X : CX) (w0 : Wd)  (x0 : Nat) (w : Wd) : WPe rtV X (mX6_init, 6, 18, 2187, w0) 7 1418 (j6_init_79  x0 w) 79 [(0, vR x0)] [] w := by
  unfold j6_init_79
  refine WPe_aload_n (pc := 79) 0 (dd dtX6_init_0 46 rfl) rfl ?_
  refine WPe_bipush (pc := 80) (22 : Int32) (dd dtX6_init_0 47 rfl) (by decide) ?_
  refine WPe_nx fun n52 => ?_
  refine WPe_newI (pc := 82) (N := 22) (dd dtX6_init_0 48 rfl) (bw_mem1 61 rfl rfl) (by decide) (by decide) (Nat.le_of_ble_eq_true rfl) ⟨(Nat.le_of_ble_eq_true rfl), (Nat.le_of_ble_eq_true rfl)⟩ ?_
  refine WPe_lw fun w53 e54 => ?_
  refine WPe_ck fun h55 => ?_
  refine WPe_putR (pc := 84) (t := 6) (C := RX6) (T := TX6) 12 (dd dtX6_init_0 49 rfl) (shE h55) rfl (Nat.le_of_ble_eq_true rfl) (bw_mem4 65 rfl rfl) (Or.inr ⟨rfl, rfl, rfl⟩) rfl ?_
  refine WPe_lw fun w56 e57 => ?_
  refine WPe_sub [0] rfl ?_
  exact wpj6_init_87 X w0  x0 w56
noncomputable def j6_init_71  (x0 : Nat) (w : Wd) : Option (Unit × Wd) :=
  lw (wN w 20 24) fun w47 => (ck (tg w47 x0 = 6) (lw (sR w47 x0 8 (nx w)) fun w50 => (j6_init_79 x0 w50)))
theorem wpj6_init_71 (X : CX) (w0 : Wd)  (x0 : Nat) (w : Wd) : WPe rtV X (mX6_init, 6, 18, 2187, w0) 6 1394 (j6_init_71  x0 w) 71 [(0, vR x0)] [] w := by
  unfold j6_init_71
  refine WPe_aload_n (pc := 71) 0 (dd dtX6_init_0 42 rfl) rfl ?_
  refine WPe_bipush (pc := 72) (24 : Int32) (dd dtX6_init_0 43 rfl) (by decide) ?_
  refine WPe_nx fun n46 => ?_
  refine WPe_newI (pc := 74) (N := 24) (dd dtX6_init_0 44 rfl) (bw_mem1 61 rfl rfl) (by decide) (by decide) (Nat.le_of_ble_eq_true rfl) ⟨(Nat.le_of_ble_eq_true rfl), (Nat.le_of_ble_eq_true rfl)⟩ ?_
  refine WPe_lw fun w47 e48 => ?_
  refine WPe_ck fun h49 => ?_
  refine WPe_putR (pc := 76) (t := 6) (C := RX6) (T := TX6) 8 (dd dtX6_init_0 45 rfl) (shE h49) rfl (Nat.le_of_ble_eq_true rfl) (bw_mem4 61 rfl rfl) (Or.inr ⟨rfl, rfl, rfl⟩) rfl ?_
  refine WPe_lw fun w50 e51 => ?_
  refine WPe_sub [0] rfl ?_
  exact wpj6_init_79 X w0  x0 w50
noncomputable def j6_init_62  (x0 : Nat) (w : Wd) : Option (Unit × Wd) :=
  lw (wN w 20 1200) fun w41 => (ck (tg w41 x0 = 6) (lw (sR w41 x0 7 (nx w)) fun w44 => (j6_init_71 x0 w44)))
theorem wpj6_init_62 (X : CX) (w0 : Wd)  (x0 : Nat) (w : Wd) : WPe rtV X (mX6_init, 6, 18, 2187, w0) 5 194 (j6_init_62  x0 w) 62 [(0, vR x0)] [] w := by
  unfold j6_init_62
  refine WPe_aload_n (pc := 62) 0 (dd dtX6_init_0 38 rfl) rfl ?_
  refine WPe_sipush (pc := 63) (1200 : Int32) (dd dtX6_init_0 39 rfl) (by decide) ?_
  refine WPe_nx fun n40 => ?_
  refine WPe_newI (pc := 66) (N := 1200) (dd dtX6_init_0 40 rfl) (bw_mem1 61 rfl rfl) (by decide) (by decide) (Nat.le_of_ble_eq_true rfl) ⟨(Nat.le_of_ble_eq_true rfl), (Nat.le_of_ble_eq_true rfl)⟩ ?_
  refine WPe_lw fun w41 e42 => ?_
  refine WPe_ck fun h43 => ?_
  refine WPe_putR (pc := 68) (t := 6) (C := RX6) (T := TX6) 7 (dd dtX6_init_0 41 rfl) (shE h43) rfl (Nat.le_of_ble_eq_true rfl) (bw_mem4 60 rfl rfl) (Or.inr ⟨rfl, rfl, rfl⟩) rfl ?_
  refine WPe_lw fun w44 e45 => ?_
  refine WPe_sub [0] rfl ?_
  exact wpj6_init_71 X w0  x0 w44
noncomputable def j6_init_53  (x0 : Nat) (w : Wd) : Option (Unit × Wd) :=
  lw (wN w 20 160) fun w35 => (ck (tg w35 x0 = 6) (lw (sR w35 x0 5 (nx w)) fun w38 => (j6_init_62 x0 w38)))
theorem wpj6_init_53 (X : CX) (w0 : Wd)  (x0 : Nat) (w : Wd) : WPe rtV X (mX6_init, 6, 18, 2187, w0) 4 34 (j6_init_53  x0 w) 53 [(0, vR x0)] [] w := by
  unfold j6_init_53
  refine WPe_aload_n (pc := 53) 0 (dd dtX6_init_0 34 rfl) rfl ?_
  refine WPe_sipush (pc := 54) (160 : Int32) (dd dtX6_init_0 35 rfl) (by decide) ?_
  refine WPe_nx fun n34 => ?_
  refine WPe_newI (pc := 57) (N := 160) (dd dtX6_init_0 36 rfl) (bw_mem1 61 rfl rfl) (by decide) (by decide) (Nat.le_of_ble_eq_true rfl) ⟨(Nat.le_of_ble_eq_true rfl), (Nat.le_of_ble_eq_true rfl)⟩ ?_
  refine WPe_lw fun w35 e36 => ?_
  refine WPe_ck fun h37 => ?_
  refine WPe_putR (pc := 59) (t := 6) (C := RX6) (T := TX6) 5 (dd dtX6_init_0 37 rfl) (shE h37) rfl (Nat.le_of_ble_eq_true rfl) (bw_mem4 58 rfl rfl) (Or.inr ⟨rfl, rfl, rfl⟩) rfl ?_
  refine WPe_lw fun w38 e39 => ?_
  refine WPe_sub [0] rfl ?_
  exact wpj6_init_62 X w0  x0 w38
noncomputable def j6_init_28  (x0 : Nat) (w : Wd) : Option (Unit × Wd) :=
  lw (wN w 20 4) fun w21 => (lw (sI w21 (nx w) ((0 : Int32)).toNatClampNeg (0 : Int32)) fun w23 => (lw (sI w23 (nx w) ((1 : Int32)).toNatClampNeg (200 : Int32)) fun w25 => (lw (sI w25 (nx w) ((2 : Int32)).toNatClampNeg (0 : Int32)) fun w27 => (lw (sI w27 (nx w) ((3 : Int32)).toNatClampNeg (5 : Int32)) fun w29 => (ck (tg w29 x0 = 6) (lw (sR w29 x0 4 (nx w)) fun w32 => (j6_init_53 x0 w32)))))))
theorem wpj6_init_28 (X : CX) (w0 : Wd)  (x0 : Nat) (w : Wd) : WPe rtV X (mX6_init, 6, 18, 2187, w0) 3 30 (j6_init_28  x0 w) 28 [(0, vR x0)] [] w := by
  unfold j6_init_28
  refine WPe_aload_n (pc := 28) 0 (dd dtX6_init_0 14 rfl) rfl ?_
  refine WPe_iconst (pc := 29) (4 : Int32) (dd dtX6_init_0 15 rfl) (by decide) ?_
  refine WPe_nx fun n20 => ?_
  refine WPe_newI (pc := 30) (N := 4) (dd dtX6_init_0 16 rfl) (bw_mem1 61 rfl rfl) (by decide) (by decide) (Nat.le_of_ble_eq_true rfl) ⟨(Nat.le_of_ble_eq_true rfl), (Nat.le_of_ble_eq_true rfl)⟩ ?_
  refine WPe_lw fun w21 e22 => ?_
  refine WPe_dup (pc := 32) (dd dtX6_init_0 17 rfl) rfl ?_
  refine WPe_iconst (pc := 33) (0 : Int32) (dd dtX6_init_0 18 rfl) (by decide) ?_
  refine WPe_iconst (pc := 34) (0 : Int32) (dd dtX6_init_0 19 rfl) (by decide) ?_
  refine WPe_iast (pc := 35) (dd dtX6_init_0 20 rfl) (shN e22) (by unfold vp_in; decide) ?_
  refine WPe_lw fun w23 e24 => ?_
  refine WPe_dup (pc := 36) (dd dtX6_init_0 21 rfl) rfl ?_
  refine WPe_iconst (pc := 37) (1 : Int32) (dd dtX6_init_0 22 rfl) (by decide) ?_
  refine WPe_sipush (pc := 38) (200 : Int32) (dd dtX6_init_0 23 rfl) (by decide) ?_
  refine WPe_iast (pc := 41) (dd dtX6_init_0 24 rfl) (shI e24 (shN e22)) (by unfold vp_in; decide) ?_
  refine WPe_lw fun w25 e26 => ?_
  refine WPe_dup (pc := 42) (dd dtX6_init_0 25 rfl) rfl ?_
  refine WPe_iconst (pc := 43) (2 : Int32) (dd dtX6_init_0 26 rfl) (by decide) ?_
  refine WPe_iconst (pc := 44) (0 : Int32) (dd dtX6_init_0 27 rfl) (by decide) ?_
  refine WPe_iast (pc := 45) (dd dtX6_init_0 28 rfl) (shI e26 (shI e24 (shN e22))) (by unfold vp_in; decide) ?_
  refine WPe_lw fun w27 e28 => ?_
  refine WPe_dup (pc := 46) (dd dtX6_init_0 29 rfl) rfl ?_
  refine WPe_iconst (pc := 47) (3 : Int32) (dd dtX6_init_0 30 rfl) (by decide) ?_
  refine WPe_iconst (pc := 48) (5 : Int32) (dd dtX6_init_0 31 rfl) (by decide) ?_
  refine WPe_iast (pc := 49) (dd dtX6_init_0 32 rfl) (shI e28 (shI e26 (shI e24 (shN e22)))) (by unfold vp_in; decide) ?_
  refine WPe_lw fun w29 e30 => ?_
  refine WPe_ck fun h31 => ?_
  refine WPe_putR (pc := 50) (t := 6) (C := RX6) (T := TX6) 4 (dd dtX6_init_0 33 rfl) (shE h31) rfl (Nat.le_of_ble_eq_true rfl) (bw_mem4 57 rfl rfl) (Or.inr ⟨rfl, rfl, rfl⟩) rfl ?_
  refine WPe_lw fun w32 e33 => ?_
  refine WPe_sub [0] rfl ?_
  exact wpj6_init_53 X w0  x0 w32
noncomputable def j6_init_20  (x0 : Nat) (w : Wd) : Option (Unit × Wd) :=
  lw (wN w 20 18) fun w15 => (ck (tg w15 x0 = 6) (lw (sR w15 x0 3 (nx w)) fun w18 => (j6_init_28 x0 w18)))
theorem wpj6_init_20 (X : CX) (w0 : Wd)  (x0 : Nat) (w : Wd) : WPe rtV X (mX6_init, 6, 18, 2187, w0) 2 12 (j6_init_20  x0 w) 20 [(0, vR x0)] [] w := by
  unfold j6_init_20
  refine WPe_aload_n (pc := 20) 0 (dd dtX6_init_0 10 rfl) rfl ?_
  refine WPe_bipush (pc := 21) (18 : Int32) (dd dtX6_init_0 11 rfl) (by decide) ?_
  refine WPe_nx fun n14 => ?_
  refine WPe_newI (pc := 23) (N := 18) (dd dtX6_init_0 12 rfl) (bw_mem1 61 rfl rfl) (by decide) (by decide) (Nat.le_of_ble_eq_true rfl) ⟨(Nat.le_of_ble_eq_true rfl), (Nat.le_of_ble_eq_true rfl)⟩ ?_
  refine WPe_lw fun w15 e16 => ?_
  refine WPe_ck fun h17 => ?_
  refine WPe_putR (pc := 25) (t := 6) (C := RX6) (T := TX6) 3 (dd dtX6_init_0 13 rfl) (shE h17) rfl (Nat.le_of_ble_eq_true rfl) (bw_mem4 56 rfl rfl) (Or.inr ⟨rfl, rfl, rfl⟩) rfl ?_
  refine WPe_lw fun w18 e19 => ?_
  refine WPe_sub [0] rfl ?_
  exact wpj6_init_28 X w0  x0 w18
noncomputable def j6_init_12  (x0 : Nat) (w : Wd) : Option (Unit × Wd) :=
  lw (wN w 20 6) fun w9 => (ck (tg w9 x0 = 6) (lw (sR w9 x0 2 (nx w)) fun w12 => (j6_init_20 x0 w12)))
theorem wpj6_init_12 (X : CX) (w0 : Wd)  (x0 : Nat) (w : Wd) : WPe rtV X (mX6_init, 6, 18, 2187, w0) 1 6 (j6_init_12  x0 w) 12 [(0, vR x0)] [] w := by
  unfold j6_init_12
  refine WPe_aload_n (pc := 12) 0 (dd dtX6_init_0 6 rfl) rfl ?_
  refine WPe_bipush (pc := 13) (6 : Int32) (dd dtX6_init_0 7 rfl) (by decide) ?_
  refine WPe_nx fun n8 => ?_
  refine WPe_newI (pc := 15) (N := 6) (dd dtX6_init_0 8 rfl) (bw_mem1 61 rfl rfl) (by decide) (by decide) (Nat.le_of_ble_eq_true rfl) ⟨(Nat.le_of_ble_eq_true rfl), (Nat.le_of_ble_eq_true rfl)⟩ ?_
  refine WPe_lw fun w9 e10 => ?_
  refine WPe_ck fun h11 => ?_
  refine WPe_putR (pc := 17) (t := 6) (C := RX6) (T := TX6) 2 (dd dtX6_init_0 9 rfl) (shE h11) rfl (Nat.le_of_ble_eq_true rfl) (bw_mem4 55 rfl rfl) (Or.inr ⟨rfl, rfl, rfl⟩) rfl ?_
  refine WPe_lw fun w12 e13 => ?_
  refine WPe_sub [0] rfl ?_
  exact wpj6_init_20 X w0  x0 w12
noncomputable def f6_init (x0 : Nat) (w : Wd) : Option (Unit × Wd) :=
  ck (tg w x0 = 6) (lw (wN w 20 6) fun w4 => (lw (sR w4 x0 1 (nx w)) fun w6 => (j6_init_12 x0 w6)))
theorem wpf6_init (X : CX) (w0 : Wd) (x0 : Nat) (w : Wd) : WPe rtV X (mX6_init, 6, 18, 2187, w0) 0 0 (f6_init x0 w) 0 [(0, vR x0)] [] w := by
  unfold f6_init
  refine WPe_aload_n (pc := 0) 0 (dd dtX6_init_0 0 rfl) rfl ?_
  refine WPe_ck fun h1 => ?_
  refine WPe_pos (shE h1) (by decide) fun h2 => ?_
  refine WPe_objInit (pc := 1) (dd dtX6_init_0 1 rfl) h2 (bw_mem4 5 rfl rfl) oi1 oi2 (Nat.le_of_ble_eq_true rfl) (Nat.le_of_ble_eq_true rfl) ?_
  refine WPe_aload_n (pc := 4) 0 (dd dtX6_init_0 2 rfl) rfl ?_
  refine WPe_bipush (pc := 5) (6 : Int32) (dd dtX6_init_0 3 rfl) (by decide) ?_
  refine WPe_nx fun n3 => ?_
  refine WPe_newI (pc := 7) (N := 6) (dd dtX6_init_0 4 rfl) (bw_mem1 61 rfl rfl) (by decide) (by decide) (Nat.le_of_ble_eq_true rfl) ⟨(Nat.le_of_ble_eq_true rfl), (Nat.le_of_ble_eq_true rfl)⟩ ?_
  refine WPe_lw fun w4 e5 => ?_
  refine WPe_putR (pc := 9) (t := 6) (C := RX6) (T := TX6) 1 (dd dtX6_init_0 5 rfl) (shX n3 e5 (shE h1) (by decide)) rfl (Nat.le_of_ble_eq_true rfl) (bw_mem4 54 rfl rfl) (Or.inr ⟨rfl, rfl, rfl⟩) rfl ?_
  refine WPe_lw fun w6 e7 => ?_
  refine WPe_sub [0] rfl ?_
  exact wpj6_init_12 X w0  x0 w6
theorem okf6_init (x0 : Nat) (w : Wd) : ∀ z, f6_init x0 w = some z → OkM mX6_init 6 18 2187 [vR x0] w (rtV z.1) z.2 :=
  OkM.of (rt := rtV) moX6_init (Nat.le_of_ble_eq_true rfl) (fun X => wpf6_init X w x0 w)
def tbX6_within : List (Nat × Instr × Nat) := [(0, .iload_n 0, 1), (1, .iload_n 1, 1), (2, .if_icmp .ge 7, 3), (5, .iload_n 1, 1), (6, .goto 13, 3), (9, .iload_n 0, 1), (10, .iload_n 2, 1), (11, .if_icmp .le 7, 3), (14, .iload_n 2, 1), (15, .goto 4, 3), (18, .iload_n 0, 1), (19, .ireturn, 1)]
set_option maxRecDepth 20000 in
theorem dtX6_within : ∀ x ∈ tbX6_within, decode cX6_within x.1 = .ok x.2 := by decide +kernel
noncomputable def f6_within (x0 : Int32) (x1 : Int32) (x2 : Int32) (w : Wd) : Option (Int32 × Wd) :=
  if x1 ≤ x0 then (if x0 ≤ x2 then (some (x0, w)) else (some (x2, w))) else (some (x1, w))
theorem wpf6_within (X : CX) (w0 : Wd) (x0 : Int32) (x1 : Int32) (x2 : Int32) (w : Wd) : WPe rtI X (mX6_within, 1, 0, 0, w0) 0 0 (f6_within x0 x1 x2 w) 0 [(0, vI x0), (1, vI x1), (2, vI x2)] [] w := by
  unfold f6_within
  refine WPe_iload_n (pc := 0) 0 (dd dtX6_within 0 rfl) rfl ?_
  refine WPe_iload_n (pc := 1) 1 (dd dtX6_within 1 rfl) rfl ?_
  refine WPe_icmp_ge (pc := 2) 9 (dd dtX6_within 2 rfl) (by decide) (fun h1 => ?_) (fun h1 => ?_)
  · refine WPe_iload_n (pc := 9) 0 (dd dtX6_within 5 rfl) rfl ?_
    refine WPe_iload_n (pc := 10) 2 (dd dtX6_within 6 rfl) rfl ?_
    refine WPe_icmp_le (pc := 11) 18 (dd dtX6_within 7 rfl) (by decide) (fun h2 => ?_) (fun h2 => ?_)
    · refine WPe_iload_n (pc := 18) 0 (dd dtX6_within 10 rfl) rfl ?_
      exact WPe_ireturn (pc := 19) (dd dtX6_within 11 rfl) rfl rfl ⟨(Nat.le_of_ble_eq_true rfl), (Nat.le_of_ble_eq_true rfl)⟩
    · refine WPe_iload_n (pc := 14) 2 (dd dtX6_within 8 rfl) rfl ?_
      refine WPe_goto (pc := 15) 19 (dd dtX6_within 9 rfl) (by decide) ?_
      exact WPe_ireturn (pc := 19) (dd dtX6_within 11 rfl) rfl rfl ⟨(Nat.le_of_ble_eq_true rfl), (Nat.le_of_ble_eq_true rfl)⟩
  · refine WPe_iload_n (pc := 5) 1 (dd dtX6_within 3 rfl) rfl ?_
    refine WPe_goto (pc := 6) 19 (dd dtX6_within 4 rfl) (by decide) ?_
    exact WPe_ireturn (pc := 19) (dd dtX6_within 11 rfl) rfl rfl ⟨(Nat.le_of_ble_eq_true rfl), (Nat.le_of_ble_eq_true rfl)⟩
theorem okf6_within (x0 : Int32) (x1 : Int32) (x2 : Int32) (w : Wd) : ∀ z, f6_within x0 x1 x2 w = some z → OkM mX6_within 1 0 0 [vI x0, vI x1, vI x2] w (rtI z.1) z.2 :=
  OkM.of (rt := rtI) moX6_within (Nat.le_of_ble_eq_true rfl) (fun X => wpf6_within X w x0 x1 x2 w)
def tbX6_isOne : List (Nat × Instr × Nat) := [(0, .iload_n 1, 1), (1, .iconst 0, 1), (2, .aload_n 0, 1), (3, .getfield 72, 3), (6, .iconst 1, 1), (7, .isub, 1), (8, .invokestatic 75, 3), (11, .ireturn, 1)]
set_option maxRecDepth 20000 in
theorem dtX6_isOne : ∀ x ∈ tbX6_isOne, decode cX6_isOne x.1 = .ok x.2 := by decide +kernel
noncomputable def f6_isOne (x0 : Nat) (x1 : Int32) (w : Wd) : Option (Int32 × Wd) :=
  ck (tg w x0 = 6) ((f6_in x1 (0 : Int32) ((wi w x0 0) - (1 : Int32)) w).bind fun z2 => (ck (isB z2.1) (some (z2.1, z2.2))))
theorem wpf6_isOne (X : CX) (w0 : Wd) (x0 : Nat) (x1 : Int32) (w : Wd) : WPe rtI X (mX6_isOne, 2, 0, 0, w0) 0 0 (f6_isOne x0 x1 w) 0 [(0, vR x0), (1, vI x1)] [] w := by
  unfold f6_isOne
  refine WPe_iload_n (pc := 0) 1 (dd dtX6_isOne 0 rfl) rfl ?_
  refine WPe_iconst (pc := 1) (0 : Int32) (dd dtX6_isOne 1 rfl) (by decide) ?_
  refine WPe_aload_n (pc := 2) 0 (dd dtX6_isOne 2 rfl) rfl ?_
  refine WPe_ck fun h1 => ?_
  refine WPe_getI (pc := 3) (t := 6) (C := RX6) (T := TX6) 0 (dd dtX6_isOne 3 rfl) (shE h1) rfl (Nat.le_of_ble_eq_true rfl) rfl (bw_mem4 53 rfl rfl) ?_
  refine WPe_iconst (pc := 6) (1 : Int32) (dd dtX6_isOne 4 rfl) (by decide) ?_
  refine WPe_isub (pc := 7) (dd dtX6_isOne 5 rfl) ?_
  refine WPe_callS (pc := 8) (rtc := rtI) (Mc := mX6_in) (d' := 1) (mc' := 0) (ms' := 0) [vI x1, vI (0 : Int32), vI ((wi w x0 0) - (1 : Int32))] [] rfl (dd dtX6_isOne 6 rfl) (okf6_in x1 (0 : Int32) ((wi w x0 0) - (1 : Int32)) w) moX6_in msX6_in (bw_mem4 14 rfl rfl) rfl (Nat.le_of_ble_eq_true rfl) ⟨(Nat.le_of_ble_eq_true rfl), (Nat.le_of_ble_eq_true rfl)⟩ ⟨(Nat.le_of_ble_eq_true rfl), (Nat.le_of_ble_eq_true rfl)⟩ (fun z2 h3 e4 => ?_)
  refine WPe_st (st2 := [vI z2.1]) rfl ?_
  refine WPe_ck fun h5 => ?_
  exact WPe_zreturn (pc := 11) (ty := .boolean) (dd dtX6_isOne 7 rfl) rfl rfl (isB_nar h5) ⟨(Nat.le_of_ble_eq_true rfl), (Nat.le_of_ble_eq_true rfl)⟩
theorem okf6_isOne (x0 : Nat) (x1 : Int32) (w : Wd) : ∀ z, f6_isOne x0 x1 w = some z → OkM mX6_isOne 2 0 0 [vR x0, vI x1] w (rtI z.1) z.2 :=
  OkM.of (rt := rtI) moX6_isOne (Nat.le_of_ble_eq_true rfl) (fun X => wpf6_isOne X w x0 x1 w)
def tbX6_isIn : List (Nat × Instr × Nat) := [(0, .aload_n 0, 1), (1, .getfield 16, 3), (4, .iconst 3, 1), (5, .iload_n 1, 1), (6, .imul, 1), (7, .iaload, 1), (8, .iconst 3, 1), (9, .if_icmp .ge 7, 3), (12, .iconst 1, 1), (13, .goto 4, 3), (16, .iconst 0, 1), (17, .ireturn, 1)]
set_option maxRecDepth 20000 in
theorem dtX6_isIn : ∀ x ∈ tbX6_isIn, decode cX6_isIn x.1 = .ok x.2 := by decide +kernel
noncomputable def f6_isIn (x0 : Nat) (x1 : Int32) (w : Wd) : Option (Int32 × Wd) :=
  ck (tg w x0 = 6) (ck (tg w (wr w x0 3) = 20 ∧ vp_in ((3 : Int32) * x1) (ln w (wr w x0 3))) (if (3 : Int32) ≤ (wi w (wr w x0 3) (((3 : Int32) * x1)).toNatClampNeg) then (some ((0 : Int32), w)) else (some ((1 : Int32), w))))
theorem wpf6_isIn (X : CX) (w0 : Wd) (x0 : Nat) (x1 : Int32) (w : Wd) : WPe rtI X (mX6_isIn, 1, 0, 0, w0) 0 0 (f6_isIn x0 x1 w) 0 [(0, vR x0), (1, vI x1)] [] w := by
  unfold f6_isIn
  refine WPe_aload_n (pc := 0) 0 (dd dtX6_isIn 0 rfl) rfl ?_
  refine WPe_ck fun h1 => ?_
  refine WPe_getR (pc := 1) (t := 6) (C := RX6) (T := TX6) 3 (dd dtX6_isIn 1 rfl) (shE h1) rfl (Nat.le_of_ble_eq_true rfl) rfl (bw_mem4 56 rfl rfl) ?_
  refine WPe_iconst (pc := 4) (3 : Int32) (dd dtX6_isIn 2 rfl) (by decide) ?_
  refine WPe_iload_n (pc := 5) 1 (dd dtX6_isIn 3 rfl) rfl ?_
  refine WPe_imul (pc := 6) (dd dtX6_isIn 4 rfl) ?_
  refine WPe_ck fun h2 => ?_
  refine WPe_iald (pc := 7) (dd dtX6_isIn 5 rfl) (shE h2.1) h2.2 ?_
  refine WPe_iconst (pc := 8) (3 : Int32) (dd dtX6_isIn 6 rfl) (by decide) ?_
  refine WPe_icmp_ge (pc := 9) 16 (dd dtX6_isIn 7 rfl) (by decide) (fun h3 => ?_) (fun h3 => ?_)
  · refine WPe_iconst (pc := 16) (0 : Int32) (dd dtX6_isIn 10 rfl) (by decide) ?_
    exact WPe_zreturn (pc := 17) (ty := .boolean) (dd dtX6_isIn 11 rfl) rfl rfl rfl ⟨(Nat.le_of_ble_eq_true rfl), (Nat.le_of_ble_eq_true rfl)⟩
  · refine WPe_iconst (pc := 12) (1 : Int32) (dd dtX6_isIn 8 rfl) (by decide) ?_
    refine WPe_goto (pc := 13) 17 (dd dtX6_isIn 9 rfl) (by decide) ?_
    exact WPe_zreturn (pc := 17) (ty := .boolean) (dd dtX6_isIn 11 rfl) rfl rfl rfl ⟨(Nat.le_of_ble_eq_true rfl), (Nat.le_of_ble_eq_true rfl)⟩
theorem okf6_isIn (x0 : Nat) (x1 : Int32) (w : Wd) : ∀ z, f6_isIn x0 x1 w = some z → OkM mX6_isIn 1 0 0 [vR x0, vI x1] w (rtI z.1) z.2 :=
  OkM.of (rt := rtI) moX6_isIn (Nat.le_of_ble_eq_true rfl) (fun X => wpf6_isIn X w x0 x1 w)
def tbX6_inSet : List (Nat × Instr × Nat) := [(0, .iconst 0, 1), (1, .istore_n 1, 1), (2, .iconst 0, 1), (3, .istore_n 2, 1), (4, .iload_n 2, 1), (5, .aload_n 0, 1), (6, .getfield 72, 3), (9, .if_icmp .ge 27, 3), (12, .iload_n 1, 1), (13, .aload_n 0, 1), (14, .iload_n 2, 1), (15, .invokevirtual 79, 3), (18, .ifCond .eq 9, 3), (21, .iconst 1, 1), (22, .iload_n 2, 1), (23, .ishl, 1), (24, .goto 4, 3), (27, .iconst 0, 1), (28, .ior, 1), (29, .istore_n 1, 1), (30, .iinc 2 1, 3), (33, .goto (-29), 3), (36, .iload_n 1, 1), (37, .ireturn, 1)]
set_option maxRecDepth 20000 in
theorem dtX6_inSet : ∀ x ∈ tbX6_inSet, decode cX6_inSet x.1 = .ok x.2 := by decide +kernel
noncomputable def j6_inSet_28 (k4 : Nat × Int32 × Int32 → Wd → Option (Int32 × Wd)) (x0 : Nat) (x2 : Int32) (s0 : Int32) (s1 : Int32) (w : Wd) : Option (Int32 × Wd) :=
  k4 (x0, (s1 ||| s0), (x2 + (1 : Int32))) w
theorem wpj6_inSet_28 (X : CX) (w0 : Wd) (k4 : Nat × Int32 × Int32 → Wd → Option (Int32 × Wd)) (hk4 : ∀ (v : Nat × Int32 × Int32) (w : Wd), WPe rtI X (mX6_inSet, 2, 0, 0, w0) 0 0 (k4 v w) 4 [(0, vR v.1), (1, vI v.2.1), (2, vI v.2.2)] [] w) (x0 : Nat) (x2 : Int32) (s0 : Int32) (s1 : Int32) (w : Wd) : WPe rtI X (mX6_inSet, 2, 0, 0, w0) 0 0 (j6_inSet_28 k4 x0 x2 s0 s1 w) 28 [(0, vR x0), (2, vI x2)] [vI s0, vI s1] w := by
  unfold j6_inSet_28
  refine WPe_ior (pc := 28) (dd dtX6_inSet 18 rfl) ?_
  refine WPe_istore_n (pc := 29) (ls' := [(1, vI (s1 ||| s0)), (0, vR x0), (2, vI x2)]) (dd dtX6_inSet 19 rfl) (Nat.le_of_ble_eq_true rfl) rfl ?_
  refine WPe_iinc (pc := 30) (ls' := [(2, vI (x2 + (1 : Int32))), (1, vI (s1 ||| s0)), (0, vR x0)]) 2 (x2 + (1 : Int32)) (dd dtX6_inSet 20 rfl) rfl (congrArg (HAdd.hAdd _) (by decide : Int32.ofInt (1) = (1 : Int32))) (Nat.le_of_ble_eq_true rfl) rfl ?_
  refine WPe_goto (pc := 33) 4 (dd dtX6_inSet 21 rfl) (by decide) ?_
  refine WPe_sub [2, 1, 0] rfl ?_
  exact hk4 (x0, (s1 ||| s0), (x2 + (1 : Int32))) w
noncomputable def b6_inSet_4 (k4 : Nat × Int32 × Int32 → Wd → Option (Int32 × Wd)) (v : Nat × Int32 × Int32) (w : Wd) : Option (Int32 × Wd) :=
  ck (tg w v.1 = 6) (if (wi w v.1 0) ≤ v.2.2 then (some (v.2.1, w)) else ((f6_isIn v.1 v.2.2 w).bind fun z3 => (if z3.1 = (0 : Int32) then (j6_inSet_28 k4 v.1 v.2.2 (0 : Int32) v.2.1 z3.2) else (j6_inSet_28 k4 v.1 v.2.2 ((1 : Int32) <<< (v.2.2 &&& 31)) v.2.1 z3.2))))
theorem wpb6_inSet_4 (X : CX) (w0 : Wd) (k4 : Nat × Int32 × Int32 → Wd → Option (Int32 × Wd)) (hk4 : ∀ (v : Nat × Int32 × Int32) (w : Wd), WPe rtI X (mX6_inSet, 2, 0, 0, w0) 0 0 (k4 v w) 4 [(0, vR v.1), (1, vI v.2.1), (2, vI v.2.2)] [] w) (v : Nat × Int32 × Int32) (w : Wd) : WPe rtI X (mX6_inSet, 2, 0, 0, w0) 0 0 (b6_inSet_4 k4 v w) 4 [(0, vR v.1), (1, vI v.2.1), (2, vI v.2.2)] [] w := by
  unfold b6_inSet_4
  refine WPe_iload_n (pc := 4) 2 (dd dtX6_inSet 4 rfl) rfl ?_
  refine WPe_aload_n (pc := 5) 0 (dd dtX6_inSet 5 rfl) rfl ?_
  refine WPe_ck fun h1 => ?_
  refine WPe_getI (pc := 6) (t := 6) (C := RX6) (T := TX6) 0 (dd dtX6_inSet 6 rfl) (shE h1) rfl (Nat.le_of_ble_eq_true rfl) rfl (bw_mem4 53 rfl rfl) ?_
  refine WPe_icmp_ge (pc := 9) 36 (dd dtX6_inSet 7 rfl) (by decide) (fun h2 => ?_) (fun h2 => ?_)
  · refine WPe_iload_n (pc := 36) 1 (dd dtX6_inSet 22 rfl) rfl ?_
    exact WPe_ireturn (pc := 37) (dd dtX6_inSet 23 rfl) rfl rfl ⟨(Nat.le_of_ble_eq_true rfl), (Nat.le_of_ble_eq_true rfl)⟩
  · refine WPe_iload_n (pc := 12) 1 (dd dtX6_inSet 8 rfl) rfl ?_
    refine WPe_aload_n (pc := 13) 0 (dd dtX6_inSet 9 rfl) rfl ?_
    refine WPe_iload_n (pc := 14) 2 (dd dtX6_inSet 10 rfl) rfl ?_
    refine WPe_callV (pc := 15) (rtc := rtI) (Mc := mX6_isIn) (d' := 1) (mc' := 0) (ms' := 0) [vI v.2.2] [vI v.2.1] rfl (dd dtX6_inSet 11 rfl) (okf6_isIn v.1 v.2.2 w) moX6_isIn miX6_isIn (bw_mem4 158 rfl rfl) (Or.inl ⟨_, _, _, _, (shE h1), rfl⟩) rfl (Nat.le_of_ble_eq_true rfl) ⟨(Nat.le_of_ble_eq_true rfl), (Nat.le_of_ble_eq_true rfl)⟩ ⟨(Nat.le_of_ble_eq_true rfl), (Nat.le_of_ble_eq_true rfl)⟩ (fun z3 h4 e5 => ?_)
    refine WPe_st (st2 := [vI z3.1, vI v.2.1]) rfl ?_
    refine WPe_if_eq (pc := 18) 27 (dd dtX6_inSet 12 rfl) (by decide) (fun h6 => ?_) (fun h6 => ?_)
    · refine WPe_iconst (pc := 27) (0 : Int32) (dd dtX6_inSet 17 rfl) (by decide) ?_
      refine WPe_sub [0, 2] rfl ?_
      exact wpj6_inSet_28 X w0 k4 hk4 v.1 v.2.2 (0 : Int32) v.2.1 z3.2
    · refine WPe_iconst (pc := 21) (1 : Int32) (dd dtX6_inSet 13 rfl) (by decide) ?_
      refine WPe_iload_n (pc := 22) 2 (dd dtX6_inSet 14 rfl) rfl ?_
      refine WPe_ishl (pc := 23) (dd dtX6_inSet 15 rfl) ?_
      refine WPe_goto (pc := 24) 28 (dd dtX6_inSet 16 rfl) (by decide) ?_
      refine WPe_sub [0, 2] rfl ?_
      exact wpj6_inSet_28 X w0 k4 hk4 v.1 v.2.2 ((1 : Int32) <<< (v.2.2 &&& 31)) v.2.1 z3.2
theorem wplb6_inSet_4 (X : CX) (w0 : Wd)  : ∀ (n9 : Nat) (v : Nat × Int32 × Int32) (w : Wd), WPe rtI X (mX6_inSet, 2, 0, 0, w0) 0 0 (loopF (b6_inSet_4 ) n9 v w) 4 [(0, vR v.1), (1, vI v.2.1), (2, vI v.2.2)] [] w :=
  WPe_loop (rt := rtI) (X := X) (M := (mX6_inSet, 2, 0, 0, w0)) (fun v : Nat × Int32 × Int32 => [(0, vR v.1), (1, vI v.2.1), (2, vI v.2.2)]) (fun k hk v w => wpb6_inSet_4 X w0  k hk v w)
noncomputable def f6_inSet (x0 : Nat) (w : Wd) : Option (Int32 × Wd) :=
  loopF (b6_inSet_4) FU (x0, (0 : Int32), (0 : Int32)) w
theorem wpf6_inSet (X : CX) (w0 : Wd) (x0 : Nat) (w : Wd) : WPe rtI X (mX6_inSet, 2, 0, 0, w0) 0 0 (f6_inSet x0 w) 0 [(0, vR x0)] [] w := by
  unfold f6_inSet
  refine WPe_iconst (pc := 0) (0 : Int32) (dd dtX6_inSet 0 rfl) (by decide) ?_
  refine WPe_istore_n (pc := 1) (ls' := [(1, vI (0 : Int32)), (0, vR x0)]) (dd dtX6_inSet 1 rfl) (Nat.le_of_ble_eq_true rfl) rfl ?_
  refine WPe_iconst (pc := 2) (0 : Int32) (dd dtX6_inSet 2 rfl) (by decide) ?_
  refine WPe_istore_n (pc := 3) (ls' := [(2, vI (0 : Int32)), (1, vI (0 : Int32)), (0, vR x0)]) (dd dtX6_inSet 3 rfl) (Nat.le_of_ble_eq_true rfl) rfl ?_
  refine WPe_sub [2, 1, 0] rfl ?_
  exact wplb6_inSet_4 X w0  FU _ _
theorem okf6_inSet (x0 : Nat) (w : Wd) : ∀ z, f6_inSet x0 w = some z → OkM mX6_inSet 2 0 0 [vR x0] w (rtI z.1) z.2 :=
  OkM.of (rt := rtI) moX6_inSet (Nat.le_of_ble_eq_true rfl) (fun X => wpf6_inSet X w x0 w)
def tbX6_inMany : List (Nat × Instr × Nat) := [(0, .iconst 0, 1), (1, .istore_n 1, 1), (2, .iconst 0, 1), (3, .istore_n 2, 1), (4, .iload_n 2, 1), (5, .aload_n 0, 1), (6, .getfield 72, 3), (9, .if_icmp .ge 25, 3), (12, .iload_n 1, 1), (13, .aload_n 0, 1), (14, .iload_n 2, 1), (15, .invokevirtual 79, 3), (18, .ifCond .eq 7, 3), (21, .iconst 1, 1), (22, .goto 4, 3), (25, .iconst 0, 1), (26, .iadd, 1), (27, .istore_n 1, 1), (28, .iinc 2 1, 3), (31, .goto (-27), 3), (34, .iload_n 1, 1), (35, .ireturn, 1)]
set_option maxRecDepth 20000 in
theorem dtX6_inMany : ∀ x ∈ tbX6_inMany, decode cX6_inMany x.1 = .ok x.2 := by decide +kernel
noncomputable def j6_inMany_26 (k4 : Nat × Int32 × Int32 → Wd → Option (Int32 × Wd)) (x0 : Nat) (x2 : Int32) (s0 : Int32) (s1 : Int32) (w : Wd) : Option (Int32 × Wd) :=
  k4 (x0, (s1 + s0), (x2 + (1 : Int32))) w
theorem wpj6_inMany_26 (X : CX) (w0 : Wd) (k4 : Nat × Int32 × Int32 → Wd → Option (Int32 × Wd)) (hk4 : ∀ (v : Nat × Int32 × Int32) (w : Wd), WPe rtI X (mX6_inMany, 2, 0, 0, w0) 0 0 (k4 v w) 4 [(0, vR v.1), (1, vI v.2.1), (2, vI v.2.2)] [] w) (x0 : Nat) (x2 : Int32) (s0 : Int32) (s1 : Int32) (w : Wd) : WPe rtI X (mX6_inMany, 2, 0, 0, w0) 0 0 (j6_inMany_26 k4 x0 x2 s0 s1 w) 26 [(0, vR x0), (2, vI x2)] [vI s0, vI s1] w := by
  unfold j6_inMany_26
  refine WPe_iadd (pc := 26) (dd dtX6_inMany 16 rfl) ?_
  refine WPe_istore_n (pc := 27) (ls' := [(1, vI (s1 + s0)), (0, vR x0), (2, vI x2)]) (dd dtX6_inMany 17 rfl) (Nat.le_of_ble_eq_true rfl) rfl ?_
  refine WPe_iinc (pc := 28) (ls' := [(2, vI (x2 + (1 : Int32))), (1, vI (s1 + s0)), (0, vR x0)]) 2 (x2 + (1 : Int32)) (dd dtX6_inMany 18 rfl) rfl (congrArg (HAdd.hAdd _) (by decide : Int32.ofInt (1) = (1 : Int32))) (Nat.le_of_ble_eq_true rfl) rfl ?_
  refine WPe_goto (pc := 31) 4 (dd dtX6_inMany 19 rfl) (by decide) ?_
  refine WPe_sub [2, 1, 0] rfl ?_
  exact hk4 (x0, (s1 + s0), (x2 + (1 : Int32))) w
noncomputable def b6_inMany_4 (k4 : Nat × Int32 × Int32 → Wd → Option (Int32 × Wd)) (v : Nat × Int32 × Int32) (w : Wd) : Option (Int32 × Wd) :=
  ck (tg w v.1 = 6) (if (wi w v.1 0) ≤ v.2.2 then (some (v.2.1, w)) else ((f6_isIn v.1 v.2.2 w).bind fun z3 => (if z3.1 = (0 : Int32) then (j6_inMany_26 k4 v.1 v.2.2 (0 : Int32) v.2.1 z3.2) else (j6_inMany_26 k4 v.1 v.2.2 (1 : Int32) v.2.1 z3.2))))
theorem wpb6_inMany_4 (X : CX) (w0 : Wd) (k4 : Nat × Int32 × Int32 → Wd → Option (Int32 × Wd)) (hk4 : ∀ (v : Nat × Int32 × Int32) (w : Wd), WPe rtI X (mX6_inMany, 2, 0, 0, w0) 0 0 (k4 v w) 4 [(0, vR v.1), (1, vI v.2.1), (2, vI v.2.2)] [] w) (v : Nat × Int32 × Int32) (w : Wd) : WPe rtI X (mX6_inMany, 2, 0, 0, w0) 0 0 (b6_inMany_4 k4 v w) 4 [(0, vR v.1), (1, vI v.2.1), (2, vI v.2.2)] [] w := by
  unfold b6_inMany_4
  refine WPe_iload_n (pc := 4) 2 (dd dtX6_inMany 4 rfl) rfl ?_
  refine WPe_aload_n (pc := 5) 0 (dd dtX6_inMany 5 rfl) rfl ?_
  refine WPe_ck fun h1 => ?_
  refine WPe_getI (pc := 6) (t := 6) (C := RX6) (T := TX6) 0 (dd dtX6_inMany 6 rfl) (shE h1) rfl (Nat.le_of_ble_eq_true rfl) rfl (bw_mem4 53 rfl rfl) ?_
  refine WPe_icmp_ge (pc := 9) 34 (dd dtX6_inMany 7 rfl) (by decide) (fun h2 => ?_) (fun h2 => ?_)
  · refine WPe_iload_n (pc := 34) 1 (dd dtX6_inMany 20 rfl) rfl ?_
    exact WPe_ireturn (pc := 35) (dd dtX6_inMany 21 rfl) rfl rfl ⟨(Nat.le_of_ble_eq_true rfl), (Nat.le_of_ble_eq_true rfl)⟩
  · refine WPe_iload_n (pc := 12) 1 (dd dtX6_inMany 8 rfl) rfl ?_
    refine WPe_aload_n (pc := 13) 0 (dd dtX6_inMany 9 rfl) rfl ?_
    refine WPe_iload_n (pc := 14) 2 (dd dtX6_inMany 10 rfl) rfl ?_
    refine WPe_callV (pc := 15) (rtc := rtI) (Mc := mX6_isIn) (d' := 1) (mc' := 0) (ms' := 0) [vI v.2.2] [vI v.2.1] rfl (dd dtX6_inMany 11 rfl) (okf6_isIn v.1 v.2.2 w) moX6_isIn miX6_isIn (bw_mem4 158 rfl rfl) (Or.inl ⟨_, _, _, _, (shE h1), rfl⟩) rfl (Nat.le_of_ble_eq_true rfl) ⟨(Nat.le_of_ble_eq_true rfl), (Nat.le_of_ble_eq_true rfl)⟩ ⟨(Nat.le_of_ble_eq_true rfl), (Nat.le_of_ble_eq_true rfl)⟩ (fun z3 h4 e5 => ?_)
    refine WPe_st (st2 := [vI z3.1, vI v.2.1]) rfl ?_
    refine WPe_if_eq (pc := 18) 25 (dd dtX6_inMany 12 rfl) (by decide) (fun h6 => ?_) (fun h6 => ?_)
    · refine WPe_iconst (pc := 25) (0 : Int32) (dd dtX6_inMany 15 rfl) (by decide) ?_
      refine WPe_sub [0, 2] rfl ?_
      exact wpj6_inMany_26 X w0 k4 hk4 v.1 v.2.2 (0 : Int32) v.2.1 z3.2
    · refine WPe_iconst (pc := 21) (1 : Int32) (dd dtX6_inMany 13 rfl) (by decide) ?_
      refine WPe_goto (pc := 22) 26 (dd dtX6_inMany 14 rfl) (by decide) ?_
      refine WPe_sub [0, 2] rfl ?_
      exact wpj6_inMany_26 X w0 k4 hk4 v.1 v.2.2 (1 : Int32) v.2.1 z3.2
theorem wplb6_inMany_4 (X : CX) (w0 : Wd)  : ∀ (n9 : Nat) (v : Nat × Int32 × Int32) (w : Wd), WPe rtI X (mX6_inMany, 2, 0, 0, w0) 0 0 (loopF (b6_inMany_4 ) n9 v w) 4 [(0, vR v.1), (1, vI v.2.1), (2, vI v.2.2)] [] w :=
  WPe_loop (rt := rtI) (X := X) (M := (mX6_inMany, 2, 0, 0, w0)) (fun v : Nat × Int32 × Int32 => [(0, vR v.1), (1, vI v.2.1), (2, vI v.2.2)]) (fun k hk v w => wpb6_inMany_4 X w0  k hk v w)
noncomputable def f6_inMany (x0 : Nat) (w : Wd) : Option (Int32 × Wd) :=
  loopF (b6_inMany_4) FU (x0, (0 : Int32), (0 : Int32)) w
theorem wpf6_inMany (X : CX) (w0 : Wd) (x0 : Nat) (w : Wd) : WPe rtI X (mX6_inMany, 2, 0, 0, w0) 0 0 (f6_inMany x0 w) 0 [(0, vR x0)] [] w := by
  unfold f6_inMany
  refine WPe_iconst (pc := 0) (0 : Int32) (dd dtX6_inMany 0 rfl) (by decide) ?_
  refine WPe_istore_n (pc := 1) (ls' := [(1, vI (0 : Int32)), (0, vR x0)]) (dd dtX6_inMany 1 rfl) (Nat.le_of_ble_eq_true rfl) rfl ?_
  refine WPe_iconst (pc := 2) (0 : Int32) (dd dtX6_inMany 2 rfl) (by decide) ?_
  refine WPe_istore_n (pc := 3) (ls' := [(2, vI (0 : Int32)), (1, vI (0 : Int32)), (0, vR x0)]) (dd dtX6_inMany 3 rfl) (Nat.le_of_ble_eq_true rfl) rfl ?_
  refine WPe_sub [2, 1, 0] rfl ?_
  exact wplb6_inMany_4 X w0  FU _ _
theorem okf6_inMany (x0 : Nat) (w : Wd) : ∀ z, f6_inMany x0 w = some z → OkM mX6_inMany 2 0 0 [vR x0] w (rtI z.1) z.2 :=
  OkM.of (rt := rtI) moX6_inMany (Nat.le_of_ble_eq_true rfl) (fun X => wpf6_inMany X w x0 w)
def tbX6_joyAll : List (Nat × Instr × Nat) := [(0, .iconst 0, 1), (1, .istore_n 1, 1), (2, .iconst 0, 1), (3, .istore_n 2, 1), (4, .iload_n 2, 1), (5, .aload_n 0, 1), (6, .getfield 72, 3), (9, .if_icmp .ge 22, 3), (12, .iload_n 1, 1), (13, .aload_n 0, 1), (14, .getfield 16, 3), (17, .iconst 3, 1), (18, .iload_n 2, 1), (19, .imul, 1), (20, .iconst 2, 1), (21, .iadd, 1), (22, .iaload, 1), (23, .iadd, 1), (24, .istore_n 1, 1), (25, .iinc 2 1, 3), (28, .goto (-24), 3), (31, .iload_n 1, 1), (32, .ireturn, 1)]
set_option maxRecDepth 20000 in
theorem dtX6_joyAll : ∀ x ∈ tbX6_joyAll, decode cX6_joyAll x.1 = .ok x.2 := by decide +kernel
noncomputable def b6_joyAll_4 (k4 : Nat × Int32 × Int32 → Wd → Option (Int32 × Wd)) (v : Nat × Int32 × Int32) (w : Wd) : Option (Int32 × Wd) :=
  ck (tg w v.1 = 6) (if (wi w v.1 0) ≤ v.2.2 then (some (v.2.1, w)) else (ck (tg w (wr w v.1 3) = 20 ∧ vp_in (((3 : Int32) * v.2.2) + (2 : Int32)) (ln w (wr w v.1 3))) (k4 (v.1, (v.2.1 + (wi w (wr w v.1 3) ((((3 : Int32) * v.2.2) + (2 : Int32))).toNatClampNeg)), (v.2.2 + (1 : Int32))) w)))
theorem wpb6_joyAll_4 (X : CX) (w0 : Wd) (k4 : Nat × Int32 × Int32 → Wd → Option (Int32 × Wd)) (hk4 : ∀ (v : Nat × Int32 × Int32) (w : Wd), WPe rtI X (mX6_joyAll, 1, 0, 0, w0) 0 0 (k4 v w) 4 [(0, vR v.1), (1, vI v.2.1), (2, vI v.2.2)] [] w) (v : Nat × Int32 × Int32) (w : Wd) : WPe rtI X (mX6_joyAll, 1, 0, 0, w0) 0 0 (b6_joyAll_4 k4 v w) 4 [(0, vR v.1), (1, vI v.2.1), (2, vI v.2.2)] [] w := by
  unfold b6_joyAll_4
  refine WPe_iload_n (pc := 4) 2 (dd dtX6_joyAll 4 rfl) rfl ?_
  refine WPe_aload_n (pc := 5) 0 (dd dtX6_joyAll 5 rfl) rfl ?_
  refine WPe_ck fun h1 => ?_
  refine WPe_getI (pc := 6) (t := 6) (C := RX6) (T := TX6) 0 (dd dtX6_joyAll 6 rfl) (shE h1) rfl (Nat.le_of_ble_eq_true rfl) rfl (bw_mem4 53 rfl rfl) ?_
  refine WPe_icmp_ge (pc := 9) 31 (dd dtX6_joyAll 7 rfl) (by decide) (fun h2 => ?_) (fun h2 => ?_)
  · refine WPe_iload_n (pc := 31) 1 (dd dtX6_joyAll 21 rfl) rfl ?_
    exact WPe_ireturn (pc := 32) (dd dtX6_joyAll 22 rfl) rfl rfl ⟨(Nat.le_of_ble_eq_true rfl), (Nat.le_of_ble_eq_true rfl)⟩
  · refine WPe_iload_n (pc := 12) 1 (dd dtX6_joyAll 8 rfl) rfl ?_
    refine WPe_aload_n (pc := 13) 0 (dd dtX6_joyAll 9 rfl) rfl ?_
    refine WPe_getR (pc := 14) (t := 6) (C := RX6) (T := TX6) 3 (dd dtX6_joyAll 10 rfl) (shE h1) rfl (Nat.le_of_ble_eq_true rfl) rfl (bw_mem4 56 rfl rfl) ?_
    refine WPe_iconst (pc := 17) (3 : Int32) (dd dtX6_joyAll 11 rfl) (by decide) ?_
    refine WPe_iload_n (pc := 18) 2 (dd dtX6_joyAll 12 rfl) rfl ?_
    refine WPe_imul (pc := 19) (dd dtX6_joyAll 13 rfl) ?_
    refine WPe_iconst (pc := 20) (2 : Int32) (dd dtX6_joyAll 14 rfl) (by decide) ?_
    refine WPe_iadd (pc := 21) (dd dtX6_joyAll 15 rfl) ?_
    refine WPe_ck fun h3 => ?_
    refine WPe_iald (pc := 22) (dd dtX6_joyAll 16 rfl) (shE h3.1) h3.2 ?_
    refine WPe_iadd (pc := 23) (dd dtX6_joyAll 17 rfl) ?_
    refine WPe_istore_n (pc := 24) (ls' := [(1, vI (v.2.1 + (wi w (wr w v.1 3) ((((3 : Int32) * v.2.2) + (2 : Int32))).toNatClampNeg))), (0, vR v.1), (2, vI v.2.2)]) (dd dtX6_joyAll 18 rfl) (Nat.le_of_ble_eq_true rfl) rfl ?_
    refine WPe_iinc (pc := 25) (ls' := [(2, vI (v.2.2 + (1 : Int32))), (1, vI (v.2.1 + (wi w (wr w v.1 3) ((((3 : Int32) * v.2.2) + (2 : Int32))).toNatClampNeg))), (0, vR v.1)]) 2 (v.2.2 + (1 : Int32)) (dd dtX6_joyAll 19 rfl) rfl (congrArg (HAdd.hAdd _) (by decide : Int32.ofInt (1) = (1 : Int32))) (Nat.le_of_ble_eq_true rfl) rfl ?_
    refine WPe_goto (pc := 28) 4 (dd dtX6_joyAll 20 rfl) (by decide) ?_
    refine WPe_sub [2, 1, 0] rfl ?_
    exact hk4 (v.1, (v.2.1 + (wi w (wr w v.1 3) ((((3 : Int32) * v.2.2) + (2 : Int32))).toNatClampNeg)), (v.2.2 + (1 : Int32))) w
theorem wplb6_joyAll_4 (X : CX) (w0 : Wd)  : ∀ (n9 : Nat) (v : Nat × Int32 × Int32) (w : Wd), WPe rtI X (mX6_joyAll, 1, 0, 0, w0) 0 0 (loopF (b6_joyAll_4 ) n9 v w) 4 [(0, vR v.1), (1, vI v.2.1), (2, vI v.2.2)] [] w :=
  WPe_loop (rt := rtI) (X := X) (M := (mX6_joyAll, 1, 0, 0, w0)) (fun v : Nat × Int32 × Int32 => [(0, vR v.1), (1, vI v.2.1), (2, vI v.2.2)]) (fun k hk v w => wpb6_joyAll_4 X w0  k hk v w)
noncomputable def f6_joyAll (x0 : Nat) (w : Wd) : Option (Int32 × Wd) :=
  loopF (b6_joyAll_4) FU (x0, (0 : Int32), (0 : Int32)) w
theorem wpf6_joyAll (X : CX) (w0 : Wd) (x0 : Nat) (w : Wd) : WPe rtI X (mX6_joyAll, 1, 0, 0, w0) 0 0 (f6_joyAll x0 w) 0 [(0, vR x0)] [] w := by
  unfold f6_joyAll
  refine WPe_iconst (pc := 0) (0 : Int32) (dd dtX6_joyAll 0 rfl) (by decide) ?_
  refine WPe_istore_n (pc := 1) (ls' := [(1, vI (0 : Int32)), (0, vR x0)]) (dd dtX6_joyAll 1 rfl) (Nat.le_of_ble_eq_true rfl) rfl ?_
  refine WPe_iconst (pc := 2) (0 : Int32) (dd dtX6_joyAll 2 rfl) (by decide) ?_
  refine WPe_istore_n (pc := 3) (ls' := [(2, vI (0 : Int32)), (1, vI (0 : Int32)), (0, vR x0)]) (dd dtX6_joyAll 3 rfl) (Nat.le_of_ble_eq_true rfl) rfl ?_
  refine WPe_sub [2, 1, 0] rfl ?_
  exact wplb6_joyAll_4 X w0  FU _ _
theorem okf6_joyAll (x0 : Nat) (w : Wd) : ∀ z, f6_joyAll x0 w = some z → OkM mX6_joyAll 1 0 0 [vR x0] w (rtI z.1) z.2 :=
  OkM.of (rt := rtI) moX6_joyAll (Nat.le_of_ble_eq_true rfl) (fun X => wpf6_joyAll X w x0 w)
def tbX6_count : List (Nat × Instr × Nat) := [(0, .iload_n 1, 1), (1, .tableswitch 69 0 5 #[39, 44, 49, 54, 59, 64], 39), (40, .aload_n 0, 1), (41, .getfield 72, 3), (44, .ireturn, 1), (45, .aload_n 0, 1), (46, .invokevirtual 83, 3), (49, .ireturn, 1), (50, .aload_n 0, 1), (51, .invokevirtual 86, 3), (54, .ireturn, 1), (55, .aload_n 0, 1), (56, .getfield 89, 3), (59, .ireturn, 1), (60, .aload_n 0, 1), (61, .getfield 92, 3), (64, .ireturn, 1), (65, .aload_n 0, 1), (66, .getfield 64, 3), (69, .ireturn, 1), (70, .bipush (-2), 2), (72, .ireturn, 1)]
set_option maxRecDepth 20000 in
theorem dtX6_count : ∀ x ∈ tbX6_count, decode cX6_count x.1 = .ok x.2 := by decide +kernel
noncomputable def f6_count (x0 : Nat) (x1 : Int32) (w : Wd) : Option (Int32 × Wd) :=
  if x1 = (0 : Int32) then (ck (tg w x0 = 6) (some ((wi w x0 0), w))) else (if x1 = (1 : Int32) then (ck (tg w x0 = 6) ((f6_inMany x0 w).bind fun z5 => (some (z5.1, z5.2)))) else (if x1 = (2 : Int32) then (ck (tg w x0 = 6) ((f6_joyAll x0 w).bind fun z10 => (some (z10.1, z10.2)))) else (if x1 = (3 : Int32) then (ck (tg w x0 = 6) (some ((wi w x0 9), w))) else (if x1 = (4 : Int32) then (ck (tg w x0 = 6) (some ((wi w x0 10), w))) else (if x1 = (5 : Int32) then (ck (tg w x0 = 6) (some ((wi w x0 6), w))) else (some ((-2 : Int32), w)))))))
theorem wpf6_count (X : CX) (w0 : Wd) (x0 : Nat) (x1 : Int32) (w : Wd) : WPe rtI X (mX6_count, 3, 0, 0, w0) 0 0 (f6_count x0 x1 w) 0 [(0, vR x0), (1, vI x1)] [] w := by
  unfold f6_count
  refine WPe_iload_n (pc := 0) 1 (dd dtX6_count 0 rfl) rfl ?_
  refine WPe_ite (fun h1 => ?_) (fun h1 => ?_)
  · refine WPe_tabIn (pc := 1) (0 : Int32) 40 (dd dtX6_count 1 rfl) h1 (by decide) (by decide) rfl (by decide) ?_
    refine WPe_aload_n (pc := 40) 0 (dd dtX6_count 2 rfl) rfl ?_
    refine WPe_ck fun h2 => ?_
    refine WPe_getI (pc := 41) (t := 6) (C := RX6) (T := TX6) 0 (dd dtX6_count 3 rfl) (shE h2) rfl (Nat.le_of_ble_eq_true rfl) rfl (bw_mem4 53 rfl rfl) ?_
    exact WPe_ireturn (pc := 44) (dd dtX6_count 4 rfl) rfl rfl ⟨(Nat.le_of_ble_eq_true rfl), (Nat.le_of_ble_eq_true rfl)⟩
  · refine WPe_ite (fun h3 => ?_) (fun h3 => ?_)
    · refine WPe_tabIn (pc := 1) (1 : Int32) 45 (dd dtX6_count 1 rfl) h3 (by decide) (by decide) rfl (by decide) ?_
      refine WPe_aload_n (pc := 45) 0 (dd dtX6_count 5 rfl) rfl ?_
      refine WPe_ck fun h4 => ?_
      refine WPe_callV (pc := 46) (rtc := rtI) (Mc := mX6_inMany) (d' := 2) (mc' := 0) (ms' := 0) [] [] rfl (dd dtX6_count 6 rfl) (okf6_inMany x0 w) moX6_inMany miX6_inMany (bw_mem4 154 rfl rfl) (Or.inl ⟨_, _, _, _, (shE h4), rfl⟩) rfl (Nat.le_of_ble_eq_true rfl) ⟨(Nat.le_of_ble_eq_true rfl), (Nat.le_of_ble_eq_true rfl)⟩ ⟨(Nat.le_of_ble_eq_true rfl), (Nat.le_of_ble_eq_true rfl)⟩ (fun z5 h6 e7 => ?_)
      refine WPe_st (st2 := [vI z5.1]) rfl ?_
      exact WPe_ireturn (pc := 49) (dd dtX6_count 7 rfl) rfl rfl ⟨(Nat.le_of_ble_eq_true rfl), (Nat.le_of_ble_eq_true rfl)⟩
    · refine WPe_ite (fun h8 => ?_) (fun h8 => ?_)
      · refine WPe_tabIn (pc := 1) (2 : Int32) 50 (dd dtX6_count 1 rfl) h8 (by decide) (by decide) rfl (by decide) ?_
        refine WPe_aload_n (pc := 50) 0 (dd dtX6_count 8 rfl) rfl ?_
        refine WPe_ck fun h9 => ?_
        refine WPe_callV (pc := 51) (rtc := rtI) (Mc := mX6_joyAll) (d' := 1) (mc' := 0) (ms' := 0) [] [] rfl (dd dtX6_count 9 rfl) (okf6_joyAll x0 w) moX6_joyAll miX6_joyAll (bw_mem4 162 rfl rfl) (Or.inl ⟨_, _, _, _, (shE h9), rfl⟩) rfl (Nat.le_of_ble_eq_true rfl) ⟨(Nat.le_of_ble_eq_true rfl), (Nat.le_of_ble_eq_true rfl)⟩ ⟨(Nat.le_of_ble_eq_true rfl), (Nat.le_of_ble_eq_true rfl)⟩ (fun z10 h11 e12 => ?_)
        refine WPe_st (st2 := [vI z10.1]) rfl ?_
        exact WPe_ireturn (pc := 54) (dd dtX6_count 10 rfl) rfl rfl ⟨(Nat.le_of_ble_eq_true rfl), (Nat.le_of_ble_eq_true rfl)⟩
      · refine WPe_ite (fun h13 => ?_) (fun h13 => ?_)
        · refine WPe_tabIn (pc := 1) (3 : Int32) 55 (dd dtX6_count 1 rfl) h13 (by decide) (by decide) rfl (by decide) ?_
          refine WPe_aload_n (pc := 55) 0 (dd dtX6_count 11 rfl) rfl ?_
          refine WPe_ck fun h14 => ?_
          refine WPe_getI (pc := 56) (t := 6) (C := RX6) (T := TX6) 9 (dd dtX6_count 12 rfl) (shE h14) rfl (Nat.le_of_ble_eq_true rfl) rfl (bw_mem4 62 rfl rfl) ?_
          exact WPe_ireturn (pc := 59) (dd dtX6_count 13 rfl) rfl rfl ⟨(Nat.le_of_ble_eq_true rfl), (Nat.le_of_ble_eq_true rfl)⟩
        · refine WPe_ite (fun h15 => ?_) (fun h15 => ?_)
          · refine WPe_tabIn (pc := 1) (4 : Int32) 60 (dd dtX6_count 1 rfl) h15 (by decide) (by decide) rfl (by decide) ?_
            refine WPe_aload_n (pc := 60) 0 (dd dtX6_count 14 rfl) rfl ?_
            refine WPe_ck fun h16 => ?_
            refine WPe_getI (pc := 61) (t := 6) (C := RX6) (T := TX6) 10 (dd dtX6_count 15 rfl) (shE h16) rfl (Nat.le_of_ble_eq_true rfl) rfl (bw_mem4 63 rfl rfl) ?_
            exact WPe_ireturn (pc := 64) (dd dtX6_count 16 rfl) rfl rfl ⟨(Nat.le_of_ble_eq_true rfl), (Nat.le_of_ble_eq_true rfl)⟩
          · refine WPe_ite (fun h17 => ?_) (fun h17 => ?_)
            · refine WPe_tabIn (pc := 1) (5 : Int32) 65 (dd dtX6_count 1 rfl) h17 (by decide) (by decide) rfl (by decide) ?_
              refine WPe_aload_n (pc := 65) 0 (dd dtX6_count 17 rfl) rfl ?_
              refine WPe_ck fun h18 => ?_
              refine WPe_getI (pc := 66) (t := 6) (C := RX6) (T := TX6) 6 (dd dtX6_count 18 rfl) (shE h18) rfl (Nat.le_of_ble_eq_true rfl) rfl (bw_mem4 59 rfl rfl) ?_
              exact WPe_ireturn (pc := 69) (dd dtX6_count 19 rfl) rfl rfl ⟨(Nat.le_of_ble_eq_true rfl), (Nat.le_of_ble_eq_true rfl)⟩
            · refine WPe_tabOut (pc := 1) 70 (dd dtX6_count 1 rfl) (fun j hj => ?_) (by decide) ?_
              · match j, hj with
                | 0, _ => exact Or.inr (tneq h1 (by decide))
                | 1, _ => exact Or.inr (tneq h3 (by decide))
                | 2, _ => exact Or.inr (tneq h8 (by decide))
                | 3, _ => exact Or.inr (tneq h13 (by decide))
                | 4, _ => exact Or.inr (tneq h15 (by decide))
                | 5, _ => exact Or.inr (tneq h17 (by decide))
                | j + 6, h => exact absurd h (by omega)
              refine WPe_bipush (pc := 70) (-2 : Int32) (dd dtX6_count 20 rfl) (by decide) ?_
              exact WPe_ireturn (pc := 72) (dd dtX6_count 21 rfl) rfl rfl ⟨(Nat.le_of_ble_eq_true rfl), (Nat.le_of_ble_eq_true rfl)⟩
theorem okf6_count (x0 : Nat) (x1 : Int32) (w : Wd) : ∀ z, f6_count x0 x1 w = some z → OkM mX6_count 3 0 0 [vR x0, vI x1] w (rtI z.1) z.2 :=
  OkM.of (rt := rtI) moX6_count (Nat.le_of_ble_eq_true rfl) (fun X => wpf6_count X w x0 x1 w)
def tbX6_fire : List (Nat × Instr × Nat) := [(0, .iload_n 1, 1), (1, .iconst 0, 1), (2, .iconst 3, 1), (3, .invokestatic 75, 3), (6, .ifCond .eq 24, 3), (9, .iload_n 2, 1), (10, .iconst 0, 1), (11, .iload_n 1, 1), (12, .iconst 2, 1), (13, .if_icmp .ge 9, 3), (16, .sipush 999, 3), (19, .goto 5, 3), (22, .bipush 99, 2), (24, .invokestatic 75, 3), (27, .ifCond .ne 6, 3), (30, .bipush (-2), 2), (32, .ireturn, 1), (33, .aload_n 0, 1), (34, .getfield 19, 3), (37, .iload_n 1, 1), (38, .iaload, 1), (39, .istore_n 3, 1), (40, .aload_n 0, 1), (41, .getfield 19, 3), (44, .iload_n 1, 1), (45, .iload_n 2, 1), (46, .iastore, 1), (47, .iload_n 3, 1), (48, .ireturn, 1)]
set_option maxRecDepth 20000 in
theorem dtX6_fire : ∀ x ∈ tbX6_fire, decode cX6_fire x.1 = .ok x.2 := by decide +kernel
noncomputable def j6_fire_24  (x0 : Nat) (x1 : Int32) (x2 : Int32) (s0 : Int32) (s1 : Int32) (s2 : Int32) (w : Wd) : Option (Int32 × Wd) :=
  (f6_in s2 s1 s0 w).bind fun z6 => (if z6.1 = (0 : Int32) then (some ((-2 : Int32), z6.2)) else (ck (tg z6.2 x0 = 6) (ck (tg z6.2 (wr z6.2 x0 4) = 20 ∧ vp_in x1 (ln z6.2 (wr z6.2 x0 4))) (ck (vp_in x1 (ln z6.2 (wr z6.2 x0 4))) (lw (sI z6.2 (wr z6.2 x0 4) (x1).toNatClampNeg x2) fun w13 => (some ((wi z6.2 (wr z6.2 x0 4) (x1).toNatClampNeg), w13)))))))
theorem wpj6_fire_24 (X : CX) (w0 : Wd)  (x0 : Nat) (x1 : Int32) (x2 : Int32) (s0 : Int32) (s1 : Int32) (s2 : Int32) (w : Wd) : WPe rtI X (mX6_fire, 2, 0, 0, w0) 0 0 (j6_fire_24  x0 x1 x2 s0 s1 s2 w) 24 [(0, vR x0), (1, vI x1), (2, vI x2)] [vI s0, vI s1, vI s2] w := by
  unfold j6_fire_24
  refine WPe_callS (pc := 24) (rtc := rtI) (Mc := mX6_in) (d' := 1) (mc' := 0) (ms' := 0) [vI s2, vI s1, vI s0] [] rfl (dd dtX6_fire 13 rfl) (okf6_in s2 s1 s0 w) moX6_in msX6_in (bw_mem4 14 rfl rfl) rfl (Nat.le_of_ble_eq_true rfl) ⟨(Nat.le_of_ble_eq_true rfl), (Nat.le_of_ble_eq_true rfl)⟩ ⟨(Nat.le_of_ble_eq_true rfl), (Nat.le_of_ble_eq_true rfl)⟩ (fun z6 h7 e8 => ?_)
  refine WPe_st (st2 := [vI z6.1]) rfl ?_
  refine WPe_if_ne (pc := 27) 33 (dd dtX6_fire 14 rfl) (by decide) (fun h9 => ?_) (fun h9 => ?_)
  · refine WPe_bipush (pc := 30) (-2 : Int32) (dd dtX6_fire 15 rfl) (by decide) ?_
    exact WPe_ireturn (pc := 32) (dd dtX6_fire 16 rfl) rfl rfl ⟨(Nat.le_of_ble_eq_true rfl), (Nat.le_of_ble_eq_true rfl)⟩
  · refine WPe_aload_n (pc := 33) 0 (dd dtX6_fire 17 rfl) rfl ?_
    refine WPe_ck fun h10 => ?_
    refine WPe_getR (pc := 34) (t := 6) (C := RX6) (T := TX6) 4 (dd dtX6_fire 18 rfl) (shE h10) rfl (Nat.le_of_ble_eq_true rfl) rfl (bw_mem4 57 rfl rfl) ?_
    refine WPe_iload_n (pc := 37) 1 (dd dtX6_fire 19 rfl) rfl ?_
    refine WPe_ck fun h11 => ?_
    refine WPe_iald (pc := 38) (dd dtX6_fire 20 rfl) (shE h11.1) h11.2 ?_
    refine WPe_istore_n (pc := 39) (ls' := [(3, vI (wi z6.2 (wr z6.2 x0 4) (x1).toNatClampNeg)), (0, vR x0), (1, vI x1), (2, vI x2)]) (dd dtX6_fire 21 rfl) (Nat.le_of_ble_eq_true rfl) rfl ?_
    refine WPe_aload_n (pc := 40) 1 (dd dtX6_fire 22 rfl) rfl ?_
    refine WPe_getR (pc := 41) (t := 6) (C := RX6) (T := TX6) 4 (dd dtX6_fire 23 rfl) (shE h10) rfl (Nat.le_of_ble_eq_true rfl) rfl (bw_mem4 57 rfl rfl) ?_
    refine WPe_iload_n (pc := 44) 2 (dd dtX6_fire 24 rfl) rfl ?_
    refine WPe_iload_n (pc := 45) 3 (dd dtX6_fire 25 rfl) rfl ?_
    refine WPe_ck fun h12 => ?_
    refine WPe_iast (pc := 46) (dd dtX6_fire 26 rfl) (shL (shE h11.1)) h12 ?_
    refine WPe_lw fun w13 e14 => ?_
    refine WPe_iload_n (pc := 47) 0 (dd dtX6_fire 27 rfl) rfl ?_
    exact WPe_ireturn (pc := 48) (dd dtX6_fire 28 rfl) rfl rfl ⟨(Nat.le_of_ble_eq_true rfl), (Nat.le_of_ble_eq_true rfl)⟩
noncomputable def f6_fire (x0 : Nat) (x1 : Int32) (x2 : Int32) (w : Wd) : Option (Int32 × Wd) :=
  (f6_in x1 (0 : Int32) (3 : Int32) w).bind fun z1 => (if z1.1 = (0 : Int32) then (some ((-2 : Int32), z1.2)) else (if (2 : Int32) ≤ x1 then (j6_fire_24 x0 x1 x2 (99 : Int32) (0 : Int32) x2 z1.2) else (j6_fire_24 x0 x1 x2 (999 : Int32) (0 : Int32) x2 z1.2)))
theorem wpf6_fire (X : CX) (w0 : Wd) (x0 : Nat) (x1 : Int32) (x2 : Int32) (w : Wd) : WPe rtI X (mX6_fire, 2, 0, 0, w0) 0 0 (f6_fire x0 x1 x2 w) 0 [(0, vR x0), (1, vI x1), (2, vI x2)] [] w := by
  unfold f6_fire
  refine WPe_iload_n (pc := 0) 1 (dd dtX6_fire 0 rfl) rfl ?_
  refine WPe_iconst (pc := 1) (0 : Int32) (dd dtX6_fire 1 rfl) (by decide) ?_
  refine WPe_iconst (pc := 2) (3 : Int32) (dd dtX6_fire 2 rfl) (by decide) ?_
  refine WPe_callS (pc := 3) (rtc := rtI) (Mc := mX6_in) (d' := 1) (mc' := 0) (ms' := 0) [vI x1, vI (0 : Int32), vI (3 : Int32)] [] rfl (dd dtX6_fire 3 rfl) (okf6_in x1 (0 : Int32) (3 : Int32) w) moX6_in msX6_in (bw_mem4 14 rfl rfl) rfl (Nat.le_of_ble_eq_true rfl) ⟨(Nat.le_of_ble_eq_true rfl), (Nat.le_of_ble_eq_true rfl)⟩ ⟨(Nat.le_of_ble_eq_true rfl), (Nat.le_of_ble_eq_true rfl)⟩ (fun z1 h2 e3 => ?_)
  refine WPe_st (st2 := [vI z1.1]) rfl ?_
  refine WPe_if_eq (pc := 6) 30 (dd dtX6_fire 4 rfl) (by decide) (fun h4 => ?_) (fun h4 => ?_)
  · refine WPe_bipush (pc := 30) (-2 : Int32) (dd dtX6_fire 15 rfl) (by decide) ?_
    exact WPe_ireturn (pc := 32) (dd dtX6_fire 16 rfl) rfl rfl ⟨(Nat.le_of_ble_eq_true rfl), (Nat.le_of_ble_eq_true rfl)⟩
  · refine WPe_iload_n (pc := 9) 2 (dd dtX6_fire 5 rfl) rfl ?_
    refine WPe_iconst (pc := 10) (0 : Int32) (dd dtX6_fire 6 rfl) (by decide) ?_
    refine WPe_iload_n (pc := 11) 1 (dd dtX6_fire 7 rfl) rfl ?_
    refine WPe_iconst (pc := 12) (2 : Int32) (dd dtX6_fire 8 rfl) (by decide) ?_
    refine WPe_icmp_ge (pc := 13) 22 (dd dtX6_fire 9 rfl) (by decide) (fun h5 => ?_) (fun h5 => ?_)
    · refine WPe_bipush (pc := 22) (99 : Int32) (dd dtX6_fire 12 rfl) (by decide) ?_
      refine WPe_sub [0, 1, 2] rfl ?_
      exact wpj6_fire_24 X w0  x0 x1 x2 (99 : Int32) (0 : Int32) x2 z1.2
    · refine WPe_sipush (pc := 16) (999 : Int32) (dd dtX6_fire 10 rfl) (by decide) ?_
      refine WPe_goto (pc := 19) 24 (dd dtX6_fire 11 rfl) (by decide) ?_
      refine WPe_sub [0, 1, 2] rfl ?_
      exact wpj6_fire_24 X w0  x0 x1 x2 (999 : Int32) (0 : Int32) x2 z1.2
theorem okf6_fire (x0 : Nat) (x1 : Int32) (x2 : Int32) (w : Wd) : ∀ z, f6_fire x0 x1 x2 w = some z → OkM mX6_fire 2 0 0 [vR x0, vI x1, vI x2] w (rtI z.1) z.2 :=
  OkM.of (rt := rtI) moX6_fire (Nat.le_of_ble_eq_true rfl) (fun X => wpf6_fire X w x0 x1 x2 w)
def tbX6_hut : List (Nat × Instr × Nat) := [(0, .iload_n 1, 1), (1, .iconst 0, 1), (2, .iconst 3, 1), (3, .invokestatic 75, 3), (6, .ifCond .eq 12, 3), (9, .aload_n 0, 1), (10, .getfield 19, 3), (13, .iload_n 1, 1), (14, .iaload, 1), (15, .goto 5, 3), (18, .bipush (-2), 2), (20, .ireturn, 1)]
set_option maxRecDepth 20000 in
theorem dtX6_hut : ∀ x ∈ tbX6_hut, decode cX6_hut x.1 = .ok x.2 := by decide +kernel
noncomputable def f6_hut (x0 : Nat) (x1 : Int32) (w : Wd) : Option (Int32 × Wd) :=
  (f6_in x1 (0 : Int32) (3 : Int32) w).bind fun z1 => (if z1.1 = (0 : Int32) then (some ((-2 : Int32), z1.2)) else (ck (tg z1.2 x0 = 6) (ck (tg z1.2 (wr z1.2 x0 4) = 20 ∧ vp_in x1 (ln z1.2 (wr z1.2 x0 4))) (some ((wi z1.2 (wr z1.2 x0 4) (x1).toNatClampNeg), z1.2)))))
theorem wpf6_hut (X : CX) (w0 : Wd) (x0 : Nat) (x1 : Int32) (w : Wd) : WPe rtI X (mX6_hut, 2, 0, 0, w0) 0 0 (f6_hut x0 x1 w) 0 [(0, vR x0), (1, vI x1)] [] w := by
  unfold f6_hut
  refine WPe_iload_n (pc := 0) 1 (dd dtX6_hut 0 rfl) rfl ?_
  refine WPe_iconst (pc := 1) (0 : Int32) (dd dtX6_hut 1 rfl) (by decide) ?_
  refine WPe_iconst (pc := 2) (3 : Int32) (dd dtX6_hut 2 rfl) (by decide) ?_
  refine WPe_callS (pc := 3) (rtc := rtI) (Mc := mX6_in) (d' := 1) (mc' := 0) (ms' := 0) [vI x1, vI (0 : Int32), vI (3 : Int32)] [] rfl (dd dtX6_hut 3 rfl) (okf6_in x1 (0 : Int32) (3 : Int32) w) moX6_in msX6_in (bw_mem4 14 rfl rfl) rfl (Nat.le_of_ble_eq_true rfl) ⟨(Nat.le_of_ble_eq_true rfl), (Nat.le_of_ble_eq_true rfl)⟩ ⟨(Nat.le_of_ble_eq_true rfl), (Nat.le_of_ble_eq_true rfl)⟩ (fun z1 h2 e3 => ?_)
  refine WPe_st (st2 := [vI z1.1]) rfl ?_
  refine WPe_if_eq (pc := 6) 18 (dd dtX6_hut 4 rfl) (by decide) (fun h4 => ?_) (fun h4 => ?_)
  · refine WPe_bipush (pc := 18) (-2 : Int32) (dd dtX6_hut 10 rfl) (by decide) ?_
    exact WPe_ireturn (pc := 20) (dd dtX6_hut 11 rfl) rfl rfl ⟨(Nat.le_of_ble_eq_true rfl), (Nat.le_of_ble_eq_true rfl)⟩
  · refine WPe_aload_n (pc := 9) 0 (dd dtX6_hut 5 rfl) rfl ?_
    refine WPe_ck fun h5 => ?_
    refine WPe_getR (pc := 10) (t := 6) (C := RX6) (T := TX6) 4 (dd dtX6_hut 6 rfl) (shE h5) rfl (Nat.le_of_ble_eq_true rfl) rfl (bw_mem4 57 rfl rfl) ?_
    refine WPe_iload_n (pc := 13) 1 (dd dtX6_hut 7 rfl) rfl ?_
    refine WPe_ck fun h6 => ?_
    refine WPe_iald (pc := 14) (dd dtX6_hut 8 rfl) (shE h6.1) h6.2 ?_
    refine WPe_goto (pc := 15) 20 (dd dtX6_hut 9 rfl) (by decide) ?_
    exact WPe_ireturn (pc := 20) (dd dtX6_hut 11 rfl) rfl rfl ⟨(Nat.le_of_ble_eq_true rfl), (Nat.le_of_ble_eq_true rfl)⟩
theorem okf6_hut (x0 : Nat) (x1 : Int32) (w : Wd) : ∀ z, f6_hut x0 x1 w = some z → OkM mX6_hut 2 0 0 [vR x0, vI x1] w (rtI z.1) z.2 :=
  OkM.of (rt := rtI) moX6_hut (Nat.le_of_ble_eq_true rfl) (fun X => wpf6_hut X w x0 x1 w)
def tbX6_isByte : List (Nat × Instr × Nat) := [(0, .iload_n 0, 1), (1, .iconst 0, 1), (2, .sipush 255, 3), (5, .invokestatic 75, 3), (8, .ireturn, 1)]
set_option maxRecDepth 20000 in
theorem dtX6_isByte : ∀ x ∈ tbX6_isByte, decode cX6_isByte x.1 = .ok x.2 := by decide +kernel
noncomputable def f6_isByte (x0 : Int32) (w : Wd) : Option (Int32 × Wd) :=
  (f6_in x0 (0 : Int32) (255 : Int32) w).bind fun z1 => (ck (isB z1.1) (some (z1.1, z1.2)))
theorem wpf6_isByte (X : CX) (w0 : Wd) (x0 : Int32) (w : Wd) : WPe rtI X (mX6_isByte, 2, 0, 0, w0) 0 0 (f6_isByte x0 w) 0 [(0, vI x0)] [] w := by
  unfold f6_isByte
  refine WPe_iload_n (pc := 0) 0 (dd dtX6_isByte 0 rfl) rfl ?_
  refine WPe_iconst (pc := 1) (0 : Int32) (dd dtX6_isByte 1 rfl) (by decide) ?_
  refine WPe_sipush (pc := 2) (255 : Int32) (dd dtX6_isByte 2 rfl) (by decide) ?_
  refine WPe_callS (pc := 5) (rtc := rtI) (Mc := mX6_in) (d' := 1) (mc' := 0) (ms' := 0) [vI x0, vI (0 : Int32), vI (255 : Int32)] [] rfl (dd dtX6_isByte 3 rfl) (okf6_in x0 (0 : Int32) (255 : Int32) w) moX6_in msX6_in (bw_mem4 14 rfl rfl) rfl (Nat.le_of_ble_eq_true rfl) ⟨(Nat.le_of_ble_eq_true rfl), (Nat.le_of_ble_eq_true rfl)⟩ ⟨(Nat.le_of_ble_eq_true rfl), (Nat.le_of_ble_eq_true rfl)⟩ (fun z1 h2 e3 => ?_)
  refine WPe_st (st2 := [vI z1.1]) rfl ?_
  refine WPe_ck fun h4 => ?_
  exact WPe_zreturn (pc := 8) (ty := .boolean) (dd dtX6_isByte 4 rfl) rfl rfl (isB_nar h4) ⟨(Nat.le_of_ble_eq_true rfl), (Nat.le_of_ble_eq_true rfl)⟩
theorem okf6_isByte (x0 : Int32) (w : Wd) : ∀ z, f6_isByte x0 w = some z → OkM mX6_isByte 2 0 0 [vI x0] w (rtI z.1) z.2 :=
  OkM.of (rt := rtI) moX6_isByte (Nat.le_of_ble_eq_true rfl) (fun X => wpf6_isByte X w x0 w)
def tbX6_feed : List (Nat × Instr × Nat) := [(0, .iload_n 1, 1), (1, .iconst 1, 1), (2, .iconst 5, 1), (3, .invokestatic 75, 3), (6, .ifCond .eq 41, 3), (9, .iload_n 2, 1), (10, .invokestatic 95, 3), (13, .ifCond .eq 34, 3), (16, .iload_n 3, 1), (17, .invokestatic 95, 3), (20, .ifCond .eq 27, 3), (23, .iload 4, 2), (25, .invokestatic 95, 3), (28, .ifCond .eq 19, 3), (31, .iload 5, 2), (33, .invokestatic 95, 3), (36, .ifCond .eq 11, 3), (39, .iload 6, 2), (41, .invokestatic 95, 3), (44, .ifCond .ne 6, 3), (47, .bipush (-2), 2), (49, .ireturn, 1), (50, .aload_n 0, 1), (51, .getfield 64, 3), (54, .iload_n 1, 1), (55, .iadd, 1), (56, .sipush 160, 3), (59, .if_icmp .le 6, 3), (62, .bipush (-4), 2), (64, .ireturn, 1), (65, .iconst 0, 1), (66, .istore 7, 2), (68, .iload 7, 2), (70, .iload_n 1, 1), (71, .if_icmp .ge 71, 3), (74, .aload_n 0, 1), (75, .getfield 22, 3), (78, .aload_n 0, 1), (79, .getfield 64, 3), (82, .iload 7, 2), (84, .ifCond .ne 7, 3), (87, .iload_n 2, 1), (88, .goto 37, 3), (91, .iload 7, 2), (93, .iconst 1, 1), (94, .if_icmp .ne 7, 3), (97, .iload_n 3, 1), (98, .goto 27, 3), (101, .iload 7, 2), (103, .iconst 2, 1), (104, .if_icmp .ne 8, 3), (107, .iload 4, 2), (109, .goto 16, 3), (112, .iload 7, 2), (114, .iconst 3, 1), (115, .if_icmp .ne 8, 3), (118, .iload 5, 2), (120, .goto 5, 3), (123, .iload 6, 2), (125, .iastore, 1), (126, .aload_n 0, 1), (127, .dup, 1), (128, .getfield 64, 3), (131, .iconst 1, 1), (132, .iadd, 1), (133, .putfield 64, 3), (136, .iinc 7 1, 3), (139, .goto (-71), 3), (142, .aload_n 0, 1), (143, .getfield 64, 3), (146, .ireturn, 1)]
set_option maxRecDepth 20000 in
theorem dtX6_feed : ∀ x ∈ tbX6_feed, decode cX6_feed x.1 = .ok x.2 := by decide +kernel
noncomputable def j6_feed_125 (k68 : Nat × Int32 × Int32 × Int32 × Int32 × Int32 × Int32 × Int32 → Wd → Option (Int32 × Wd)) (x0 : Nat) (x1 : Int32) (x2 : Int32) (x3 : Int32) (x4 : Int32) (x5 : Int32) (x6 : Int32) (x7 : Int32) (s0 : Int32) (s1 : Int32) (s2 : Nat) (w : Wd) : Option (Int32 × Wd) :=
  ck (tg w s2 = 20 ∧ vp_in s1 (ln w s2)) (lw (sI w s2 (s1).toNatClampNeg s0) fun w32 => (ck (tg w32 x0 = 6) (lw (sI w32 x0 6 ((wi w32 x0 6) + (1 : Int32))) fun w35 => (k68 (x0, x1, x2, x3, x4, x5, x6, (x7 + (1 : Int32))) w35))))
theorem wpj6_feed_125 (X : CX) (w0 : Wd) (k68 : Nat × Int32 × Int32 × Int32 × Int32 × Int32 × Int32 × Int32 → Wd → Option (Int32 × Wd)) (hk68 : ∀ (v : Nat × Int32 × Int32 × Int32 × Int32 × Int32 × Int32 × Int32) (w : Wd), WPe rtI X (mX6_feed, 3, 0, 0, w0) 0 0 (k68 v w) 68 [(0, vR v.1), (1, vI v.2.1), (2, vI v.2.2.1), (3, vI v.2.2.2.1), (4, vI v.2.2.2.2.1), (5, vI v.2.2.2.2.2.1), (6, vI v.2.2.2.2.2.2.1), (7, vI v.2.2.2.2.2.2.2)] [] w) (x0 : Nat) (x1 : Int32) (x2 : Int32) (x3 : Int32) (x4 : Int32) (x5 : Int32) (x6 : Int32) (x7 : Int32) (s0 : Int32) (s1 : Int32) (s2 : Nat) (w : Wd) : WPe rtI X (mX6_feed, 3, 0, 0, w0) 0 0 (j6_feed_125 k68 x0 x1 x2 x3 x4 x5 x6 x7 s0 s1 s2 w) 125 [(0, vR x0), (1, vI x1), (2, vI x2), (3, vI x3), (4, vI x4), (5, vI x5), (6, vI x6), (7, vI x7)] [vI s0, vI s1, vR s2] w := by
  unfold j6_feed_125
  refine WPe_ck fun h31 => ?_
  refine WPe_iast (pc := 125) (dd dtX6_feed 59 rfl) (shE h31.1) h31.2 ?_
  refine WPe_lw fun w32 e33 => ?_
  refine WPe_aload_n (pc := 126) 0 (dd dtX6_feed 60 rfl) rfl ?_
  refine WPe_dup (pc := 127) (dd dtX6_feed 61 rfl) rfl ?_
  refine WPe_ck fun h34 => ?_
  refine WPe_getI (pc := 128) (t := 6) (C := RX6) (T := TX6) 6 (dd dtX6_feed 62 rfl) (shE h34) rfl (Nat.le_of_ble_eq_true rfl) rfl (bw_mem4 59 rfl rfl) ?_
  refine WPe_iconst (pc := 131) (1 : Int32) (dd dtX6_feed 63 rfl) (by decide) ?_
  refine WPe_iadd (pc := 132) (dd dtX6_feed 64 rfl) ?_
  refine WPe_putI (pc := 133) (t := 6) (C := RX6) (T := TX6) 6 (dd dtX6_feed 65 rfl) (shE h34) rfl (Nat.le_of_ble_eq_true rfl) (bw_mem4 59 rfl rfl) (Or.inl rfl) rfl rfl rfl ?_
  refine WPe_lw fun w35 e36 => ?_
  refine WPe_iinc (pc := 136) (ls' := [(7, vI (x7 + (1 : Int32))), (0, vR x0), (1, vI x1), (2, vI x2), (3, vI x3), (4, vI x4), (5, vI x5), (6, vI x6)]) 7 (x7 + (1 : Int32)) (dd dtX6_feed 66 rfl) rfl (congrArg (HAdd.hAdd _) (by decide : Int32.ofInt (1) = (1 : Int32))) (Nat.le_of_ble_eq_true rfl) rfl ?_
  refine WPe_goto (pc := 139) 68 (dd dtX6_feed 67 rfl) (by decide) ?_
  refine WPe_sub [1, 2, 3, 4, 5, 6, 7, 0] rfl ?_
  exact hk68 (x0, x1, x2, x3, x4, x5, x6, (x7 + (1 : Int32))) w35
noncomputable def b6_feed_68 (k68 : Nat × Int32 × Int32 × Int32 × Int32 × Int32 × Int32 × Int32 → Wd → Option (Int32 × Wd)) (v : Nat × Int32 × Int32 × Int32 × Int32 × Int32 × Int32 × Int32) (w : Wd) : Option (Int32 × Wd) :=
  if v.2.1 ≤ v.2.2.2.2.2.2.2 then (ck (tg w v.1 = 6) (some ((wi w v.1 6), w))) else (ck (tg w v.1 = 6) (if v.2.2.2.2.2.2.2 = (0 : Int32) then (j6_feed_125 k68 v.1 v.2.1 v.2.2.1 v.2.2.2.1 v.2.2.2.2.1 v.2.2.2.2.2.1 v.2.2.2.2.2.2.1 v.2.2.2.2.2.2.2 v.2.2.1 (wi w v.1 6) (wr w v.1 5) w) else (if v.2.2.2.2.2.2.2 = (1 : Int32) then (j6_feed_125 k68 v.1 v.2.1 v.2.2.1 v.2.2.2.1 v.2.2.2.2.1 v.2.2.2.2.2.1 v.2.2.2.2.2.2.1 v.2.2.2.2.2.2.2 v.2.2.2.1 (wi w v.1 6) (wr w v.1 5) w) else (if v.2.2.2.2.2.2.2 = (2 : Int32) then (j6_feed_125 k68 v.1 v.2.1 v.2.2.1 v.2.2.2.1 v.2.2.2.2.1 v.2.2.2.2.2.1 v.2.2.2.2.2.2.1 v.2.2.2.2.2.2.2 v.2.2.2.2.1 (wi w v.1 6) (wr w v.1 5) w) else (if v.2.2.2.2.2.2.2 = (3 : Int32) then (j6_feed_125 k68 v.1 v.2.1 v.2.2.1 v.2.2.2.1 v.2.2.2.2.1 v.2.2.2.2.2.1 v.2.2.2.2.2.2.1 v.2.2.2.2.2.2.2 v.2.2.2.2.2.1 (wi w v.1 6) (wr w v.1 5) w) else (j6_feed_125 k68 v.1 v.2.1 v.2.2.1 v.2.2.2.1 v.2.2.2.2.1 v.2.2.2.2.2.1 v.2.2.2.2.2.2.1 v.2.2.2.2.2.2.2 v.2.2.2.2.2.2.1 (wi w v.1 6) (wr w v.1 5) w))))))
theorem wpb6_feed_68 (X : CX) (w0 : Wd) (k68 : Nat × Int32 × Int32 × Int32 × Int32 × Int32 × Int32 × Int32 → Wd → Option (Int32 × Wd)) (hk68 : ∀ (v : Nat × Int32 × Int32 × Int32 × Int32 × Int32 × Int32 × Int32) (w : Wd), WPe rtI X (mX6_feed, 3, 0, 0, w0) 0 0 (k68 v w) 68 [(0, vR v.1), (1, vI v.2.1), (2, vI v.2.2.1), (3, vI v.2.2.2.1), (4, vI v.2.2.2.2.1), (5, vI v.2.2.2.2.2.1), (6, vI v.2.2.2.2.2.2.1), (7, vI v.2.2.2.2.2.2.2)] [] w) (v : Nat × Int32 × Int32 × Int32 × Int32 × Int32 × Int32 × Int32) (w : Wd) : WPe rtI X (mX6_feed, 3, 0, 0, w0) 0 0 (b6_feed_68 k68 v w) 68 [(0, vR v.1), (1, vI v.2.1), (2, vI v.2.2.1), (3, vI v.2.2.2.1), (4, vI v.2.2.2.2.1), (5, vI v.2.2.2.2.2.1), (6, vI v.2.2.2.2.2.2.1), (7, vI v.2.2.2.2.2.2.2)] [] w := by
  unfold b6_feed_68
  refine WPe_iload (pc := 68) 7 (dd dtX6_feed 32 rfl) rfl ?_
  refine WPe_iload_n (pc := 70) 1 (dd dtX6_feed 33 rfl) rfl ?_
  refine WPe_icmp_ge (pc := 71) 142 (dd dtX6_feed 34 rfl) (by decide) (fun h27 => ?_) (fun h27 => ?_)
  · refine WPe_aload_n (pc := 142) 0 (dd dtX6_feed 68 rfl) rfl ?_
    refine WPe_ck fun h28 => ?_
    refine WPe_getI (pc := 143) (t := 6) (C := RX6) (T := TX6) 6 (dd dtX6_feed 69 rfl) (shE h28) rfl (Nat.le_of_ble_eq_true rfl) rfl (bw_mem4 59 rfl rfl) ?_
    exact WPe_ireturn (pc := 146) (dd dtX6_feed 70 rfl) rfl rfl ⟨(Nat.le_of_ble_eq_true rfl), (Nat.le_of_ble_eq_true rfl)⟩
  · refine WPe_aload_n (pc := 74) 0 (dd dtX6_feed 35 rfl) rfl ?_
    refine WPe_ck fun h29 => ?_
    refine WPe_getR (pc := 75) (t := 6) (C := RX6) (T := TX6) 5 (dd dtX6_feed 36 rfl) (shE h29) rfl (Nat.le_of_ble_eq_true rfl) rfl (bw_mem4 58 rfl rfl) ?_
    refine WPe_aload_n (pc := 78) 0 (dd dtX6_feed 37 rfl) rfl ?_
    refine WPe_getI (pc := 79) (t := 6) (C := RX6) (T := TX6) 6 (dd dtX6_feed 38 rfl) (shE h29) rfl (Nat.le_of_ble_eq_true rfl) rfl (bw_mem4 59 rfl rfl) ?_
    refine WPe_iload (pc := 82) 7 (dd dtX6_feed 39 rfl) rfl ?_
    refine WPe_if_ne (pc := 84) 91 (dd dtX6_feed 40 rfl) (by decide) (fun h30 => ?_) (fun h30 => ?_)
    · refine WPe_iload_n (pc := 87) 2 (dd dtX6_feed 41 rfl) rfl ?_
      refine WPe_goto (pc := 88) 125 (dd dtX6_feed 42 rfl) (by decide) ?_
      refine WPe_sub [0, 1, 2, 3, 4, 5, 6, 7] rfl ?_
      exact wpj6_feed_125 X w0 k68 hk68 v.1 v.2.1 v.2.2.1 v.2.2.2.1 v.2.2.2.2.1 v.2.2.2.2.2.1 v.2.2.2.2.2.2.1 v.2.2.2.2.2.2.2 v.2.2.1 (wi w v.1 6) (wr w v.1 5) w
    · refine WPe_iload (pc := 91) 7 (dd dtX6_feed 43 rfl) rfl ?_
      refine WPe_iconst (pc := 93) (1 : Int32) (dd dtX6_feed 44 rfl) (by decide) ?_
      refine WPe_icmp_ne (pc := 94) 101 (dd dtX6_feed 45 rfl) (by decide) (fun h37 => ?_) (fun h37 => ?_)
      · refine WPe_iload_n (pc := 97) 3 (dd dtX6_feed 46 rfl) rfl ?_
        refine WPe_goto (pc := 98) 125 (dd dtX6_feed 47 rfl) (by decide) ?_
        refine WPe_sub [0, 1, 2, 3, 4, 5, 6, 7] rfl ?_
        exact wpj6_feed_125 X w0 k68 hk68 v.1 v.2.1 v.2.2.1 v.2.2.2.1 v.2.2.2.2.1 v.2.2.2.2.2.1 v.2.2.2.2.2.2.1 v.2.2.2.2.2.2.2 v.2.2.2.1 (wi w v.1 6) (wr w v.1 5) w
      · refine WPe_iload (pc := 101) 7 (dd dtX6_feed 48 rfl) rfl ?_
        refine WPe_iconst (pc := 103) (2 : Int32) (dd dtX6_feed 49 rfl) (by decide) ?_
        refine WPe_icmp_ne (pc := 104) 112 (dd dtX6_feed 50 rfl) (by decide) (fun h38 => ?_) (fun h38 => ?_)
        · refine WPe_iload (pc := 107) 4 (dd dtX6_feed 51 rfl) rfl ?_
          refine WPe_goto (pc := 109) 125 (dd dtX6_feed 52 rfl) (by decide) ?_
          refine WPe_sub [0, 1, 2, 3, 4, 5, 6, 7] rfl ?_
          exact wpj6_feed_125 X w0 k68 hk68 v.1 v.2.1 v.2.2.1 v.2.2.2.1 v.2.2.2.2.1 v.2.2.2.2.2.1 v.2.2.2.2.2.2.1 v.2.2.2.2.2.2.2 v.2.2.2.2.1 (wi w v.1 6) (wr w v.1 5) w
        · refine WPe_iload (pc := 112) 7 (dd dtX6_feed 53 rfl) rfl ?_
          refine WPe_iconst (pc := 114) (3 : Int32) (dd dtX6_feed 54 rfl) (by decide) ?_
          refine WPe_icmp_ne (pc := 115) 123 (dd dtX6_feed 55 rfl) (by decide) (fun h39 => ?_) (fun h39 => ?_)
          · refine WPe_iload (pc := 118) 5 (dd dtX6_feed 56 rfl) rfl ?_
            refine WPe_goto (pc := 120) 125 (dd dtX6_feed 57 rfl) (by decide) ?_
            refine WPe_sub [0, 1, 2, 3, 4, 5, 6, 7] rfl ?_
            exact wpj6_feed_125 X w0 k68 hk68 v.1 v.2.1 v.2.2.1 v.2.2.2.1 v.2.2.2.2.1 v.2.2.2.2.2.1 v.2.2.2.2.2.2.1 v.2.2.2.2.2.2.2 v.2.2.2.2.2.1 (wi w v.1 6) (wr w v.1 5) w
          · refine WPe_iload (pc := 123) 6 (dd dtX6_feed 58 rfl) rfl ?_
            refine WPe_sub [0, 1, 2, 3, 4, 5, 6, 7] rfl ?_
            exact wpj6_feed_125 X w0 k68 hk68 v.1 v.2.1 v.2.2.1 v.2.2.2.1 v.2.2.2.2.1 v.2.2.2.2.2.1 v.2.2.2.2.2.2.1 v.2.2.2.2.2.2.2 v.2.2.2.2.2.2.1 (wi w v.1 6) (wr w v.1 5) w
theorem wplb6_feed_68 (X : CX) (w0 : Wd)  : ∀ (n9 : Nat) (v : Nat × Int32 × Int32 × Int32 × Int32 × Int32 × Int32 × Int32) (w : Wd), WPe rtI X (mX6_feed, 3, 0, 0, w0) 0 0 (loopF (b6_feed_68 ) n9 v w) 68 [(0, vR v.1), (1, vI v.2.1), (2, vI v.2.2.1), (3, vI v.2.2.2.1), (4, vI v.2.2.2.2.1), (5, vI v.2.2.2.2.2.1), (6, vI v.2.2.2.2.2.2.1), (7, vI v.2.2.2.2.2.2.2)] [] w :=
  WPe_loop (rt := rtI) (X := X) (M := (mX6_feed, 3, 0, 0, w0)) (fun v : Nat × Int32 × Int32 × Int32 × Int32 × Int32 × Int32 × Int32 => [(0, vR v.1), (1, vI v.2.1), (2, vI v.2.2.1), (3, vI v.2.2.2.1), (4, vI v.2.2.2.2.1), (5, vI v.2.2.2.2.2.1), (6, vI v.2.2.2.2.2.2.1), (7, vI v.2.2.2.2.2.2.2)]) (fun k hk v w => wpb6_feed_68 X w0  k hk v w)
noncomputable def f6_feed (x0 : Nat) (x1 : Int32) (x2 : Int32) (x3 : Int32) (x4 : Int32) (x5 : Int32) (x6 : Int32) (w : Wd) : Option (Int32 × Wd) :=
  (f6_in x1 (1 : Int32) (5 : Int32) w).bind fun z1 => (if z1.1 = (0 : Int32) then (some ((-2 : Int32), z1.2)) else ((f6_isByte x2 z1.2).bind fun z5 => (if z5.1 = (0 : Int32) then (some ((-2 : Int32), z5.2)) else ((f6_isByte x3 z5.2).bind fun z9 => (if z9.1 = (0 : Int32) then (some ((-2 : Int32), z9.2)) else ((f6_isByte x4 z9.2).bind fun z13 => (if z13.1 = (0 : Int32) then (some ((-2 : Int32), z13.2)) else ((f6_isByte x5 z13.2).bind fun z17 => (if z17.1 = (0 : Int32) then (some ((-2 : Int32), z17.2)) else ((f6_isByte x6 z17.2).bind fun z21 => (if z21.1 = (0 : Int32) then (some ((-2 : Int32), z21.2)) else (ck (tg z21.2 x0 = 6) (if ((wi z21.2 x0 6) + x1) ≤ (160 : Int32) then (loopF (b6_feed_68) FU (x0, x1, x2, x3, x4, x5, x6, (0 : Int32)) z21.2) else (some ((-4 : Int32), z21.2)))))))))))))))
theorem wpf6_feed (X : CX) (w0 : Wd) (x0 : Nat) (x1 : Int32) (x2 : Int32) (x3 : Int32) (x4 : Int32) (x5 : Int32) (x6 : Int32) (w : Wd) : WPe rtI X (mX6_feed, 3, 0, 0, w0) 0 0 (f6_feed x0 x1 x2 x3 x4 x5 x6 w) 0 [(0, vR x0), (1, vI x1), (2, vI x2), (3, vI x3), (4, vI x4), (5, vI x5), (6, vI x6)] [] w := by
  unfold f6_feed
  refine WPe_iload_n (pc := 0) 1 (dd dtX6_feed 0 rfl) rfl ?_
  refine WPe_iconst (pc := 1) (1 : Int32) (dd dtX6_feed 1 rfl) (by decide) ?_
  refine WPe_iconst (pc := 2) (5 : Int32) (dd dtX6_feed 2 rfl) (by decide) ?_
  refine WPe_callS (pc := 3) (rtc := rtI) (Mc := mX6_in) (d' := 1) (mc' := 0) (ms' := 0) [vI x1, vI (1 : Int32), vI (5 : Int32)] [] rfl (dd dtX6_feed 3 rfl) (okf6_in x1 (1 : Int32) (5 : Int32) w) moX6_in msX6_in (bw_mem4 14 rfl rfl) rfl (Nat.le_of_ble_eq_true rfl) ⟨(Nat.le_of_ble_eq_true rfl), (Nat.le_of_ble_eq_true rfl)⟩ ⟨(Nat.le_of_ble_eq_true rfl), (Nat.le_of_ble_eq_true rfl)⟩ (fun z1 h2 e3 => ?_)
  refine WPe_st (st2 := [vI z1.1]) rfl ?_
  refine WPe_if_eq (pc := 6) 47 (dd dtX6_feed 4 rfl) (by decide) (fun h4 => ?_) (fun h4 => ?_)
  · refine WPe_bipush (pc := 47) (-2 : Int32) (dd dtX6_feed 20 rfl) (by decide) ?_
    exact WPe_ireturn (pc := 49) (dd dtX6_feed 21 rfl) rfl rfl ⟨(Nat.le_of_ble_eq_true rfl), (Nat.le_of_ble_eq_true rfl)⟩
  · refine WPe_iload_n (pc := 9) 2 (dd dtX6_feed 5 rfl) rfl ?_
    refine WPe_callS (pc := 10) (rtc := rtI) (Mc := mX6_isByte) (d' := 2) (mc' := 0) (ms' := 0) [vI x2] [] rfl (dd dtX6_feed 6 rfl) (okf6_isByte x2 z1.2) moX6_isByte msX6_isByte (bw_mem4 178 rfl rfl) rfl (Nat.le_of_ble_eq_true rfl) ⟨(Nat.le_of_ble_eq_true rfl), (Nat.le_of_ble_eq_true rfl)⟩ ⟨(Nat.le_of_ble_eq_true rfl), (Nat.le_of_ble_eq_true rfl)⟩ (fun z5 h6 e7 => ?_)
    refine WPe_st (st2 := [vI z5.1]) rfl ?_
    refine WPe_if_eq (pc := 13) 47 (dd dtX6_feed 7 rfl) (by decide) (fun h8 => ?_) (fun h8 => ?_)
    · refine WPe_bipush (pc := 47) (-2 : Int32) (dd dtX6_feed 20 rfl) (by decide) ?_
      exact WPe_ireturn (pc := 49) (dd dtX6_feed 21 rfl) rfl rfl ⟨(Nat.le_of_ble_eq_true rfl), (Nat.le_of_ble_eq_true rfl)⟩
    · refine WPe_iload_n (pc := 16) 3 (dd dtX6_feed 8 rfl) rfl ?_
      refine WPe_callS (pc := 17) (rtc := rtI) (Mc := mX6_isByte) (d' := 2) (mc' := 0) (ms' := 0) [vI x3] [] rfl (dd dtX6_feed 9 rfl) (okf6_isByte x3 z5.2) moX6_isByte msX6_isByte (bw_mem4 178 rfl rfl) rfl (Nat.le_of_ble_eq_true rfl) ⟨(Nat.le_of_ble_eq_true rfl), (Nat.le_of_ble_eq_true rfl)⟩ ⟨(Nat.le_of_ble_eq_true rfl), (Nat.le_of_ble_eq_true rfl)⟩ (fun z9 h10 e11 => ?_)
      refine WPe_st (st2 := [vI z9.1]) rfl ?_
      refine WPe_if_eq (pc := 20) 47 (dd dtX6_feed 10 rfl) (by decide) (fun h12 => ?_) (fun h12 => ?_)
      · refine WPe_bipush (pc := 47) (-2 : Int32) (dd dtX6_feed 20 rfl) (by decide) ?_
        exact WPe_ireturn (pc := 49) (dd dtX6_feed 21 rfl) rfl rfl ⟨(Nat.le_of_ble_eq_true rfl), (Nat.le_of_ble_eq_true rfl)⟩
      · refine WPe_iload (pc := 23) 4 (dd dtX6_feed 11 rfl) rfl ?_
        refine WPe_callS (pc := 25) (rtc := rtI) (Mc := mX6_isByte) (d' := 2) (mc' := 0) (ms' := 0) [vI x4] [] rfl (dd dtX6_feed 12 rfl) (okf6_isByte x4 z9.2) moX6_isByte msX6_isByte (bw_mem4 178 rfl rfl) rfl (Nat.le_of_ble_eq_true rfl) ⟨(Nat.le_of_ble_eq_true rfl), (Nat.le_of_ble_eq_true rfl)⟩ ⟨(Nat.le_of_ble_eq_true rfl), (Nat.le_of_ble_eq_true rfl)⟩ (fun z13 h14 e15 => ?_)
        refine WPe_st (st2 := [vI z13.1]) rfl ?_
        refine WPe_if_eq (pc := 28) 47 (dd dtX6_feed 13 rfl) (by decide) (fun h16 => ?_) (fun h16 => ?_)
        · refine WPe_bipush (pc := 47) (-2 : Int32) (dd dtX6_feed 20 rfl) (by decide) ?_
          exact WPe_ireturn (pc := 49) (dd dtX6_feed 21 rfl) rfl rfl ⟨(Nat.le_of_ble_eq_true rfl), (Nat.le_of_ble_eq_true rfl)⟩
        · refine WPe_iload (pc := 31) 5 (dd dtX6_feed 14 rfl) rfl ?_
          refine WPe_callS (pc := 33) (rtc := rtI) (Mc := mX6_isByte) (d' := 2) (mc' := 0) (ms' := 0) [vI x5] [] rfl (dd dtX6_feed 15 rfl) (okf6_isByte x5 z13.2) moX6_isByte msX6_isByte (bw_mem4 178 rfl rfl) rfl (Nat.le_of_ble_eq_true rfl) ⟨(Nat.le_of_ble_eq_true rfl), (Nat.le_of_ble_eq_true rfl)⟩ ⟨(Nat.le_of_ble_eq_true rfl), (Nat.le_of_ble_eq_true rfl)⟩ (fun z17 h18 e19 => ?_)
          refine WPe_st (st2 := [vI z17.1]) rfl ?_
          refine WPe_if_eq (pc := 36) 47 (dd dtX6_feed 16 rfl) (by decide) (fun h20 => ?_) (fun h20 => ?_)
          · refine WPe_bipush (pc := 47) (-2 : Int32) (dd dtX6_feed 20 rfl) (by decide) ?_
            exact WPe_ireturn (pc := 49) (dd dtX6_feed 21 rfl) rfl rfl ⟨(Nat.le_of_ble_eq_true rfl), (Nat.le_of_ble_eq_true rfl)⟩
          · refine WPe_iload (pc := 39) 6 (dd dtX6_feed 17 rfl) rfl ?_
            refine WPe_callS (pc := 41) (rtc := rtI) (Mc := mX6_isByte) (d' := 2) (mc' := 0) (ms' := 0) [vI x6] [] rfl (dd dtX6_feed 18 rfl) (okf6_isByte x6 z17.2) moX6_isByte msX6_isByte (bw_mem4 178 rfl rfl) rfl (Nat.le_of_ble_eq_true rfl) ⟨(Nat.le_of_ble_eq_true rfl), (Nat.le_of_ble_eq_true rfl)⟩ ⟨(Nat.le_of_ble_eq_true rfl), (Nat.le_of_ble_eq_true rfl)⟩ (fun z21 h22 e23 => ?_)
            refine WPe_st (st2 := [vI z21.1]) rfl ?_
            refine WPe_if_ne (pc := 44) 50 (dd dtX6_feed 19 rfl) (by decide) (fun h24 => ?_) (fun h24 => ?_)
            · refine WPe_bipush (pc := 47) (-2 : Int32) (dd dtX6_feed 20 rfl) (by decide) ?_
              exact WPe_ireturn (pc := 49) (dd dtX6_feed 21 rfl) rfl rfl ⟨(Nat.le_of_ble_eq_true rfl), (Nat.le_of_ble_eq_true rfl)⟩
            · refine WPe_aload_n (pc := 50) 0 (dd dtX6_feed 22 rfl) rfl ?_
              refine WPe_ck fun h25 => ?_
              refine WPe_getI (pc := 51) (t := 6) (C := RX6) (T := TX6) 6 (dd dtX6_feed 23 rfl) (shE h25) rfl (Nat.le_of_ble_eq_true rfl) rfl (bw_mem4 59 rfl rfl) ?_
              refine WPe_iload_n (pc := 54) 1 (dd dtX6_feed 24 rfl) rfl ?_
              refine WPe_iadd (pc := 55) (dd dtX6_feed 25 rfl) ?_
              refine WPe_sipush (pc := 56) (160 : Int32) (dd dtX6_feed 26 rfl) (by decide) ?_
              refine WPe_icmp_le (pc := 59) 65 (dd dtX6_feed 27 rfl) (by decide) (fun h26 => ?_) (fun h26 => ?_)
              · refine WPe_iconst (pc := 65) (0 : Int32) (dd dtX6_feed 30 rfl) (by decide) ?_
                refine WPe_istore (pc := 66) (ls' := [(7, vI (0 : Int32)), (0, vR x0), (1, vI x1), (2, vI x2), (3, vI x3), (4, vI x4), (5, vI x5), (6, vI x6)]) (dd dtX6_feed 31 rfl) (Nat.le_of_ble_eq_true rfl) rfl ?_
                refine WPe_sub [1, 2, 3, 4, 5, 6, 7, 0] rfl ?_
                exact wplb6_feed_68 X w0  FU _ _
              · refine WPe_bipush (pc := 62) (-4 : Int32) (dd dtX6_feed 28 rfl) (by decide) ?_
                exact WPe_ireturn (pc := 64) (dd dtX6_feed 29 rfl) rfl rfl ⟨(Nat.le_of_ble_eq_true rfl), (Nat.le_of_ble_eq_true rfl)⟩
theorem okf6_feed (x0 : Nat) (x1 : Int32) (x2 : Int32) (x3 : Int32) (x4 : Int32) (x5 : Int32) (x6 : Int32) (w : Wd) : ∀ z, f6_feed x0 x1 x2 x3 x4 x5 x6 w = some z → OkM mX6_feed 3 0 0 [vR x0, vI x1, vI x2, vI x3, vI x4, vI x5, vI x6] w (rtI z.1) z.2 :=
  OkM.of (rt := rtI) moX6_feed (Nat.le_of_ble_eq_true rfl) (fun X => wpf6_feed X w x0 x1 x2 x3 x4 x5 x6 w)
def tbX6_two : List (Nat × Instr × Nat) := [(0, .iload_n 0, 1), (1, .tableswitch 101 11 17 #[43, 57, 101, 71, 82, 93, 97], 43), (44, .iload_n 1, 1), (45, .ifCond .ne 7, 3), (48, .iload_n 2, 1), (49, .ifCond .eq 7, 3), (52, .iconst 1, 1), (53, .goto 4, 3), (56, .iconst 0, 1), (57, .ireturn, 1), (58, .iload_n 1, 1), (59, .ifCond .eq 11, 3), (62, .iload_n 2, 1), (63, .ifCond .eq 7, 3), (66, .iconst 1, 1), (67, .goto 4, 3), (70, .iconst 0, 1), (71, .ireturn, 1), (72, .iload_n 1, 1), (73, .iload_n 2, 1), (74, .if_icmp .ge 7, 3), (77, .iconst 1, 1), (78, .goto 4, 3), (81, .iconst 0, 1), (82, .ireturn, 1), (83, .iload_n 1, 1), (84, .iload_n 2, 1), (85, .if_icmp .ne 7, 3), (88, .iconst 1, 1), (89, .goto 4, 3), (92, .iconst 0, 1), (93, .ireturn, 1), (94, .iload_n 1, 1), (95, .iload_n 2, 1), (96, .iadd, 1), (97, .ireturn, 1), (98, .iload_n 1, 1), (99, .iload_n 2, 1), (100, .isub, 1), (101, .ireturn, 1), (102, .iload_n 1, 1), (103, .iload_n 2, 1), (104, .imul, 1), (105, .ireturn, 1)]
set_option maxRecDepth 20000 in
theorem dtX6_two : ∀ x ∈ tbX6_two, decode cX6_two x.1 = .ok x.2 := by decide +kernel
noncomputable def f6_two (x0 : Int32) (x1 : Int32) (x2 : Int32) (w : Wd) : Option (Int32 × Wd) :=
  if x0 = (11 : Int32) then (if x1 = (0 : Int32) then (if x2 = (0 : Int32) then (some ((0 : Int32), w)) else (some ((1 : Int32), w))) else (some ((1 : Int32), w))) else (if x0 = (12 : Int32) then (if x1 = (0 : Int32) then (some ((0 : Int32), w)) else (if x2 = (0 : Int32) then (some ((0 : Int32), w)) else (some ((1 : Int32), w)))) else (if x0 = (14 : Int32) then (if x2 ≤ x1 then (some ((0 : Int32), w)) else (some ((1 : Int32), w))) else (if x0 = (15 : Int32) then (if x1 = x2 then (some ((1 : Int32), w)) else (some ((0 : Int32), w))) else (if x0 = (16 : Int32) then (some ((x1 + x2), w)) else (if x0 = (17 : Int32) then (some ((x1 - x2), w)) else (some ((x1 * x2), w)))))))
theorem wpf6_two (X : CX) (w0 : Wd) (x0 : Int32) (x1 : Int32) (x2 : Int32) (w : Wd) : WPe rtI X (mX6_two, 1, 0, 0, w0) 0 0 (f6_two x0 x1 x2 w) 0 [(0, vI x0), (1, vI x1), (2, vI x2)] [] w := by
  unfold f6_two
  refine WPe_iload_n (pc := 0) 0 (dd dtX6_two 0 rfl) rfl ?_
  refine WPe_ite (fun h1 => ?_) (fun h1 => ?_)
  · refine WPe_tabIn (pc := 1) (11 : Int32) 44 (dd dtX6_two 1 rfl) h1 (by decide) (by decide) rfl (by decide) ?_
    refine WPe_iload_n (pc := 44) 1 (dd dtX6_two 2 rfl) rfl ?_
    refine WPe_if_ne (pc := 45) 52 (dd dtX6_two 3 rfl) (by decide) (fun h2 => ?_) (fun h2 => ?_)
    · refine WPe_iload_n (pc := 48) 2 (dd dtX6_two 4 rfl) rfl ?_
      refine WPe_if_eq (pc := 49) 56 (dd dtX6_two 5 rfl) (by decide) (fun h3 => ?_) (fun h3 => ?_)
      · refine WPe_iconst (pc := 56) (0 : Int32) (dd dtX6_two 8 rfl) (by decide) ?_
        exact WPe_ireturn (pc := 57) (dd dtX6_two 9 rfl) rfl rfl ⟨(Nat.le_of_ble_eq_true rfl), (Nat.le_of_ble_eq_true rfl)⟩
      · refine WPe_iconst (pc := 52) (1 : Int32) (dd dtX6_two 6 rfl) (by decide) ?_
        refine WPe_goto (pc := 53) 57 (dd dtX6_two 7 rfl) (by decide) ?_
        exact WPe_ireturn (pc := 57) (dd dtX6_two 9 rfl) rfl rfl ⟨(Nat.le_of_ble_eq_true rfl), (Nat.le_of_ble_eq_true rfl)⟩
    · refine WPe_iconst (pc := 52) (1 : Int32) (dd dtX6_two 6 rfl) (by decide) ?_
      refine WPe_goto (pc := 53) 57 (dd dtX6_two 7 rfl) (by decide) ?_
      exact WPe_ireturn (pc := 57) (dd dtX6_two 9 rfl) rfl rfl ⟨(Nat.le_of_ble_eq_true rfl), (Nat.le_of_ble_eq_true rfl)⟩
  · refine WPe_ite (fun h4 => ?_) (fun h4 => ?_)
    · refine WPe_tabIn (pc := 1) (12 : Int32) 58 (dd dtX6_two 1 rfl) h4 (by decide) (by decide) rfl (by decide) ?_
      refine WPe_iload_n (pc := 58) 1 (dd dtX6_two 10 rfl) rfl ?_
      refine WPe_if_eq (pc := 59) 70 (dd dtX6_two 11 rfl) (by decide) (fun h5 => ?_) (fun h5 => ?_)
      · refine WPe_iconst (pc := 70) (0 : Int32) (dd dtX6_two 16 rfl) (by decide) ?_
        exact WPe_ireturn (pc := 71) (dd dtX6_two 17 rfl) rfl rfl ⟨(Nat.le_of_ble_eq_true rfl), (Nat.le_of_ble_eq_true rfl)⟩
      · refine WPe_iload_n (pc := 62) 2 (dd dtX6_two 12 rfl) rfl ?_
        refine WPe_if_eq (pc := 63) 70 (dd dtX6_two 13 rfl) (by decide) (fun h6 => ?_) (fun h6 => ?_)
        · refine WPe_iconst (pc := 70) (0 : Int32) (dd dtX6_two 16 rfl) (by decide) ?_
          exact WPe_ireturn (pc := 71) (dd dtX6_two 17 rfl) rfl rfl ⟨(Nat.le_of_ble_eq_true rfl), (Nat.le_of_ble_eq_true rfl)⟩
        · refine WPe_iconst (pc := 66) (1 : Int32) (dd dtX6_two 14 rfl) (by decide) ?_
          refine WPe_goto (pc := 67) 71 (dd dtX6_two 15 rfl) (by decide) ?_
          exact WPe_ireturn (pc := 71) (dd dtX6_two 17 rfl) rfl rfl ⟨(Nat.le_of_ble_eq_true rfl), (Nat.le_of_ble_eq_true rfl)⟩
    · refine WPe_ite (fun h7 => ?_) (fun h7 => ?_)
      · refine WPe_tabIn (pc := 1) (14 : Int32) 72 (dd dtX6_two 1 rfl) h7 (by decide) (by decide) rfl (by decide) ?_
        refine WPe_iload_n (pc := 72) 1 (dd dtX6_two 18 rfl) rfl ?_
        refine WPe_iload_n (pc := 73) 2 (dd dtX6_two 19 rfl) rfl ?_
        refine WPe_icmp_ge (pc := 74) 81 (dd dtX6_two 20 rfl) (by decide) (fun h8 => ?_) (fun h8 => ?_)
        · refine WPe_iconst (pc := 81) (0 : Int32) (dd dtX6_two 23 rfl) (by decide) ?_
          exact WPe_ireturn (pc := 82) (dd dtX6_two 24 rfl) rfl rfl ⟨(Nat.le_of_ble_eq_true rfl), (Nat.le_of_ble_eq_true rfl)⟩
        · refine WPe_iconst (pc := 77) (1 : Int32) (dd dtX6_two 21 rfl) (by decide) ?_
          refine WPe_goto (pc := 78) 82 (dd dtX6_two 22 rfl) (by decide) ?_
          exact WPe_ireturn (pc := 82) (dd dtX6_two 24 rfl) rfl rfl ⟨(Nat.le_of_ble_eq_true rfl), (Nat.le_of_ble_eq_true rfl)⟩
      · refine WPe_ite (fun h9 => ?_) (fun h9 => ?_)
        · refine WPe_tabIn (pc := 1) (15 : Int32) 83 (dd dtX6_two 1 rfl) h9 (by decide) (by decide) rfl (by decide) ?_
          refine WPe_iload_n (pc := 83) 1 (dd dtX6_two 25 rfl) rfl ?_
          refine WPe_iload_n (pc := 84) 2 (dd dtX6_two 26 rfl) rfl ?_
          refine WPe_icmp_ne (pc := 85) 92 (dd dtX6_two 27 rfl) (by decide) (fun h10 => ?_) (fun h10 => ?_)
          · refine WPe_iconst (pc := 88) (1 : Int32) (dd dtX6_two 28 rfl) (by decide) ?_
            refine WPe_goto (pc := 89) 93 (dd dtX6_two 29 rfl) (by decide) ?_
            exact WPe_ireturn (pc := 93) (dd dtX6_two 31 rfl) rfl rfl ⟨(Nat.le_of_ble_eq_true rfl), (Nat.le_of_ble_eq_true rfl)⟩
          · refine WPe_iconst (pc := 92) (0 : Int32) (dd dtX6_two 30 rfl) (by decide) ?_
            exact WPe_ireturn (pc := 93) (dd dtX6_two 31 rfl) rfl rfl ⟨(Nat.le_of_ble_eq_true rfl), (Nat.le_of_ble_eq_true rfl)⟩
        · refine WPe_ite (fun h11 => ?_) (fun h11 => ?_)
          · refine WPe_tabIn (pc := 1) (16 : Int32) 94 (dd dtX6_two 1 rfl) h11 (by decide) (by decide) rfl (by decide) ?_
            refine WPe_iload_n (pc := 94) 1 (dd dtX6_two 32 rfl) rfl ?_
            refine WPe_iload_n (pc := 95) 2 (dd dtX6_two 33 rfl) rfl ?_
            refine WPe_iadd (pc := 96) (dd dtX6_two 34 rfl) ?_
            exact WPe_ireturn (pc := 97) (dd dtX6_two 35 rfl) rfl rfl ⟨(Nat.le_of_ble_eq_true rfl), (Nat.le_of_ble_eq_true rfl)⟩
          · refine WPe_ite (fun h12 => ?_) (fun h12 => ?_)
            · refine WPe_tabIn (pc := 1) (17 : Int32) 98 (dd dtX6_two 1 rfl) h12 (by decide) (by decide) rfl (by decide) ?_
              refine WPe_iload_n (pc := 98) 1 (dd dtX6_two 36 rfl) rfl ?_
              refine WPe_iload_n (pc := 99) 2 (dd dtX6_two 37 rfl) rfl ?_
              refine WPe_isub (pc := 100) (dd dtX6_two 38 rfl) ?_
              exact WPe_ireturn (pc := 101) (dd dtX6_two 39 rfl) rfl rfl ⟨(Nat.le_of_ble_eq_true rfl), (Nat.le_of_ble_eq_true rfl)⟩
            · refine WPe_tabOut (pc := 1) 102 (dd dtX6_two 1 rfl) (fun j hj => ?_) (by decide) ?_
              · match j, hj with
                | 0, _ => exact Or.inr (tneq h1 (by decide))
                | 1, _ => exact Or.inr (tneq h4 (by decide))
                | 2, _ => exact Or.inl rfl
                | 3, _ => exact Or.inr (tneq h7 (by decide))
                | 4, _ => exact Or.inr (tneq h9 (by decide))
                | 5, _ => exact Or.inr (tneq h11 (by decide))
                | 6, _ => exact Or.inr (tneq h12 (by decide))
                | j + 7, h => exact absurd h (by omega)
              refine WPe_iload_n (pc := 102) 1 (dd dtX6_two 40 rfl) rfl ?_
              refine WPe_iload_n (pc := 103) 2 (dd dtX6_two 41 rfl) rfl ?_
              refine WPe_imul (pc := 104) (dd dtX6_two 42 rfl) ?_
              exact WPe_ireturn (pc := 105) (dd dtX6_two 43 rfl) rfl rfl ⟨(Nat.le_of_ble_eq_true rfl), (Nat.le_of_ble_eq_true rfl)⟩
theorem okf6_two (x0 : Int32) (x1 : Int32) (x2 : Int32) (w : Wd) : ∀ z, f6_two x0 x1 x2 w = some z → OkM mX6_two 1 0 0 [vI x0, vI x1, vI x2] w (rtI z.1) z.2 :=
  OkM.of (rt := rtI) moX6_two (Nat.le_of_ble_eq_true rfl) (fun X => wpf6_two X w x0 x1 x2 w)
def tbX6_says : List (Nat × Instr × Nat) := [(0, .iconst 0, 1), (1, .istore_n 2, 1), (2, .aload_n 0, 1), (3, .getfield 28, 3), (6, .iconst 4, 1), (7, .aload_n 0, 1), (8, .getfield 92, 3), (11, .imul, 1), (12, .iload_n 1, 1), (13, .iadd, 1), (14, .iaload, 1), (15, .istore_n 3, 1), (16, .iload_n 3, 1), (17, .aload_n 0, 1), (18, .getfield 28, 3), (21, .iconst 4, 1), (22, .aload_n 0, 1), (23, .getfield 92, 3), (26, .imul, 1), (27, .iload_n 1, 1), (28, .iadd, 1), (29, .iconst 1, 1), (30, .iadd, 1), (31, .iaload, 1), (32, .if_icmp .ge 165, 3), (35, .aload_n 0, 1), (36, .getfield 25, 3), (39, .sipush 200, 3), (42, .aload_n 0, 1), (43, .getfield 92, 3), (46, .imul, 1), (47, .iload_n 3, 1), (48, .iadd, 1), (49, .iaload, 1), (50, .istore 4, 2), (52, .iload 4, 2), (54, .ldc 140, 2), (56, .if_icmp .ge 10, 3), (59, .iload 4, 2), (61, .bipush 11, 2), (63, .if_icmp .ge 37, 3), (66, .aload_n 0, 1), (67, .getfield 55, 3), (70, .iload_n 2, 1), (71, .iload 4, 2), (73, .bipush 11, 2), (75, .if_icmp .ge 13, 3), (78, .aload_n 0, 1), (79, .getfield 58, 3), (82, .iload 4, 2), (84, .iaload, 1), (85, .goto 8, 3), (88, .iload 4, 2), (90, .ldc 140, 2), (92, .isub, 1), (93, .iastore, 1), (94, .iinc 2 1, 3), (97, .goto 94, 3), (100, .iload 4, 2), (102, .bipush 13, 2), (104, .if_icmp .ne 30, 3), (107, .aload_n 0, 1), (108, .getfield 55, 3), (111, .iload_n 2, 1), (112, .iconst 1, 1), (113, .isub, 1), (114, .aload_n 0, 1), (115, .getfield 55, 3), (118, .iload_n 2, 1), (119, .iconst 1, 1), (120, .isub, 1), (121, .iaload, 1), (122, .ifCond .ne 7, 3), (125, .iconst 1, 1), (126, .goto 4, 3), (129, .iconst 0, 1), (130, .iastore, 1), (131, .goto 60, 3), (134, .iload 4, 2), (136, .bipush 19, 2), (138, .if_icmp .ne 23, 3), (141, .aload_n 0, 1), (142, .getfield 55, 3), (145, .iload_n 2, 1), (146, .iconst 1, 1), (147, .isub, 1), (148, .aload_n 0, 1), (149, .getfield 55, 3), (152, .iload_n 2, 1), (153, .iconst 1, 1), (154, .isub, 1), (155, .iaload, 1), (156, .ineg, 1), (157, .iastore, 1), (158, .goto 33, 3), (161, .iinc 2 (-1), 3), (164, .aload_n 0, 1), (165, .getfield 55, 3), (168, .iload_n 2, 1), (169, .iconst 1, 1), (170, .isub, 1), (171, .iload 4, 2), (173, .aload_n 0, 1), (174, .getfield 55, 3), (177, .iload_n 2, 1), (178, .iconst 1, 1), (179, .isub, 1), (180, .iaload, 1), (181, .aload_n 0, 1), (182, .getfield 55, 3), (185, .iload_n 2, 1), (186, .iaload, 1), (187, .invokestatic 154, 3), (190, .iastore, 1), (191, .iinc 3 1, 3), (194, .goto (-178), 3), (197, .aload_n 0, 1), (198, .getfield 55, 3), (201, .iconst 0, 1), (202, .iaload, 1), (203, .ireturn, 1)]
set_option maxRecDepth 20000 in
theorem dtX6_says : ∀ x ∈ tbX6_says, decode cX6_says x.1 = .ok x.2 := by decide +kernel
noncomputable def j6_says_191 (k16 : Nat × Int32 × Int32 × Int32 → Wd → Option (Int32 × Wd)) (x0 : Nat) (x1 : Int32) (x2 : Int32) (x3 : Int32) (w : Wd) : Option (Int32 × Wd) :=
  k16 (x0, x1, x2, (x3 + (1 : Int32))) w
theorem wpj6_says_191 (X : CX) (w0 : Wd) (k16 : Nat × Int32 × Int32 × Int32 → Wd → Option (Int32 × Wd)) (hk16 : ∀ (v : Nat × Int32 × Int32 × Int32) (w : Wd), WPe rtI X (mX6_says, 2, 0, 0, w0) 0 0 (k16 v w) 16 [(0, vR v.1), (1, vI v.2.1), (2, vI v.2.2.1), (3, vI v.2.2.2)] [] w) (x0 : Nat) (x1 : Int32) (x2 : Int32) (x3 : Int32) (w : Wd) : WPe rtI X (mX6_says, 2, 0, 0, w0) 0 0 (j6_says_191 k16 x0 x1 x2 x3 w) 191 [(0, vR x0), (1, vI x1), (2, vI x2), (3, vI x3)] [] w := by
  unfold j6_says_191
  refine WPe_iinc (pc := 191) (ls' := [(3, vI (x3 + (1 : Int32))), (0, vR x0), (1, vI x1), (2, vI x2)]) 3 (x3 + (1 : Int32)) (dd dtX6_says 114 rfl) rfl (congrArg (HAdd.hAdd _) (by decide : Int32.ofInt (1) = (1 : Int32))) (Nat.le_of_ble_eq_true rfl) rfl ?_
  refine WPe_goto (pc := 194) 16 (dd dtX6_says 115 rfl) (by decide) ?_
  refine WPe_sub [1, 2, 3, 0] rfl ?_
  exact hk16 (x0, x1, x2, (x3 + (1 : Int32))) w
noncomputable def j6_says_93 (k16 : Nat × Int32 × Int32 × Int32 → Wd → Option (Int32 × Wd)) (x0 : Nat) (x1 : Int32) (x2 : Int32) (x3 : Int32) (s0 : Int32) (s1 : Int32) (s2 : Nat) (w : Wd) : Option (Int32 × Wd) :=
  ck (tg w s2 = 20 ∧ vp_in s1 (ln w s2)) (lw (sI w s2 (s1).toNatClampNeg s0) fun w12 => (j6_says_191 k16 x0 x1 (x2 + (1 : Int32)) x3 w12))
theorem wpj6_says_93 (X : CX) (w0 : Wd) (k16 : Nat × Int32 × Int32 × Int32 → Wd → Option (Int32 × Wd)) (hk16 : ∀ (v : Nat × Int32 × Int32 × Int32) (w : Wd), WPe rtI X (mX6_says, 2, 0, 0, w0) 0 0 (k16 v w) 16 [(0, vR v.1), (1, vI v.2.1), (2, vI v.2.2.1), (3, vI v.2.2.2)] [] w) (x0 : Nat) (x1 : Int32) (x2 : Int32) (x3 : Int32) (s0 : Int32) (s1 : Int32) (s2 : Nat) (w : Wd) : WPe rtI X (mX6_says, 2, 0, 0, w0) 0 0 (j6_says_93 k16 x0 x1 x2 x3 s0 s1 s2 w) 93 [(0, vR x0), (1, vI x1), (2, vI x2), (3, vI x3)] [vI s0, vI s1, vR s2] w := by
  unfold j6_says_93
  refine WPe_ck fun h11 => ?_
  refine WPe_iast (pc := 93) (dd dtX6_says 55 rfl) (shE h11.1) h11.2 ?_
  refine WPe_lw fun w12 e13 => ?_
  refine WPe_iinc (pc := 94) (ls' := [(2, vI (x2 + (1 : Int32))), (0, vR x0), (1, vI x1), (3, vI x3)]) 2 (x2 + (1 : Int32)) (dd dtX6_says 56 rfl) rfl (congrArg (HAdd.hAdd _) (by decide : Int32.ofInt (1) = (1 : Int32))) (Nat.le_of_ble_eq_true rfl) rfl ?_
  refine WPe_goto (pc := 97) 191 (dd dtX6_says 57 rfl) (by decide) ?_
  refine WPe_sub [1, 2, 0, 3] rfl ?_
  exact wpj6_says_191 X w0 k16 hk16 x0 x1 (x2 + (1 : Int32)) x3 w12
noncomputable def j6_says_66 (k16 : Nat × Int32 × Int32 × Int32 → Wd → Option (Int32 × Wd)) (x0 : Nat) (x1 : Int32) (x2 : Int32) (x3 : Int32) (x4 : Int32) (w : Wd) : Option (Int32 × Wd) :=
  ck (tg w x0 = 6) (if (11 : Int32) ≤ x4 then (j6_says_93 k16 x0 x1 x2 x3 (x4 - (100000 : Int32)) x2 (wr w x0 27) w) else (ck (tg w (wr w x0 28) = 20 ∧ vp_in x4 (ln w (wr w x0 28))) (j6_says_93 k16 x0 x1 x2 x3 (wi w (wr w x0 28) (x4).toNatClampNeg) x2 (wr w x0 27) w)))
theorem wpj6_says_66 (X : CX) (w0 : Wd) (k16 : Nat × Int32 × Int32 × Int32 → Wd → Option (Int32 × Wd)) (hk16 : ∀ (v : Nat × Int32 × Int32 × Int32) (w : Wd), WPe rtI X (mX6_says, 2, 0, 0, w0) 0 0 (k16 v w) 16 [(0, vR v.1), (1, vI v.2.1), (2, vI v.2.2.1), (3, vI v.2.2.2)] [] w) (x0 : Nat) (x1 : Int32) (x2 : Int32) (x3 : Int32) (x4 : Int32) (w : Wd) : WPe rtI X (mX6_says, 2, 0, 0, w0) 0 0 (j6_says_66 k16 x0 x1 x2 x3 x4 w) 66 [(0, vR x0), (1, vI x1), (2, vI x2), (3, vI x3), (4, vI x4)] [] w := by
  unfold j6_says_66
  refine WPe_aload_n (pc := 66) 0 (dd dtX6_says 41 rfl) rfl ?_
  refine WPe_ck fun h9 => ?_
  refine WPe_getR (pc := 67) (t := 6) (C := RX6) (T := TX6) 27 (dd dtX6_says 42 rfl) (shE h9) rfl (Nat.le_of_ble_eq_true rfl) rfl (bw_mem4 80 rfl rfl) ?_
  refine WPe_iload_n (pc := 70) 2 (dd dtX6_says 43 rfl) rfl ?_
  refine WPe_iload (pc := 71) 4 (dd dtX6_says 44 rfl) rfl ?_
  refine WPe_bipush (pc := 73) (11 : Int32) (dd dtX6_says 45 rfl) (by decide) ?_
  refine WPe_icmp_ge (pc := 75) 88 (dd dtX6_says 46 rfl) (by decide) (fun h10 => ?_) (fun h10 => ?_)
  · refine WPe_iload (pc := 88) 4 (dd dtX6_says 52 rfl) rfl ?_
    refine WPe_ldc (pc := 90) (v := (100000 : Int32)) (dd dtX6_says 53 rfl) (bw_mem4 25 rfl rfl) ?_
    refine WPe_isub (pc := 92) (dd dtX6_says 54 rfl) ?_
    refine WPe_sub [0, 1, 2, 3] rfl ?_
    exact wpj6_says_93 X w0 k16 hk16 x0 x1 x2 x3 (x4 - (100000 : Int32)) x2 (wr w x0 27) w
  · refine WPe_aload_n (pc := 78) 0 (dd dtX6_says 47 rfl) rfl ?_
    refine WPe_getR (pc := 79) (t := 6) (C := RX6) (T := TX6) 28 (dd dtX6_says 48 rfl) (shE h9) rfl (Nat.le_of_ble_eq_true rfl) rfl (bw_mem4 81 rfl rfl) ?_
    refine WPe_iload (pc := 82) 4 (dd dtX6_says 49 rfl) rfl ?_
    refine WPe_ck fun h14 => ?_
    refine WPe_iald (pc := 84) (dd dtX6_says 50 rfl) (shE h14.1) h14.2 ?_
    refine WPe_goto (pc := 85) 93 (dd dtX6_says 51 rfl) (by decide) ?_
    refine WPe_sub [0, 1, 2, 3] rfl ?_
    exact wpj6_says_93 X w0 k16 hk16 x0 x1 x2 x3 (wi w (wr w x0 28) (x4).toNatClampNeg) x2 (wr w x0 27) w
noncomputable def j6_says_130 (k16 : Nat × Int32 × Int32 × Int32 → Wd → Option (Int32 × Wd)) (x0 : Nat) (x1 : Int32) (x2 : Int32) (x3 : Int32) (s0 : Int32) (s1 : Int32) (s2 : Nat) (w : Wd) : Option (Int32 × Wd) :=
  ck (tg w s2 = 20 ∧ vp_in s1 (ln w s2)) (lw (sI w s2 (s1).toNatClampNeg s0) fun w20 => (j6_says_191 k16 x0 x1 x2 x3 w20))
theorem wpj6_says_130 (X : CX) (w0 : Wd) (k16 : Nat × Int32 × Int32 × Int32 → Wd → Option (Int32 × Wd)) (hk16 : ∀ (v : Nat × Int32 × Int32 × Int32) (w : Wd), WPe rtI X (mX6_says, 2, 0, 0, w0) 0 0 (k16 v w) 16 [(0, vR v.1), (1, vI v.2.1), (2, vI v.2.2.1), (3, vI v.2.2.2)] [] w) (x0 : Nat) (x1 : Int32) (x2 : Int32) (x3 : Int32) (s0 : Int32) (s1 : Int32) (s2 : Nat) (w : Wd) : WPe rtI X (mX6_says, 2, 0, 0, w0) 0 0 (j6_says_130 k16 x0 x1 x2 x3 s0 s1 s2 w) 130 [(0, vR x0), (1, vI x1), (2, vI x2), (3, vI x3)] [vI s0, vI s1, vR s2] w := by
  unfold j6_says_130
  refine WPe_ck fun h19 => ?_
  refine WPe_iast (pc := 130) (dd dtX6_says 76 rfl) (shE h19.1) h19.2 ?_
  refine WPe_lw fun w20 e21 => ?_
  refine WPe_goto (pc := 131) 191 (dd dtX6_says 77 rfl) (by decide) ?_
  refine WPe_sub [0, 1, 2, 3] rfl ?_
  exact wpj6_says_191 X w0 k16 hk16 x0 x1 x2 x3 w20
noncomputable def b6_says_16 (k16 : Nat × Int32 × Int32 × Int32 → Wd → Option (Int32 × Wd)) (v : Nat × Int32 × Int32 × Int32) (w : Wd) : Option (Int32 × Wd) :=
  ck (tg w v.1 = 6) (ck (tg w (wr w v.1 8) = 20 ∧ vp_in ((((4 : Int32) * (wi w v.1 10)) + v.2.1) + (1 : Int32)) (ln w (wr w v.1 8))) (if (wi w (wr w v.1 8) (((((4 : Int32) * (wi w v.1 10)) + v.2.1) + (1 : Int32))).toNatClampNeg) ≤ v.2.2.2 then (ck (tg w (wr w v.1 27) = 20 ∧ vp_in (0 : Int32) (ln w (wr w v.1 27))) (some ((wi w (wr w v.1 27) ((0 : Int32)).toNatClampNeg), w))) else (ck (tg w (wr w v.1 7) = 20 ∧ vp_in (((200 : Int32) * (wi w v.1 10)) + v.2.2.2) (ln w (wr w v.1 7))) (if (100000 : Int32) ≤ (wi w (wr w v.1 7) ((((200 : Int32) * (wi w v.1 10)) + v.2.2.2)).toNatClampNeg) then (j6_says_66 k16 v.1 v.2.1 v.2.2.1 v.2.2.2 (wi w (wr w v.1 7) ((((200 : Int32) * (wi w v.1 10)) + v.2.2.2)).toNatClampNeg) w) else (if (11 : Int32) ≤ (wi w (wr w v.1 7) ((((200 : Int32) * (wi w v.1 10)) + v.2.2.2)).toNatClampNeg) then (if (wi w (wr w v.1 7) ((((200 : Int32) * (wi w v.1 10)) + v.2.2.2)).toNatClampNeg) = (13 : Int32) then (ck (tg w (wr w v.1 27) = 20 ∧ vp_in (v.2.2.1 - (1 : Int32)) (ln w (wr w v.1 27))) (if (wi w (wr w v.1 27) ((v.2.2.1 - (1 : Int32))).toNatClampNeg) = (0 : Int32) then (j6_says_130 k16 v.1 v.2.1 v.2.2.1 v.2.2.2 (1 : Int32) (v.2.2.1 - (1 : Int32)) (wr w v.1 27) w) else (j6_says_130 k16 v.1 v.2.1 v.2.2.1 v.2.2.2 (0 : Int32) (v.2.2.1 - (1 : Int32)) (wr w v.1 27) w))) else (if (wi w (wr w v.1 7) ((((200 : Int32) * (wi w v.1 10)) + v.2.2.2)).toNatClampNeg) = (19 : Int32) then (ck (tg w (wr w v.1 27) = 20 ∧ vp_in (v.2.2.1 - (1 : Int32)) (ln w (wr w v.1 27))) (ck (vp_in (v.2.2.1 - (1 : Int32)) (ln w (wr w v.1 27))) (lw (sI w (wr w v.1 27) ((v.2.2.1 - (1 : Int32))).toNatClampNeg (-(wi w (wr w v.1 27) ((v.2.2.1 - (1 : Int32))).toNatClampNeg))) fun w25 => (j6_says_191 k16 v.1 v.2.1 v.2.2.1 v.2.2.2 w25)))) else (ck (tg w (wr w v.1 27) = 20 ∧ vp_in ((v.2.2.1 + (-1 : Int32)) - (1 : Int32)) (ln w (wr w v.1 27))) (ck (vp_in (v.2.2.1 + (-1 : Int32)) (ln w (wr w v.1 27))) ((f6_two (wi w (wr w v.1 7) ((((200 : Int32) * (wi w v.1 10)) + v.2.2.2)).toNatClampNeg) (wi w (wr w v.1 27) (((v.2.2.1 + (-1 : Int32)) - (1 : Int32))).toNatClampNeg) (wi w (wr w v.1 27) ((v.2.2.1 + (-1 : Int32))).toNatClampNeg) w).bind fun z29 => (ck (vp_in ((v.2.2.1 + (-1 : Int32)) - (1 : Int32)) (ln z29.2 (wr w v.1 27))) (lw (sI z29.2 (wr w v.1 27) (((v.2.2.1 + (-1 : Int32)) - (1 : Int32))).toNatClampNeg z29.1) fun w33 => (j6_says_191 k16 v.1 v.2.1 (v.2.2.1 + (-1 : Int32)) v.2.2.2 w33)))))))) else (j6_says_66 k16 v.1 v.2.1 v.2.2.1 v.2.2.2 (wi w (wr w v.1 7) ((((200 : Int32) * (wi w v.1 10)) + v.2.2.2)).toNatClampNeg) w))))))
theorem wpb6_says_16 (X : CX) (w0 : Wd) (k16 : Nat × Int32 × Int32 × Int32 → Wd → Option (Int32 × Wd)) (hk16 : ∀ (v : Nat × Int32 × Int32 × Int32) (w : Wd), WPe rtI X (mX6_says, 2, 0, 0, w0) 0 0 (k16 v w) 16 [(0, vR v.1), (1, vI v.2.1), (2, vI v.2.2.1), (3, vI v.2.2.2)] [] w) (v : Nat × Int32 × Int32 × Int32) (w : Wd) : WPe rtI X (mX6_says, 2, 0, 0, w0) 0 0 (b6_says_16 k16 v w) 16 [(0, vR v.1), (1, vI v.2.1), (2, vI v.2.2.1), (3, vI v.2.2.2)] [] w := by
  unfold b6_says_16
  refine WPe_iload_n (pc := 16) 3 (dd dtX6_says 12 rfl) rfl ?_
  refine WPe_aload_n (pc := 17) 0 (dd dtX6_says 13 rfl) rfl ?_
  refine WPe_ck fun h3 => ?_
  refine WPe_getR (pc := 18) (t := 6) (C := RX6) (T := TX6) 8 (dd dtX6_says 14 rfl) (shE h3) rfl (Nat.le_of_ble_eq_true rfl) rfl (bw_mem4 61 rfl rfl) ?_
  refine WPe_iconst (pc := 21) (4 : Int32) (dd dtX6_says 15 rfl) (by decide) ?_
  refine WPe_aload_n (pc := 22) 0 (dd dtX6_says 16 rfl) rfl ?_
  refine WPe_getI (pc := 23) (t := 6) (C := RX6) (T := TX6) 10 (dd dtX6_says 17 rfl) (shE h3) rfl (Nat.le_of_ble_eq_true rfl) rfl (bw_mem4 63 rfl rfl) ?_
  refine WPe_imul (pc := 26) (dd dtX6_says 18 rfl) ?_
  refine WPe_iload_n (pc := 27) 1 (dd dtX6_says 19 rfl) rfl ?_
  refine WPe_iadd (pc := 28) (dd dtX6_says 20 rfl) ?_
  refine WPe_iconst (pc := 29) (1 : Int32) (dd dtX6_says 21 rfl) (by decide) ?_
  refine WPe_iadd (pc := 30) (dd dtX6_says 22 rfl) ?_
  refine WPe_ck fun h4 => ?_
  refine WPe_iald (pc := 31) (dd dtX6_says 23 rfl) (shE h4.1) h4.2 ?_
  refine WPe_icmp_ge (pc := 32) 197 (dd dtX6_says 24 rfl) (by decide) (fun h5 => ?_) (fun h5 => ?_)
  · refine WPe_aload_n (pc := 197) 0 (dd dtX6_says 116 rfl) rfl ?_
    refine WPe_getR (pc := 198) (t := 6) (C := RX6) (T := TX6) 27 (dd dtX6_says 117 rfl) (shE h3) rfl (Nat.le_of_ble_eq_true rfl) rfl (bw_mem4 80 rfl rfl) ?_
    refine WPe_iconst (pc := 201) (0 : Int32) (dd dtX6_says 118 rfl) (by decide) ?_
    refine WPe_ck fun h6 => ?_
    refine WPe_iald (pc := 202) (dd dtX6_says 119 rfl) (shE h6.1) h6.2 ?_
    exact WPe_ireturn (pc := 203) (dd dtX6_says 120 rfl) rfl rfl ⟨(Nat.le_of_ble_eq_true rfl), (Nat.le_of_ble_eq_true rfl)⟩
  · refine WPe_aload_n (pc := 35) 0 (dd dtX6_says 25 rfl) rfl ?_
    refine WPe_getR (pc := 36) (t := 6) (C := RX6) (T := TX6) 7 (dd dtX6_says 26 rfl) (shE h3) rfl (Nat.le_of_ble_eq_true rfl) rfl (bw_mem4 60 rfl rfl) ?_
    refine WPe_sipush (pc := 39) (200 : Int32) (dd dtX6_says 27 rfl) (by decide) ?_
    refine WPe_aload_n (pc := 42) 0 (dd dtX6_says 28 rfl) rfl ?_
    refine WPe_getI (pc := 43) (t := 6) (C := RX6) (T := TX6) 10 (dd dtX6_says 29 rfl) (shE h3) rfl (Nat.le_of_ble_eq_true rfl) rfl (bw_mem4 63 rfl rfl) ?_
    refine WPe_imul (pc := 46) (dd dtX6_says 30 rfl) ?_
    refine WPe_iload_n (pc := 47) 3 (dd dtX6_says 31 rfl) rfl ?_
    refine WPe_iadd (pc := 48) (dd dtX6_says 32 rfl) ?_
    refine WPe_ck fun h7 => ?_
    refine WPe_iald (pc := 49) (dd dtX6_says 33 rfl) (shE h7.1) h7.2 ?_
    refine WPe_istore (pc := 50) (ls' := [(4, vI (wi w (wr w v.1 7) ((((200 : Int32) * (wi w v.1 10)) + v.2.2.2)).toNatClampNeg)), (0, vR v.1), (1, vI v.2.1), (2, vI v.2.2.1), (3, vI v.2.2.2)]) (dd dtX6_says 34 rfl) (Nat.le_of_ble_eq_true rfl) rfl ?_
    refine WPe_iload (pc := 52) 0 (dd dtX6_says 35 rfl) rfl ?_
    refine WPe_ldc (pc := 54) (v := (100000 : Int32)) (dd dtX6_says 36 rfl) (bw_mem4 25 rfl rfl) ?_
    refine WPe_icmp_ge (pc := 56) 66 (dd dtX6_says 37 rfl) (by decide) (fun h8 => ?_) (fun h8 => ?_)
    · refine WPe_sub [1, 2, 3, 4, 0] rfl ?_
      exact wpj6_says_66 X w0 k16 hk16 v.1 v.2.1 v.2.2.1 v.2.2.2 (wi w (wr w v.1 7) ((((200 : Int32) * (wi w v.1 10)) + v.2.2.2)).toNatClampNeg) w
    · refine WPe_iload (pc := 59) 0 (dd dtX6_says 38 rfl) rfl ?_
      refine WPe_bipush (pc := 61) (11 : Int32) (dd dtX6_says 39 rfl) (by decide) ?_
      refine WPe_icmp_ge (pc := 63) 100 (dd dtX6_says 40 rfl) (by decide) (fun h15 => ?_) (fun h15 => ?_)
      · refine WPe_iload (pc := 100) 0 (dd dtX6_says 58 rfl) rfl ?_
        refine WPe_bipush (pc := 102) (13 : Int32) (dd dtX6_says 59 rfl) (by decide) ?_
        refine WPe_icmp_ne (pc := 104) 134 (dd dtX6_says 60 rfl) (by decide) (fun h16 => ?_) (fun h16 => ?_)
        · refine WPe_aload_n (pc := 107) 1 (dd dtX6_says 61 rfl) rfl ?_
          refine WPe_getR (pc := 108) (t := 6) (C := RX6) (T := TX6) 27 (dd dtX6_says 62 rfl) (shE h3) rfl (Nat.le_of_ble_eq_true rfl) rfl (bw_mem4 80 rfl rfl) ?_
          refine WPe_iload_n (pc := 111) 3 (dd dtX6_says 63 rfl) rfl ?_
          refine WPe_iconst (pc := 112) (1 : Int32) (dd dtX6_says 64 rfl) (by decide) ?_
          refine WPe_isub (pc := 113) (dd dtX6_says 65 rfl) ?_
          refine WPe_aload_n (pc := 114) 1 (dd dtX6_says 66 rfl) rfl ?_
          refine WPe_getR (pc := 115) (t := 6) (C := RX6) (T := TX6) 27 (dd dtX6_says 67 rfl) (shE h3) rfl (Nat.le_of_ble_eq_true rfl) rfl (bw_mem4 80 rfl rfl) ?_
          refine WPe_iload_n (pc := 118) 3 (dd dtX6_says 68 rfl) rfl ?_
          refine WPe_iconst (pc := 119) (1 : Int32) (dd dtX6_says 69 rfl) (by decide) ?_
          refine WPe_isub (pc := 120) (dd dtX6_says 70 rfl) ?_
          refine WPe_ck fun h17 => ?_
          refine WPe_iald (pc := 121) (dd dtX6_says 71 rfl) (shE h17.1) h17.2 ?_
          refine WPe_if_ne (pc := 122) 129 (dd dtX6_says 72 rfl) (by decide) (fun h18 => ?_) (fun h18 => ?_)
          · refine WPe_iconst (pc := 125) (1 : Int32) (dd dtX6_says 73 rfl) (by decide) ?_
            refine WPe_goto (pc := 126) 130 (dd dtX6_says 74 rfl) (by decide) ?_
            refine WPe_sub [1, 2, 3, 4] rfl ?_
            exact wpj6_says_130 X w0 k16 hk16 v.1 v.2.1 v.2.2.1 v.2.2.2 (1 : Int32) (v.2.2.1 - (1 : Int32)) (wr w v.1 27) w
          · refine WPe_iconst (pc := 129) (0 : Int32) (dd dtX6_says 75 rfl) (by decide) ?_
            refine WPe_sub [1, 2, 3, 4] rfl ?_
            exact wpj6_says_130 X w0 k16 hk16 v.1 v.2.1 v.2.2.1 v.2.2.2 (0 : Int32) (v.2.2.1 - (1 : Int32)) (wr w v.1 27) w
        · refine WPe_iload (pc := 134) 0 (dd dtX6_says 78 rfl) rfl ?_
          refine WPe_bipush (pc := 136) (19 : Int32) (dd dtX6_says 79 rfl) (by decide) ?_
          refine WPe_icmp_ne (pc := 138) 161 (dd dtX6_says 80 rfl) (by decide) (fun h22 => ?_) (fun h22 => ?_)
          · refine WPe_aload_n (pc := 141) 1 (dd dtX6_says 81 rfl) rfl ?_
            refine WPe_getR (pc := 142) (t := 6) (C := RX6) (T := TX6) 27 (dd dtX6_says 82 rfl) (shE h3) rfl (Nat.le_of_ble_eq_true rfl) rfl (bw_mem4 80 rfl rfl) ?_
            refine WPe_iload_n (pc := 145) 3 (dd dtX6_says 83 rfl) rfl ?_
            refine WPe_iconst (pc := 146) (1 : Int32) (dd dtX6_says 84 rfl) (by decide) ?_
            refine WPe_isub (pc := 147) (dd dtX6_says 85 rfl) ?_
            refine WPe_aload_n (pc := 148) 1 (dd dtX6_says 86 rfl) rfl ?_
            refine WPe_getR (pc := 149) (t := 6) (C := RX6) (T := TX6) 27 (dd dtX6_says 87 rfl) (shE h3) rfl (Nat.le_of_ble_eq_true rfl) rfl (bw_mem4 80 rfl rfl) ?_
            refine WPe_iload_n (pc := 152) 3 (dd dtX6_says 88 rfl) rfl ?_
            refine WPe_iconst (pc := 153) (1 : Int32) (dd dtX6_says 89 rfl) (by decide) ?_
            refine WPe_isub (pc := 154) (dd dtX6_says 90 rfl) ?_
            refine WPe_ck fun h23 => ?_
            refine WPe_iald (pc := 155) (dd dtX6_says 91 rfl) (shE h23.1) h23.2 ?_
            refine WPe_ineg (pc := 156) (dd dtX6_says 92 rfl) ?_
            refine WPe_ck fun h24 => ?_
            refine WPe_iast (pc := 157) (dd dtX6_says 93 rfl) (shL (shE h23.1)) h24 ?_
            refine WPe_lw fun w25 e26 => ?_
            refine WPe_goto (pc := 158) 191 (dd dtX6_says 94 rfl) (by decide) ?_
            refine WPe_sub [1, 2, 3, 4] rfl ?_
            exact wpj6_says_191 X w0 k16 hk16 v.1 v.2.1 v.2.2.1 v.2.2.2 w25
          · refine WPe_iinc (pc := 161) (ls' := [(2, vI (v.2.2.1 + (-1 : Int32))), (4, vI (wi w (wr w v.1 7) ((((200 : Int32) * (wi w v.1 10)) + v.2.2.2)).toNatClampNeg)), (0, vR v.1), (1, vI v.2.1), (3, vI v.2.2.2)]) 3 (v.2.2.1 + (-1 : Int32)) (dd dtX6_says 95 rfl) rfl (congrArg (HAdd.hAdd _) (by decide : Int32.ofInt (-1) = (-1 : Int32))) (Nat.le_of_ble_eq_true rfl) rfl ?_
            refine WPe_aload_n (pc := 164) 2 (dd dtX6_says 96 rfl) rfl ?_
            refine WPe_getR (pc := 165) (t := 6) (C := RX6) (T := TX6) 27 (dd dtX6_says 97 rfl) (shE h3) rfl (Nat.le_of_ble_eq_true rfl) rfl (bw_mem4 80 rfl rfl) ?_
            refine WPe_iload_n (pc := 168) 0 (dd dtX6_says 98 rfl) rfl ?_
            refine WPe_iconst (pc := 169) (1 : Int32) (dd dtX6_says 99 rfl) (by decide) ?_
            refine WPe_isub (pc := 170) (dd dtX6_says 100 rfl) ?_
            refine WPe_iload (pc := 171) 1 (dd dtX6_says 101 rfl) rfl ?_
            refine WPe_aload_n (pc := 173) 2 (dd dtX6_says 102 rfl) rfl ?_
            refine WPe_getR (pc := 174) (t := 6) (C := RX6) (T := TX6) 27 (dd dtX6_says 103 rfl) (shE h3) rfl (Nat.le_of_ble_eq_true rfl) rfl (bw_mem4 80 rfl rfl) ?_
            refine WPe_iload_n (pc := 177) 0 (dd dtX6_says 104 rfl) rfl ?_
            refine WPe_iconst (pc := 178) (1 : Int32) (dd dtX6_says 105 rfl) (by decide) ?_
            refine WPe_isub (pc := 179) (dd dtX6_says 106 rfl) ?_
            refine WPe_ck fun h27 => ?_
            refine WPe_iald (pc := 180) (dd dtX6_says 107 rfl) (shE h27.1) h27.2 ?_
            refine WPe_aload_n (pc := 181) 2 (dd dtX6_says 108 rfl) rfl ?_
            refine WPe_getR (pc := 182) (t := 6) (C := RX6) (T := TX6) 27 (dd dtX6_says 109 rfl) (shE h3) rfl (Nat.le_of_ble_eq_true rfl) rfl (bw_mem4 80 rfl rfl) ?_
            refine WPe_iload_n (pc := 185) 0 (dd dtX6_says 110 rfl) rfl ?_
            refine WPe_ck fun h28 => ?_
            refine WPe_iald (pc := 186) (dd dtX6_says 111 rfl) (shL (shE h27.1)) h28 ?_
            refine WPe_callS (pc := 187) (rtc := rtI) (Mc := mX6_two) (d' := 1) (mc' := 0) (ms' := 0) [vI (wi w (wr w v.1 7) ((((200 : Int32) * (wi w v.1 10)) + v.2.2.2)).toNatClampNeg), vI (wi w (wr w v.1 27) (((v.2.2.1 + (-1 : Int32)) - (1 : Int32))).toNatClampNeg), vI (wi w (wr w v.1 27) ((v.2.2.1 + (-1 : Int32))).toNatClampNeg)] [vI ((v.2.2.1 + (-1 : Int32)) - (1 : Int32)), vR (wr w v.1 27)] rfl (dd dtX6_says 112 rfl) (okf6_two (wi w (wr w v.1 7) ((((200 : Int32) * (wi w v.1 10)) + v.2.2.2)).toNatClampNeg) (wi w (wr w v.1 27) (((v.2.2.1 + (-1 : Int32)) - (1 : Int32))).toNatClampNeg) (wi w (wr w v.1 27) ((v.2.2.1 + (-1 : Int32))).toNatClampNeg) w) moX6_two msX6_two (bw_mem4 202 rfl rfl) rfl (Nat.le_of_ble_eq_true rfl) ⟨(Nat.le_of_ble_eq_true rfl), (Nat.le_of_ble_eq_true rfl)⟩ ⟨(Nat.le_of_ble_eq_true rfl), (Nat.le_of_ble_eq_true rfl)⟩ (fun z29 h30 e31 => ?_)
            refine WPe_st (st2 := [vI z29.1, vI ((v.2.2.1 + (-1 : Int32)) - (1 : Int32)), vR (wr w v.1 27)]) rfl ?_
            refine WPe_ck fun h32 => ?_
            refine WPe_iast (pc := 190) (dd dtX6_says 113 rfl) (shL (e31.at (shE h27.1) (by decide))) h32 ?_
            refine WPe_lw fun w33 e34 => ?_
            refine WPe_sub [2, 3, 0, 4] rfl ?_
            exact wpj6_says_191 X w0 k16 hk16 v.1 v.2.1 (v.2.2.1 + (-1 : Int32)) v.2.2.2 w33
      · refine WPe_sub [1, 2, 3, 4, 0] rfl ?_
        exact wpj6_says_66 X w0 k16 hk16 v.1 v.2.1 v.2.2.1 v.2.2.2 (wi w (wr w v.1 7) ((((200 : Int32) * (wi w v.1 10)) + v.2.2.2)).toNatClampNeg) w
theorem wplb6_says_16 (X : CX) (w0 : Wd)  : ∀ (n9 : Nat) (v : Nat × Int32 × Int32 × Int32) (w : Wd), WPe rtI X (mX6_says, 2, 0, 0, w0) 0 0 (loopF (b6_says_16 ) n9 v w) 16 [(0, vR v.1), (1, vI v.2.1), (2, vI v.2.2.1), (3, vI v.2.2.2)] [] w :=
  WPe_loop (rt := rtI) (X := X) (M := (mX6_says, 2, 0, 0, w0)) (fun v : Nat × Int32 × Int32 × Int32 => [(0, vR v.1), (1, vI v.2.1), (2, vI v.2.2.1), (3, vI v.2.2.2)]) (fun k hk v w => wpb6_says_16 X w0  k hk v w)
noncomputable def f6_says (x0 : Nat) (x1 : Int32) (w : Wd) : Option (Int32 × Wd) :=
  ck (tg w x0 = 6) (ck (tg w (wr w x0 8) = 20 ∧ vp_in (((4 : Int32) * (wi w x0 10)) + x1) (ln w (wr w x0 8))) (loopF (b6_says_16) FU (x0, x1, (0 : Int32), (wi w (wr w x0 8) ((((4 : Int32) * (wi w x0 10)) + x1)).toNatClampNeg)) w))
theorem wpf6_says (X : CX) (w0 : Wd) (x0 : Nat) (x1 : Int32) (w : Wd) : WPe rtI X (mX6_says, 2, 0, 0, w0) 0 0 (f6_says x0 x1 w) 0 [(0, vR x0), (1, vI x1)] [] w := by
  unfold f6_says
  refine WPe_iconst (pc := 0) (0 : Int32) (dd dtX6_says 0 rfl) (by decide) ?_
  refine WPe_istore_n (pc := 1) (ls' := [(2, vI (0 : Int32)), (0, vR x0), (1, vI x1)]) (dd dtX6_says 1 rfl) (Nat.le_of_ble_eq_true rfl) rfl ?_
  refine WPe_aload_n (pc := 2) 1 (dd dtX6_says 2 rfl) rfl ?_
  refine WPe_ck fun h1 => ?_
  refine WPe_getR (pc := 3) (t := 6) (C := RX6) (T := TX6) 8 (dd dtX6_says 3 rfl) (shE h1) rfl (Nat.le_of_ble_eq_true rfl) rfl (bw_mem4 61 rfl rfl) ?_
  refine WPe_iconst (pc := 6) (4 : Int32) (dd dtX6_says 4 rfl) (by decide) ?_
  refine WPe_aload_n (pc := 7) 1 (dd dtX6_says 5 rfl) rfl ?_
  refine WPe_getI (pc := 8) (t := 6) (C := RX6) (T := TX6) 10 (dd dtX6_says 6 rfl) (shE h1) rfl (Nat.le_of_ble_eq_true rfl) rfl (bw_mem4 63 rfl rfl) ?_
  refine WPe_imul (pc := 11) (dd dtX6_says 7 rfl) ?_
  refine WPe_iload_n (pc := 12) 2 (dd dtX6_says 8 rfl) rfl ?_
  refine WPe_iadd (pc := 13) (dd dtX6_says 9 rfl) ?_
  refine WPe_ck fun h2 => ?_
  refine WPe_iald (pc := 14) (dd dtX6_says 10 rfl) (shE h2.1) h2.2 ?_
  refine WPe_istore_n (pc := 15) (ls' := [(3, vI (wi w (wr w x0 8) ((((4 : Int32) * (wi w x0 10)) + x1)).toNatClampNeg)), (2, vI (0 : Int32)), (0, vR x0), (1, vI x1)]) (dd dtX6_says 11 rfl) (Nat.le_of_ble_eq_true rfl) rfl ?_
  refine WPe_sub [2, 3, 1, 0] rfl ?_
  exact wplb6_says_16 X w0  FU _ _
theorem okf6_says (x0 : Nat) (x1 : Int32) (w : Wd) : ∀ z, f6_says x0 x1 w = some z → OkM mX6_says 2 0 0 [vR x0, vI x1] w (rtI z.1) z.2 :=
  OkM.of (rt := rtI) moX6_says (Nat.le_of_ble_eq_true rfl) (fun X => wpf6_says X w x0 x1 w)
def tbX6_force : List (Nat × Instr × Nat) := [(0, .iload_n 1, 1), (1, .iconst 0, 1), (2, .aload_n 0, 1), (3, .getfield 89, 3), (6, .iconst 1, 1), (7, .isub, 1), (8, .invokestatic 75, 3), (11, .ifCond .ne 6, 3), (14, .bipush (-2), 2), (16, .ireturn, 1), (17, .aload_n 0, 1), (18, .getfield 92, 3), (21, .istore_n 2, 1), (22, .aload_n 0, 1), (23, .iload_n 1, 1), (24, .putfield 92, 3), (27, .iload_n 2, 1), (28, .ireturn, 1)]
set_option maxRecDepth 20000 in
theorem dtX6_force : ∀ x ∈ tbX6_force, decode cX6_force x.1 = .ok x.2 := by decide +kernel
noncomputable def f6_force (x0 : Nat) (x1 : Int32) (w : Wd) : Option (Int32 × Wd) :=
  ck (tg w x0 = 6) ((f6_in x1 (0 : Int32) ((wi w x0 9) - (1 : Int32)) w).bind fun z2 => (if z2.1 = (0 : Int32) then (some ((-2 : Int32), z2.2)) else (lw (sI z2.2 x0 10 x1) fun w6 => (some ((wi z2.2 x0 10), w6)))))
theorem wpf6_force (X : CX) (w0 : Wd) (x0 : Nat) (x1 : Int32) (w : Wd) : WPe rtI X (mX6_force, 2, 0, 0, w0) 0 0 (f6_force x0 x1 w) 0 [(0, vR x0), (1, vI x1)] [] w := by
  unfold f6_force
  refine WPe_iload_n (pc := 0) 1 (dd dtX6_force 0 rfl) rfl ?_
  refine WPe_iconst (pc := 1) (0 : Int32) (dd dtX6_force 1 rfl) (by decide) ?_
  refine WPe_aload_n (pc := 2) 0 (dd dtX6_force 2 rfl) rfl ?_
  refine WPe_ck fun h1 => ?_
  refine WPe_getI (pc := 3) (t := 6) (C := RX6) (T := TX6) 9 (dd dtX6_force 3 rfl) (shE h1) rfl (Nat.le_of_ble_eq_true rfl) rfl (bw_mem4 62 rfl rfl) ?_
  refine WPe_iconst (pc := 6) (1 : Int32) (dd dtX6_force 4 rfl) (by decide) ?_
  refine WPe_isub (pc := 7) (dd dtX6_force 5 rfl) ?_
  refine WPe_callS (pc := 8) (rtc := rtI) (Mc := mX6_in) (d' := 1) (mc' := 0) (ms' := 0) [vI x1, vI (0 : Int32), vI ((wi w x0 9) - (1 : Int32))] [] rfl (dd dtX6_force 6 rfl) (okf6_in x1 (0 : Int32) ((wi w x0 9) - (1 : Int32)) w) moX6_in msX6_in (bw_mem4 14 rfl rfl) rfl (Nat.le_of_ble_eq_true rfl) ⟨(Nat.le_of_ble_eq_true rfl), (Nat.le_of_ble_eq_true rfl)⟩ ⟨(Nat.le_of_ble_eq_true rfl), (Nat.le_of_ble_eq_true rfl)⟩ (fun z2 h3 e4 => ?_)
  refine WPe_st (st2 := [vI z2.1]) rfl ?_
  refine WPe_if_ne (pc := 11) 17 (dd dtX6_force 7 rfl) (by decide) (fun h5 => ?_) (fun h5 => ?_)
  · refine WPe_bipush (pc := 14) (-2 : Int32) (dd dtX6_force 8 rfl) (by decide) ?_
    exact WPe_ireturn (pc := 16) (dd dtX6_force 9 rfl) rfl rfl ⟨(Nat.le_of_ble_eq_true rfl), (Nat.le_of_ble_eq_true rfl)⟩
  · refine WPe_aload_n (pc := 17) 0 (dd dtX6_force 10 rfl) rfl ?_
    refine WPe_getI (pc := 18) (t := 6) (C := RX6) (T := TX6) 10 (dd dtX6_force 11 rfl) (e4.at (shE h1) (by decide)) rfl (Nat.le_of_ble_eq_true rfl) rfl (bw_mem4 63 rfl rfl) ?_
    refine WPe_istore_n (pc := 21) (ls' := [(2, vI (wi z2.2 x0 10)), (0, vR x0), (1, vI x1)]) (dd dtX6_force 12 rfl) (Nat.le_of_ble_eq_true rfl) rfl ?_
    refine WPe_aload_n (pc := 22) 1 (dd dtX6_force 13 rfl) rfl ?_
    refine WPe_iload_n (pc := 23) 2 (dd dtX6_force 14 rfl) rfl ?_
    refine WPe_putI (pc := 24) (t := 6) (C := RX6) (T := TX6) 10 (dd dtX6_force 15 rfl) (e4.at (shE h1) (by decide)) rfl (Nat.le_of_ble_eq_true rfl) (bw_mem4 63 rfl rfl) (Or.inl rfl) rfl rfl rfl ?_
    refine WPe_lw fun w6 e7 => ?_
    refine WPe_iload_n (pc := 27) 0 (dd dtX6_force 16 rfl) rfl ?_
    exact WPe_ireturn (pc := 28) (dd dtX6_force 17 rfl) rfl rfl ⟨(Nat.le_of_ble_eq_true rfl), (Nat.le_of_ble_eq_true rfl)⟩
theorem okf6_force (x0 : Nat) (x1 : Int32) (w : Wd) : ∀ z, f6_force x0 x1 w = some z → OkM mX6_force 2 0 0 [vR x0, vI x1] w (rtI z.1) z.2 :=
  OkM.of (rt := rtI) moX6_force (Nat.le_of_ble_eq_true rfl) (fun X => wpf6_force X w x0 x1 w)
