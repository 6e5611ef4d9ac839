def tbX2_init : List (Nat × Instr × Nat) := [(0, .aload_n 0, 1), (1, .invokespecial 3, 3), (4, .aload_n 0, 1), (5, .iconst (-1), 1), (6, .putfield 9, 3), (9, .aload_n 0, 1), (10, .bipush 40, 2), (12, .newarray .int, 2), (14, .putfield 15, 3), (17, .return_, 1)]
set_option maxRecDepth 20000 in
theorem dtX2_init : ∀ x ∈ tbX2_init, decode cX2_init x.1 = .ok x.2 := by decide +kernel
noncomputable def f2_init (x0 : Nat) (w : Wd) : Option (Unit × Wd) :=
  ck (tg w x0 = 2) (lw (sI w x0 0 (-1 : Int32)) fun w3 => (lw (wN w3 20 40) fun w6 => (lw (sR w6 x0 2 (nx w3)) fun w8 => (some ((), w8)))))
theorem wpf2_init (X : CX) (w0 : Wd) (x0 : Nat) (w : Wd) : WPe rtV X (mX2_init, 1, 1, 40, w0) 0 0 (f2_init x0 w) 0 [(0, vR x0)] [] w := by
  unfold f2_init
  refine WPe_aload_n (pc := 0) 0 (dd dtX2_init 0 rfl) rfl ?_
  refine WPe_ck fun h1 => ?_
  refine WPe_pos (shE h1) (by decide) fun h2 => ?_
  refine WPe_objInit (pc := 1) (dd dtX2_init 1 rfl) h2 (bw_mem2 106 rfl rfl) oi1 oi2 (Nat.le_of_ble_eq_true rfl) (Nat.le_of_ble_eq_true rfl) ?_
  refine WPe_aload_n (pc := 4) 0 (dd dtX2_init 2 rfl) rfl ?_
  refine WPe_iconst (pc := 5) (-1 : Int32) (dd dtX2_init 3 rfl) (by decide) ?_
  refine WPe_putI (pc := 6) (t := 2) (C := RX2) (T := TX2) 0 (dd dtX2_init 4 rfl) (shE h1) rfl (Nat.le_of_ble_eq_true rfl) (bw_mem2 107 rfl rfl) (Or.inl rfl) rfl rfl rfl ?_
  refine WPe_lw fun w3 e4 => ?_
  refine WPe_aload_n (pc := 9) 0 (dd dtX2_init 5 rfl) rfl ?_
  refine WPe_bipush (pc := 10) (40 : Int32) (dd dtX2_init 6 rfl) (by decide) ?_
  refine WPe_nx fun n5 => ?_
  refine WPe_newI (pc := 12) (N := 40) (dd dtX2_init 7 rfl) (bw_mem1 61 rfl rfl) (by decide) (by decide) (Nat.le_of_ble_eq_true rfl) ⟨(Nat.le_of_ble_eq_true rfl), (Nat.le_of_ble_eq_true rfl)⟩ ?_
  refine WPe_lw fun w6 e7 => ?_
  refine WPe_putR (pc := 14) (t := 2) (C := RX2) (T := TX2) 2 (dd dtX2_init 8 rfl) (shX n5 e7 (shI e4 (shE h1)) (by decide)) rfl (Nat.le_of_ble_eq_true rfl) (bw_mem2 111 rfl rfl) (Or.inr ⟨rfl, rfl, rfl⟩) rfl ?_
  refine WPe_lw fun w8 e9 => ?_
  exact WPe_return (pc := 17) (dd dtX2_init 9 rfl) rfl rfl ⟨(Nat.le_of_ble_eq_true rfl), (Nat.le_of_ble_eq_true rfl)⟩
theorem okf2_init (x0 : Nat) (w : Wd) : ∀ z, f2_init x0 w = some z → OkM mX2_init 1 1 40 [vR x0] w (rtV z.1) z.2 :=
  OkM.of (rt := rtV) moX2_init (Nat.le_of_ble_eq_true rfl) (fun X => wpf2_init X w x0 w)
def tbJ7_fill_53178 : List (Nat × Instr × Nat) := [(0, .iconst 0, 1), (1, .istore_n 2, 1), (2, .aload_n 0, 1), (3, .arraylength, 1), (4, .istore_n 3, 1), (5, .iload_n 2, 1), (6, .iload_n 3, 1), (7, .if_icmp .ge 13, 3), (10, .aload_n 0, 1), (11, .iload_n 2, 1), (12, .iload_n 1, 1), (13, .iastore, 1), (14, .iinc 2 1, 3), (17, .goto (-12), 3), (20, .return_, 1)]
set_option maxRecDepth 20000 in
theorem dtJ7_fill_53178 : ∀ x ∈ tbJ7_fill_53178, decode cJ7_fill_53178 x.1 = .ok x.2 := by decide +kernel
noncomputable def bJ7_fill_53178_5 (k5 : Nat × Int32 × Int32 × Int32 → Wd → Option (Unit × Wd)) (v : Nat × Int32 × Int32 × Int32) (w : Wd) : Option (Unit × Wd) :=
  if v.2.2.2 ≤ v.2.2.1 then (some ((), w)) else (ck (tg w v.1 = 20 ∧ vp_in v.2.2.1 (ln w v.1)) (lw (sI w v.1 (v.2.2.1).toNatClampNeg v.2.1) fun w4 => (k5 (v.1, v.2.1, (v.2.2.1 + (1 : Int32)), v.2.2.2) w4)))
theorem wpbJ7_fill_53178_5 (X : CX) (w0 : Wd) (k5 : Nat × Int32 × Int32 × Int32 → Wd → Option (Unit × Wd)) (hk5 : ∀ (v : Nat × Int32 × Int32 × Int32) (w : Wd), WPe rtV X (mJ7_fill_53178, 1, 0, 0, w0) 0 0 (k5 v w) 5 [(0, vR v.1), (1, vI v.2.1), (2, vI v.2.2.1), (3, vI v.2.2.2)] [] w) (v : Nat × Int32 × Int32 × Int32) (w : Wd) : WPe rtV X (mJ7_fill_53178, 1, 0, 0, w0) 0 0 (bJ7_fill_53178_5 k5 v w) 5 [(0, vR v.1), (1, vI v.2.1), (2, vI v.2.2.1), (3, vI v.2.2.2)] [] w := by
  unfold bJ7_fill_53178_5
  refine WPe_iload_n (pc := 5) 2 (dd dtJ7_fill_53178 5 rfl) rfl ?_
  refine WPe_iload_n (pc := 6) 3 (dd dtJ7_fill_53178 6 rfl) rfl ?_
  refine WPe_icmp_ge (pc := 7) 20 (dd dtJ7_fill_53178 7 rfl) (by decide) (fun h2 => ?_) (fun h2 => ?_)
  · exact WPe_return (pc := 20) (dd dtJ7_fill_53178 14 rfl) rfl rfl ⟨(Nat.le_of_ble_eq_true rfl), (Nat.le_of_ble_eq_true rfl)⟩
  · refine WPe_aload_n (pc := 10) 0 (dd dtJ7_fill_53178 8 rfl) rfl ?_
    refine WPe_iload_n (pc := 11) 2 (dd dtJ7_fill_53178 9 rfl) rfl ?_
    refine WPe_iload_n (pc := 12) 1 (dd dtJ7_fill_53178 10 rfl) rfl ?_
    refine WPe_ck fun h3 => ?_
    refine WPe_iast (pc := 13) (dd dtJ7_fill_53178 11 rfl) (shE h3.1) h3.2 ?_
    refine WPe_lw fun w4 e5 => ?_
    refine WPe_iinc (pc := 14) (ls' := [(2, vI (v.2.2.1 + (1 : Int32))), (0, vR v.1), (1, vI v.2.1), (3, vI v.2.2.2)]) 2 (v.2.2.1 + (1 : Int32)) (dd dtJ7_fill_53178 12 rfl) rfl (congrArg (HAdd.hAdd _) (by decide : Int32.ofInt (1) = (1 : Int32))) (Nat.le_of_ble_eq_true rfl) rfl ?_
    refine WPe_goto (pc := 17) 5 (dd dtJ7_fill_53178 13 rfl) (by decide) ?_
    refine WPe_sub [1, 2, 0, 3] rfl ?_
    exact hk5 (v.1, v.2.1, (v.2.2.1 + (1 : Int32)), v.2.2.2) w4
theorem wplbJ7_fill_53178_5 (X : CX) (w0 : Wd)  : ∀ (n9 : Nat) (v : Nat × Int32 × Int32 × Int32) (w : Wd), WPe rtV X (mJ7_fill_53178, 1, 0, 0, w0) 0 0 (loopF (bJ7_fill_53178_5 ) n9 v w) 5 [(0, vR v.1), (1, vI v.2.1), (2, vI v.2.2.1), (3, vI v.2.2.2)] [] w :=
  WPe_loop (rt := rtV) (X := X) (M := (mJ7_fill_53178, 1, 0, 0, w0)) (fun v : Nat × Int32 × Int32 × Int32 => [(0, vR v.1), (1, vI v.2.1), (2, vI v.2.2.1), (3, vI v.2.2.2)]) (fun k hk v w => wpbJ7_fill_53178_5 X w0  k hk v w)
noncomputable def fJ7_fill_53178 (x0 : Nat) (x1 : Int32) (w : Wd) : Option (Unit × Wd) :=
  ck (tg w x0 = 20) (loopF (bJ7_fill_53178_5) FU (x0, x1, (0 : Int32), (Int32.ofNat (ln w x0))) w)
theorem wpfJ7_fill_53178 (X : CX) (w0 : Wd) (x0 : Nat) (x1 : Int32) (w : Wd) : WPe rtV X (mJ7_fill_53178, 1, 0, 0, w0) 0 0 (fJ7_fill_53178 x0 x1 w) 0 [(0, vR x0), (1, vI x1)] [] w := by
  unfold fJ7_fill_53178
  refine WPe_iconst (pc := 0) (0 : Int32) (dd dtJ7_fill_53178 0 rfl) (by decide) ?_
  refine WPe_istore_n (pc := 1) (ls' := [(2, vI (0 : Int32)), (0, vR x0), (1, vI x1)]) (dd dtJ7_fill_53178 1 rfl) (Nat.le_of_ble_eq_true rfl) rfl ?_
  refine WPe_aload_n (pc := 2) 1 (dd dtJ7_fill_53178 2 rfl) rfl ?_
  refine WPe_ck fun h1 => ?_
  refine WPe_alen (pc := 3) (dd dtJ7_fill_53178 3 rfl) (shL (shE h1)) ⟨(Nat.le_of_ble_eq_true rfl), (Nat.le_of_ble_eq_true rfl)⟩ ?_
  refine WPe_istore_n (pc := 4) (ls' := [(3, vI (Int32.ofNat (ln w x0))), (2, vI (0 : Int32)), (0, vR x0), (1, vI x1)]) (dd dtJ7_fill_53178 4 rfl) (Nat.le_of_ble_eq_true rfl) rfl ?_
  refine WPe_sub [2, 3, 1, 0] rfl ?_
  exact wplbJ7_fill_53178_5 X w0  FU _ _
theorem okfJ7_fill_53178 (x0 : Nat) (x1 : Int32) (w : Wd) : ∀ z, fJ7_fill_53178 x0 x1 w = some z → OkM mJ7_fill_53178 1 0 0 [vR x0, vI x1] w (rtV z.1) z.2 :=
  OkM.of (rt := rtV) moJ7_fill_53178 (Nat.le_of_ble_eq_true rfl) (fun X => wpfJ7_fill_53178 X w x0 x1 w)
def tbX2_becomeRow : List (Nat × Instr × Nat) := [(0, .aload_n 0, 1), (1, .iload_n 1, 1), (2, .putfield 9, 3), (5, .aload_n 0, 1), (6, .iload_n 2, 1), (7, .putfield 19, 3), (10, .aload_n 0, 1), (11, .getfield 15, 3), (14, .iconst 0, 1), (15, .invokestatic 22, 3), (18, .return_, 1)]
set_option maxRecDepth 20000 in
theorem dtX2_becomeRow : ∀ x ∈ tbX2_becomeRow, decode cX2_becomeRow x.1 = .ok x.2 := by decide +kernel
noncomputable def f2_becomeRow (x0 : Nat) (x1 : Int32) (x2 : Int32) (w : Wd) : Option (Unit × Wd) :=
  ck (tg w x0 = 2) (lw (sI w x0 0 x1) fun w2 => (lw (sI w2 x0 1 x2) fun w4 => ((fJ7_fill_53178 (wr w4 x0 2) (0 : Int32) w4).bind fun z6 => (some ((), z6.2)))))
theorem wpf2_becomeRow (X : CX) (w0 : Wd) (x0 : Nat) (x1 : Int32) (x2 : Int32) (w : Wd) : WPe rtV X (mX2_becomeRow, 2, 0, 0, w0) 0 0 (f2_becomeRow x0 x1 x2 w) 0 [(0, vR x0), (1, vI x1), (2, vI x2)] [] w := by
  unfold f2_becomeRow
  refine WPe_aload_n (pc := 0) 0 (dd dtX2_becomeRow 0 rfl) rfl ?_
  refine WPe_iload_n (pc := 1) 1 (dd dtX2_becomeRow 1 rfl) rfl ?_
  refine WPe_ck fun h1 => ?_
  refine WPe_putI (pc := 2) (t := 2) (C := RX2) (T := TX2) 0 (dd dtX2_becomeRow 2 rfl) (shE h1) rfl (Nat.le_of_ble_eq_true rfl) (bw_mem2 107 rfl rfl) (Or.inl rfl) rfl rfl rfl ?_
  refine WPe_lw fun w2 e3 => ?_
  refine WPe_aload_n (pc := 5) 0 (dd dtX2_becomeRow 3 rfl) rfl ?_
  refine WPe_iload_n (pc := 6) 2 (dd dtX2_becomeRow 4 rfl) rfl ?_
  refine WPe_putI (pc := 7) (t := 2) (C := RX2) (T := TX2) 1 (dd dtX2_becomeRow 5 rfl) (shI e3 (shE h1)) rfl (Nat.le_of_ble_eq_true rfl) (bw_mem2 109 rfl rfl) (Or.inl rfl) rfl rfl rfl ?_
  refine WPe_lw fun w4 e5 => ?_
  refine WPe_aload_n (pc := 10) 0 (dd dtX2_becomeRow 6 rfl) rfl ?_
  refine WPe_getR (pc := 11) (t := 2) (C := RX2) (T := TX2) 2 (dd dtX2_becomeRow 7 rfl) (shI e5 (shI e3 (shE h1))) rfl (Nat.le_of_ble_eq_true rfl) rfl (bw_mem2 111 rfl rfl) ?_
  refine WPe_iconst (pc := 14) (0 : Int32) (dd dtX2_becomeRow 8 rfl) (by decide) ?_
  refine WPe_callS (pc := 15) (rtc := rtV) (Mc := mJ7_fill_53178) (d' := 1) (mc' := 0) (ms' := 0) [vR (wr w4 x0 2), vI (0 : Int32)] [] rfl (dd dtX2_becomeRow 9 rfl) (okfJ7_fill_53178 (wr w4 x0 2) (0 : Int32) w4) moJ7_fill_53178 msJ7_fill_53178 (bw_mem3 176 rfl rfl) rfl (Nat.le_of_ble_eq_true rfl) ⟨(Nat.le_of_ble_eq_true rfl), (Nat.le_of_ble_eq_true rfl)⟩ ⟨(Nat.le_of_ble_eq_true rfl), (Nat.le_of_ble_eq_true rfl)⟩ (fun z6 h7 e8 => ?_)
  refine WPe_st (st2 := []) rfl ?_
  exact WPe_return (pc := 18) (dd dtX2_becomeRow 10 rfl) rfl rfl ⟨(Nat.le_of_ble_eq_true rfl), (Nat.le_of_ble_eq_true rfl)⟩
theorem okf2_becomeRow (x0 : Nat) (x1 : Int32) (x2 : Int32) (w : Wd) : ∀ z, f2_becomeRow x0 x1 x2 w = some z → OkM mX2_becomeRow 2 0 0 [vR x0, vI x1, vI x2] w (rtV z.1) z.2 :=
  OkM.of (rt := rtV) moX2_becomeRow (Nat.le_of_ble_eq_true rfl) (fun X => wpf2_becomeRow X w x0 x1 x2 w)
def tbX2_isMissing : List (Nat × Instr × Nat) := [(0, .aload_n 0, 1), (1, .getfield 9, 3), (4, .iconst (-1), 1), (5, .if_icmp .ne 7, 3), (8, .iconst 1, 1), (9, .goto 4, 3), (12, .iconst 0, 1), (13, .ireturn, 1)]
set_option maxRecDepth 20000 in
theorem dtX2_isMissing : ∀ x ∈ tbX2_isMissing, decode cX2_isMissing x.1 = .ok x.2 := by decide +kernel
noncomputable def f2_isMissing (x0 : Nat) (w : Wd) : Option (Int32 × Wd) :=
  ck (tg w x0 = 2) (if (wi w x0 0) = (-1 : Int32) then (some ((1 : Int32), w)) else (some ((0 : Int32), w)))
theorem wpf2_isMissing (X : CX) (w0 : Wd) (x0 : Nat) (w : Wd) : WPe rtI X (mX2_isMissing, 1, 0, 0, w0) 0 0 (f2_isMissing x0 w) 0 [(0, vR x0)] [] w := by
  unfold f2_isMissing
  refine WPe_aload_n (pc := 0) 0 (dd dtX2_isMissing 0 rfl) rfl ?_
  refine WPe_ck fun h1 => ?_
  refine WPe_getI (pc := 1) (t := 2) (C := RX2) (T := TX2) 0 (dd dtX2_isMissing 1 rfl) (shE h1) rfl (Nat.le_of_ble_eq_true rfl) rfl (bw_mem2 107 rfl rfl) ?_
  refine WPe_iconst (pc := 4) (-1 : Int32) (dd dtX2_isMissing 2 rfl) (by decide) ?_
  refine WPe_icmp_ne (pc := 5) 12 (dd dtX2_isMissing 3 rfl) (by decide) (fun h2 => ?_) (fun h2 => ?_)
  · refine WPe_iconst (pc := 8) (1 : Int32) (dd dtX2_isMissing 4 rfl) (by decide) ?_
    refine WPe_goto (pc := 9) 13 (dd dtX2_isMissing 5 rfl) (by decide) ?_
    exact WPe_zreturn (pc := 13) (ty := .boolean) (dd dtX2_isMissing 7 rfl) rfl rfl rfl ⟨(Nat.le_of_ble_eq_true rfl), (Nat.le_of_ble_eq_true rfl)⟩
  · refine WPe_iconst (pc := 12) (0 : Int32) (dd dtX2_isMissing 6 rfl) (by decide) ?_
    exact WPe_zreturn (pc := 13) (ty := .boolean) (dd dtX2_isMissing 7 rfl) rfl rfl rfl ⟨(Nat.le_of_ble_eq_true rfl), (Nat.le_of_ble_eq_true rfl)⟩
theorem okf2_isMissing (x0 : Nat) (w : Wd) : ∀ z, f2_isMissing x0 w = some z → OkM mX2_isMissing 1 0 0 [vR x0] w (rtI z.1) z.2 :=
  OkM.of (rt := rtI) moX2_isMissing (Nat.le_of_ble_eq_true rfl) (fun X => wpf2_isMissing X w x0 w)
def tbX2_hasPlace : List (Nat × Instr × Nat) := [(0, .iload_n 1, 1), (1, .ifCond .lt 24, 3), (4, .iload_n 1, 1), (5, .aload_n 0, 1), (6, .getfield 19, 3), (9, .if_icmp .ge 16, 3), (12, .iload_n 1, 1), (13, .aload_n 0, 1), (14, .getfield 15, 3), (17, .arraylength, 1), (18, .if_icmp .ge 7, 3), (21, .iconst 1, 1), (22, .goto 4, 3), (25, .iconst 0, 1), (26, .ireturn, 1)]
set_option maxRecDepth 20000 in
theorem dtX2_hasPlace : ∀ x ∈ tbX2_hasPlace, decode cX2_hasPlace x.1 = .ok x.2 := by decide +kernel
noncomputable def f2_hasPlace (x0 : Nat) (x1 : Int32) (w : Wd) : Option (Int32 × Wd) :=
  if x1 < (0 : Int32) then (some ((0 : Int32), w)) else (ck (tg w x0 = 2) (if (wi w x0 1) ≤ x1 then (some ((0 : Int32), w)) else (ck (tg w (wr w x0 2) = 20) (if (Int32.ofNat (ln w (wr w x0 2))) ≤ x1 then (some ((0 : Int32), w)) else (some ((1 : Int32), w))))))
theorem wpf2_hasPlace (X : CX) (w0 : Wd) (x0 : Nat) (x1 : Int32) (w : Wd) : WPe rtI X (mX2_hasPlace, 1, 0, 0, w0) 0 0 (f2_hasPlace x0 x1 w) 0 [(0, vR x0), (1, vI x1)] [] w := by
  unfold f2_hasPlace
  refine WPe_iload_n (pc := 0) 1 (dd dtX2_hasPlace 0 rfl) rfl ?_
  refine WPe_if_lt (pc := 1) 25 (dd dtX2_hasPlace 1 rfl) (by decide) (fun h1 => ?_) (fun h1 => ?_)
  · refine WPe_iconst (pc := 25) (0 : Int32) (dd dtX2_hasPlace 13 rfl) (by decide) ?_
    exact WPe_zreturn (pc := 26) (ty := .boolean) (dd dtX2_hasPlace 14 rfl) rfl rfl rfl ⟨(Nat.le_of_ble_eq_true rfl), (Nat.le_of_ble_eq_true rfl)⟩
  · refine WPe_iload_n (pc := 4) 1 (dd dtX2_hasPlace 2 rfl) rfl ?_
    refine WPe_aload_n (pc := 5) 0 (dd dtX2_hasPlace 3 rfl) rfl ?_
    refine WPe_ck fun h2 => ?_
    refine WPe_getI (pc := 6) (t := 2) (C := RX2) (T := TX2) 1 (dd dtX2_hasPlace 4 rfl) (shE h2) rfl (Nat.le_of_ble_eq_true rfl) rfl (bw_mem2 109 rfl rfl) ?_
    refine WPe_icmp_ge (pc := 9) 25 (dd dtX2_hasPlace 5 rfl) (by decide) (fun h3 => ?_) (fun h3 => ?_)
    · refine WPe_iconst (pc := 25) (0 : Int32) (dd dtX2_hasPlace 13 rfl) (by decide) ?_
      exact WPe_zreturn (pc := 26) (ty := .boolean) (dd dtX2_hasPlace 14 rfl) rfl rfl rfl ⟨(Nat.le_of_ble_eq_true rfl), (Nat.le_of_ble_eq_true rfl)⟩
    · refine WPe_iload_n (pc := 12) 1 (dd dtX2_hasPlace 6 rfl) rfl ?_
      refine WPe_aload_n (pc := 13) 0 (dd dtX2_hasPlace 7 rfl) rfl ?_
      refine WPe_getR (pc := 14) (t := 2) (C := RX2) (T := TX2) 2 (dd dtX2_hasPlace 8 rfl) (shE h2) rfl (Nat.le_of_ble_eq_true rfl) rfl (bw_mem2 111 rfl rfl) ?_
      refine WPe_ck fun h4 => ?_
      refine WPe_alen (pc := 17) (dd dtX2_hasPlace 9 rfl) (shL (shE h4)) ⟨(Nat.le_of_ble_eq_true rfl), (Nat.le_of_ble_eq_true rfl)⟩ ?_
      refine WPe_icmp_ge (pc := 18) 25 (dd dtX2_hasPlace 10 rfl) (by decide) (fun h5 => ?_) (fun h5 => ?_)
      · refine WPe_iconst (pc := 25) (0 : Int32) (dd dtX2_hasPlace 13 rfl) (by decide) ?_
        exact WPe_zreturn (pc := 26) (ty := .boolean) (dd dtX2_hasPlace 14 rfl) rfl rfl rfl ⟨(Nat.le_of_ble_eq_true rfl), (Nat.le_of_ble_eq_true rfl)⟩
      · refine WPe_iconst (pc := 21) (1 : Int32) (dd dtX2_hasPlace 11 rfl) (by decide) ?_
        refine WPe_goto (pc := 22) 26 (dd dtX2_hasPlace 12 rfl) (by decide) ?_
        exact WPe_zreturn (pc := 26) (ty := .boolean) (dd dtX2_hasPlace 14 rfl) rfl rfl rfl ⟨(Nat.le_of_ble_eq_true rfl), (Nat.le_of_ble_eq_true rfl)⟩
theorem okf2_hasPlace (x0 : Nat) (x1 : Int32) (w : Wd) : ∀ z, f2_hasPlace x0 x1 w = some z → OkM mX2_hasPlace 1 0 0 [vR x0, vI x1] w (rtI z.1) z.2 :=
  OkM.of (rt := rtI) moX2_hasPlace (Nat.le_of_ble_eq_true rfl) (fun X => wpf2_hasPlace X w x0 x1 w)
def tbX2_hasPlaces : List (Nat × Instr × Nat) := [(0, .iload_n 2, 1), (1, .ifCond .lt 29, 3), (4, .iload_n 1, 1), (5, .ifCond .lt 25, 3), (8, .iload_n 2, 1), (9, .aload_n 0, 1), (10, .getfield 19, 3), (13, .if_icmp .gt 17, 3), (16, .iload_n 1, 1), (17, .aload_n 0, 1), (18, .getfield 19, 3), (21, .iload_n 2, 1), (22, .isub, 1), (23, .if_icmp .gt 7, 3), (26, .iconst 1, 1), (27, .goto 4, 3), (30, .iconst 0, 1), (31, .ireturn, 1)]
set_option maxRecDepth 20000 in
theorem dtX2_hasPlaces : ∀ x ∈ tbX2_hasPlaces, decode cX2_hasPlaces x.1 = .ok x.2 := by decide +kernel
noncomputable def f2_hasPlaces (x0 : Nat) (x1 : Int32) (x2 : Int32) (w : Wd) : Option (Int32 × Wd) :=
  if x2 < (0 : Int32) then (some ((0 : Int32), w)) else (if x1 < (0 : Int32) then (some ((0 : Int32), w)) else (ck (tg w x0 = 2) (if (wi w x0 1) < x2 then (some ((0 : Int32), w)) else (if ((wi w x0 1) - x2) < x1 then (some ((0 : Int32), w)) else (some ((1 : Int32), w))))))
theorem wpf2_hasPlaces (X : CX) (w0 : Wd) (x0 : Nat) (x1 : Int32) (x2 : Int32) (w : Wd) : WPe rtI X (mX2_hasPlaces, 1, 0, 0, w0) 0 0 (f2_hasPlaces x0 x1 x2 w) 0 [(0, vR x0), (1, vI x1), (2, vI x2)] [] w := by
  unfold f2_hasPlaces
  refine WPe_iload_n (pc := 0) 2 (dd dtX2_hasPlaces 0 rfl) rfl ?_
  refine WPe_if_lt (pc := 1) 30 (dd dtX2_hasPlaces 1 rfl) (by decide) (fun h1 => ?_) (fun h1 => ?_)
  · refine WPe_iconst (pc := 30) (0 : Int32) (dd dtX2_hasPlaces 16 rfl) (by decide) ?_
    exact WPe_zreturn (pc := 31) (ty := .boolean) (dd dtX2_hasPlaces 17 rfl) rfl rfl rfl ⟨(Nat.le_of_ble_eq_true rfl), (Nat.le_of_ble_eq_true rfl)⟩
  · refine WPe_iload_n (pc := 4) 1 (dd dtX2_hasPlaces 2 rfl) rfl ?_
    refine WPe_if_lt (pc := 5) 30 (dd dtX2_hasPlaces 3 rfl) (by decide) (fun h2 => ?_) (fun h2 => ?_)
    · refine WPe_iconst (pc := 30) (0 : Int32) (dd dtX2_hasPlaces 16 rfl) (by decide) ?_
      exact WPe_zreturn (pc := 31) (ty := .boolean) (dd dtX2_hasPlaces 17 rfl) rfl rfl rfl ⟨(Nat.le_of_ble_eq_true rfl), (Nat.le_of_ble_eq_true rfl)⟩
    · refine WPe_iload_n (pc := 8) 2 (dd dtX2_hasPlaces 4 rfl) rfl ?_
      refine WPe_aload_n (pc := 9) 0 (dd dtX2_hasPlaces 5 rfl) rfl ?_
      refine WPe_ck fun h3 => ?_
      refine WPe_getI (pc := 10) (t := 2) (C := RX2) (T := TX2) 1 (dd dtX2_hasPlaces 6 rfl) (shE h3) rfl (Nat.le_of_ble_eq_true rfl) rfl (bw_mem2 109 rfl rfl) ?_
      refine WPe_icmp_gt (pc := 13) 30 (dd dtX2_hasPlaces 7 rfl) (by decide) (fun h4 => ?_) (fun h4 => ?_)
      · refine WPe_iconst (pc := 30) (0 : Int32) (dd dtX2_hasPlaces 16 rfl) (by decide) ?_
        exact WPe_zreturn (pc := 31) (ty := .boolean) (dd dtX2_hasPlaces 17 rfl) rfl rfl rfl ⟨(Nat.le_of_ble_eq_true rfl), (Nat.le_of_ble_eq_true rfl)⟩
      · refine WPe_iload_n (pc := 16) 1 (dd dtX2_hasPlaces 8 rfl) rfl ?_
        refine WPe_aload_n (pc := 17) 0 (dd dtX2_hasPlaces 9 rfl) rfl ?_
        refine WPe_getI (pc := 18) (t := 2) (C := RX2) (T := TX2) 1 (dd dtX2_hasPlaces 10 rfl) (shE h3) rfl (Nat.le_of_ble_eq_true rfl) rfl (bw_mem2 109 rfl rfl) ?_
        refine WPe_iload_n (pc := 21) 2 (dd dtX2_hasPlaces 11 rfl) rfl ?_
        refine WPe_isub (pc := 22) (dd dtX2_hasPlaces 12 rfl) ?_
        refine WPe_icmp_gt (pc := 23) 30 (dd dtX2_hasPlaces 13 rfl) (by decide) (fun h5 => ?_) (fun h5 => ?_)
        · refine WPe_iconst (pc := 30) (0 : Int32) (dd dtX2_hasPlaces 16 rfl) (by decide) ?_
          exact WPe_zreturn (pc := 31) (ty := .boolean) (dd dtX2_hasPlaces 17 rfl) rfl rfl rfl ⟨(Nat.le_of_ble_eq_true rfl), (Nat.le_of_ble_eq_true rfl)⟩
        · refine WPe_iconst (pc := 26) (1 : Int32) (dd dtX2_hasPlaces 14 rfl) (by decide) ?_
          refine WPe_goto (pc := 27) 31 (dd dtX2_hasPlaces 15 rfl) (by decide) ?_
          exact WPe_zreturn (pc := 31) (ty := .boolean) (dd dtX2_hasPlaces 17 rfl) rfl rfl rfl ⟨(Nat.le_of_ble_eq_true rfl), (Nat.le_of_ble_eq_true rfl)⟩
theorem okf2_hasPlaces (x0 : Nat) (x1 : Int32) (x2 : Int32) (w : Wd) : ∀ z, f2_hasPlaces x0 x1 x2 w = some z → OkM mX2_hasPlaces 1 0 0 [vR x0, vI x1, vI x2] w (rtI z.1) z.2 :=
  OkM.of (rt := rtI) moX2_hasPlaces (Nat.le_of_ble_eq_true rfl) (fun X => wpf2_hasPlaces X w x0 x1 x2 w)
def tbX2_write : List (Nat × Instr × Nat) := [(0, .aload_n 0, 1), (1, .iload_n 1, 1), (2, .invokevirtual 28, 3), (5, .ifCond .ne 4, 3), (8, .return_, 1), (9, .aload_n 0, 1), (10, .getfield 9, 3), (13, .ifCond .ne 14, 3), (16, .aload_n 0, 1), (17, .getfield 15, 3), (20, .iload_n 1, 1), (21, .iload_n 2, 1), (22, .i2b, 1), (23, .iastore, 1), (24, .goto 29, 3), (27, .aload_n 0, 1), (28, .getfield 9, 3), (31, .iconst 1, 1), (32, .if_icmp .ne 14, 3), (35, .aload_n 0, 1), (36, .getfield 15, 3), (39, .iload_n 1, 1), (40, .iload_n 2, 1), (41, .i2s, 1), (42, .iastore, 1), (43, .goto 10, 3), (46, .aload_n 0, 1), (47, .getfield 15, 3), (50, .iload_n 1, 1), (51, .iload_n 2, 1), (52, .iastore, 1), (53, .return_, 1)]
set_option maxRecDepth 20000 in
theorem dtX2_write : ∀ x ∈ tbX2_write, decode cX2_write x.1 = .ok x.2 := by decide +kernel
noncomputable def f2_write (x0 : Nat) (x1 : Int32) (x2 : Int32) (w : Wd) : Option (Unit × Wd) :=
  ck (tg w x0 = 2) ((f2_hasPlace x0 x1 w).bind fun z2 => (if z2.1 = (0 : Int32) then (some ((), z2.2)) else (if (wi z2.2 x0 0) = (0 : Int32) then (ck (tg z2.2 (wr z2.2 x0 2) = 20 ∧ vp_in x1 (ln z2.2 (wr z2.2 x0 2))) (lw (sI z2.2 (wr z2.2 x0 2) (x1).toNatClampNeg ((x2).toInt8.toInt32)) fun w8 => (some ((), w8)))) else (if (wi z2.2 x0 0) = (1 : Int32) then (ck (tg z2.2 (wr z2.2 x0 2) = 20 ∧ vp_in x1 (ln z2.2 (wr z2.2 x0 2))) (lw (sI z2.2 (wr z2.2 x0 2) (x1).toNatClampNeg ((x2).toInt16.toInt32)) fun w12 => (some ((), w12)))) else (ck (tg z2.2 (wr z2.2 x0 2) = 20 ∧ vp_in x1 (ln z2.2 (wr z2.2 x0 2))) (lw (sI z2.2 (wr z2.2 x0 2) (x1).toNatClampNeg x2) fun w15 => (some ((), w15))))))))
theorem wpf2_write (X : CX) (w0 : Wd) (x0 : Nat) (x1 : Int32) (x2 : Int32) (w : Wd) : WPe rtV X (mX2_write, 2, 0, 0, w0) 0 0 (f2_write x0 x1 x2 w) 0 [(0, vR x0), (1, vI x1), (2, vI x2)] [] w := by
  unfold f2_write
  refine WPe_aload_n (pc := 0) 0 (dd dtX2_write 0 rfl) rfl ?_
  refine WPe_iload_n (pc := 1) 1 (dd dtX2_write 1 rfl) rfl ?_
  refine WPe_ck fun h1 => ?_
  refine WPe_callV (pc := 2) (rtc := rtI) (Mc := mX2_hasPlace) (d' := 1) (mc' := 0) (ms' := 0) [vI x1] [] rfl (dd dtX2_write 2 rfl) (okf2_hasPlace x0 x1 w) moX2_hasPlace miX2_hasPlace (bw_mem3 183 rfl rfl) (Or.inl ⟨_, _, _, _, (shE h1), rfl⟩) rfl (Nat.le_of_ble_eq_true rfl) ⟨(Nat.le_of_ble_eq_true rfl), (Nat.le_of_ble_eq_true rfl)⟩ ⟨(Nat.le_of_ble_eq_true rfl), (Nat.le_of_ble_eq_true rfl)⟩ (fun z2 h3 e4 => ?_)
  refine WPe_st (st2 := [vI z2.1]) rfl ?_
  refine WPe_if_ne (pc := 5) 9 (dd dtX2_write 3 rfl) (by decide) (fun h5 => ?_) (fun h5 => ?_)
  · exact WPe_return (pc := 8) (dd dtX2_write 4 rfl) rfl rfl ⟨(Nat.le_of_ble_eq_true rfl), (Nat.le_of_ble_eq_true rfl)⟩
  · refine WPe_aload_n (pc := 9) 0 (dd dtX2_write 5 rfl) rfl ?_
    refine WPe_getI (pc := 10) (t := 2) (C := RX2) (T := TX2) 0 (dd dtX2_write 6 rfl) (e4.at (shE h1) (by decide)) rfl (Nat.le_of_ble_eq_true rfl) rfl (bw_mem2 107 rfl rfl) ?_
    refine WPe_if_ne (pc := 13) 27 (dd dtX2_write 7 rfl) (by decide) (fun h6 => ?_) (fun h6 => ?_)
    · refine WPe_aload_n (pc := 16) 0 (dd dtX2_write 8 rfl) rfl ?_
      refine WPe_getR (pc := 17) (t := 2) (C := RX2) (T := TX2) 2 (dd dtX2_write 9 rfl) (e4.at (shE h1) (by decide)) rfl (Nat.le_of_ble_eq_true rfl) rfl (bw_mem2 111 rfl rfl) ?_
      refine WPe_iload_n (pc := 20) 1 (dd dtX2_write 10 rfl) rfl ?_
      refine WPe_iload_n (pc := 21) 2 (dd dtX2_write 11 rfl) rfl ?_
      refine WPe_i2b (pc := 22) (dd dtX2_write 12 rfl) ?_
      refine WPe_ck fun h7 => ?_
      refine WPe_iast (pc := 23) (dd dtX2_write 13 rfl) (shE h7.1) h7.2 ?_
      refine WPe_lw fun w8 e9 => ?_
      refine WPe_goto (pc := 24) 53 (dd dtX2_write 14 rfl) (by decide) ?_
      exact WPe_return (pc := 53) (dd dtX2_write 31 rfl) rfl rfl ⟨(Nat.le_of_ble_eq_true rfl), (Nat.le_of_ble_eq_true rfl)⟩
    · refine WPe_aload_n (pc := 27) 0 (dd dtX2_write 15 rfl) rfl ?_
      refine WPe_getI (pc := 28) (t := 2) (C := RX2) (T := TX2) 0 (dd dtX2_write 16 rfl) (e4.at (shE h1) (by decide)) rfl (Nat.le_of_ble_eq_true rfl) rfl (bw_mem2 107 rfl rfl) ?_
      refine WPe_iconst (pc := 31) (1 : Int32) (dd dtX2_write 17 rfl) (by decide) ?_
      refine WPe_icmp_ne (pc := 32) 46 (dd dtX2_write 18 rfl) (by decide) (fun h10 => ?_) (fun h10 => ?_)
      · refine WPe_aload_n (pc := 35) 0 (dd dtX2_write 19 rfl) rfl ?_
        refine WPe_getR (pc := 36) (t := 2) (C := RX2) (T := TX2) 2 (dd dtX2_write 20 rfl) (e4.at (shE h1) (by decide)) rfl (Nat.le_of_ble_eq_true rfl) rfl (bw_mem2 111 rfl rfl) ?_
        refine WPe_iload_n (pc := 39) 1 (dd dtX2_write 21 rfl) rfl ?_
        refine WPe_iload_n (pc := 40) 2 (dd dtX2_write 22 rfl) rfl ?_
        refine WPe_i2s (pc := 41) (dd dtX2_write 23 rfl) ?_
        refine WPe_ck fun h11 => ?_
        refine WPe_iast (pc := 42) (dd dtX2_write 24 rfl) (shE h11.1) h11.2 ?_
        refine WPe_lw fun w12 e13 => ?_
        refine WPe_goto (pc := 43) 53 (dd dtX2_write 25 rfl) (by decide) ?_
        exact WPe_return (pc := 53) (dd dtX2_write 31 rfl) rfl rfl ⟨(Nat.le_of_ble_eq_true rfl), (Nat.le_of_ble_eq_true rfl)⟩
      · refine WPe_aload_n (pc := 46) 0 (dd dtX2_write 26 rfl) rfl ?_
        refine WPe_getR (pc := 47) (t := 2) (C := RX2) (T := TX2) 2 (dd dtX2_write 27 rfl) (e4.at (shE h1) (by decide)) rfl (Nat.le_of_ble_eq_true rfl) rfl (bw_mem2 111 rfl rfl) ?_
        refine WPe_iload_n (pc := 50) 1 (dd dtX2_write 28 rfl) rfl ?_
        refine WPe_iload_n (pc := 51) 2 (dd dtX2_write 29 rfl) rfl ?_
        refine WPe_ck fun h14 => ?_
        refine WPe_iast (pc := 52) (dd dtX2_write 30 rfl) (shE h14.1) h14.2 ?_
        refine WPe_lw fun w15 e16 => ?_
        exact WPe_return (pc := 53) (dd dtX2_write 31 rfl) rfl rfl ⟨(Nat.le_of_ble_eq_true rfl), (Nat.le_of_ble_eq_true rfl)⟩
theorem okf2_write (x0 : Nat) (x1 : Int32) (x2 : Int32) (w : Wd) : ∀ z, f2_write x0 x1 x2 w = some z → OkM mX2_write 2 0 0 [vR x0, vI x1, vI x2] w (rtV z.1) z.2 :=
  OkM.of (rt := rtV) moX2_write (Nat.le_of_ble_eq_true rfl) (fun X => wpf2_write X w x0 x1 x2 w)
def tbX3_init : List (Nat × Instr × Nat) := [(0, .aload_n 0, 1), (1, .invokespecial 3, 3), (4, .aload_n 0, 1), (5, .sipush 160, 3), (8, .newarray .int, 2), (10, .putfield 9, 3), (13, .aload_n 0, 1), (14, .sipush 160, 3), (17, .newarray .int, 2), (19, .putfield 15, 3), (22, .aload_n 0, 1), (23, .sipush 160, 3), (26, .newarray .int, 2), (28, .putfield 18, 3), (31, .aload_n 0, 1), (32, .sipush 160, 3), (35, .newarray .int, 2), (37, .putfield 21, 3), (40, .return_, 1)]
set_option maxRecDepth 20000 in
theorem dtX3_init : ∀ x ∈ tbX3_init, decode cX3_init x.1 = .ok x.2 := by decide +kernel
noncomputable def f3_init (x0 : Nat) (w : Wd) : Option (Unit × Wd) :=
  ck (tg w x0 = 3) (lw (wN w 20 160) fun w4 => (lw (sR w4 x0 0 (nx w)) fun w6 => (lw (wN w6 20 160) fun w9 => (lw (sR w9 x0 2 (nx w6)) fun w11 => (lw (wN w11 20 160) fun w14 => (lw (sR w14 x0 3 (nx w11)) fun w16 => (lw (wN w16 20 160) fun w19 => (lw (sR w19 x0 6 (nx w16)) fun w21 => (some ((), w21))))))))))
theorem wpf3_init (X : CX) (w0 : Wd) (x0 : Nat) (w : Wd) : WPe rtV X (mX3_init, 1, 4, 640, w0) 0 0 (f3_init x0 w) 0 [(0, vR x0)] [] w := by
  unfold f3_init
  refine WPe_aload_n (pc := 0) 0 (dd dtX3_init 0 rfl) rfl ?_
  refine WPe_ck fun h1 => ?_
  refine WPe_pos (shE h1) (by decide) fun h2 => ?_
  refine WPe_objInit (pc := 1) (dd dtX3_init 1 rfl) h2 (bw_mem1 28 rfl rfl) oi1 oi2 (Nat.le_of_ble_eq_true rfl) (Nat.le_of_ble_eq_true rfl) ?_
  refine WPe_aload_n (pc := 4) 0 (dd dtX3_init 2 rfl) rfl ?_
  refine WPe_sipush (pc := 5) (160 : Int32) (dd dtX3_init 3 rfl) (by decide) ?_
  refine WPe_nx fun n3 => ?_
  refine WPe_newI (pc := 8) (N := 160) (dd dtX3_init 4 rfl) (bw_mem1 61 rfl rfl) (by decide) (by decide) (Nat.le_of_ble_eq_true rfl) ⟨(Nat.le_of_ble_eq_true rfl), (Nat.le_of_ble_eq_true rfl)⟩ ?_
  refine WPe_lw fun w4 e5 => ?_
  refine WPe_putR (pc := 10) (t := 3) (C := RX3) (T := TX3) 0 (dd dtX3_init 5 rfl) (shX n3 e5 (shE h1) (by decide)) rfl (Nat.le_of_ble_eq_true rfl) (bw_mem1 29 rfl rfl) (Or.inr ⟨rfl, rfl, rfl⟩) rfl ?_
  refine WPe_lw fun w6 e7 => ?_
  refine WPe_aload_n (pc := 13) 0 (dd dtX3_init 6 rfl) rfl ?_
  refine WPe_sipush (pc := 14) (160 : Int32) (dd dtX3_init 7 rfl) (by decide) ?_
  refine WPe_nx fun n8 => ?_
  refine WPe_newI (pc := 17) (N := 160) (dd dtX3_init 8 rfl) (bw_mem1 61 rfl rfl) (by decide) (by decide) (Nat.le_of_ble_eq_true rfl) ⟨(Nat.le_of_ble_eq_true rfl), (Nat.le_of_ble_eq_true rfl)⟩ ?_
  refine WPe_lw fun w9 e10 => ?_
  refine WPe_putR (pc := 19) (t := 3) (C := RX3) (T := TX3) 2 (dd dtX3_init 9 rfl) (shX n8 e10 (shR e7 (shX n3 e5 (shE h1) (by decide))) (by decide)) rfl (Nat.le_of_ble_eq_true rfl) (bw_mem1 32 rfl rfl) (Or.inr ⟨rfl, rfl, rfl⟩) rfl ?_
  refine WPe_lw fun w11 e12 => ?_
  refine WPe_aload_n (pc := 22) 0 (dd dtX3_init 10 rfl) rfl ?_
  refine WPe_sipush (pc := 23) (160 : Int32) (dd dtX3_init 11 rfl) (by decide) ?_
  refine WPe_nx fun n13 => ?_
  refine WPe_newI (pc := 26) (N := 160) (dd dtX3_init 12 rfl) (bw_mem1 61 rfl rfl) (by decide) (by decide) (Nat.le_of_ble_eq_true rfl) ⟨(Nat.le_of_ble_eq_true rfl), (Nat.le_of_ble_eq_true rfl)⟩ ?_
  refine WPe_lw fun w14 e15 => ?_
  refine WPe_putR (pc := 28) (t := 3) (C := RX3) (T := TX3) 3 (dd dtX3_init 13 rfl) (shX n13 e15 (shR e12 (shX n8 e10 (shR e7 (shX n3 e5 (shE h1) (by decide))) (by decide))) (by decide)) rfl (Nat.le_of_ble_eq_true rfl) (bw_mem1 33 rfl rfl) (Or.inr ⟨rfl, rfl, rfl⟩) rfl ?_
  refine WPe_lw fun w16 e17 => ?_
  refine WPe_aload_n (pc := 31) 0 (dd dtX3_init 14 rfl) rfl ?_
  refine WPe_sipush (pc := 32) (160 : Int32) (dd dtX3_init 15 rfl) (by decide) ?_
  refine WPe_nx fun n18 => ?_
  refine WPe_newI (pc := 35) (N := 160) (dd dtX3_init 16 rfl) (bw_mem1 61 rfl rfl) (by decide) (by decide) (Nat.le_of_ble_eq_true rfl) ⟨(Nat.le_of_ble_eq_true rfl), (Nat.le_of_ble_eq_true rfl)⟩ ?_
  refine WPe_lw fun w19 e20 => ?_
  refine WPe_putR (pc := 37) (t := 3) (C := RX3) (T := TX3) 6 (dd dtX3_init 17 rfl) (shX n18 e20 (shR e17 (shX n13 e15 (shR e12 (shX n8 e10 (shR e7 (shX n3 e5 (shE h1) (by decide))) (by decide))) (by decide))) (by decide)) rfl (Nat.le_of_ble_eq_true rfl) (bw_mem1 36 rfl rfl) (Or.inr ⟨rfl, rfl, rfl⟩) rfl ?_
  refine WPe_lw fun w21 e22 => ?_
  exact WPe_return (pc := 40) (dd dtX3_init 18 rfl) rfl rfl ⟨(Nat.le_of_ble_eq_true rfl), (Nat.le_of_ble_eq_true rfl)⟩
theorem okf3_init (x0 : Nat) (w : Wd) : ∀ z, f3_init x0 w = some z → OkM mX3_init 1 4 640 [vR x0] w (rtV z.1) z.2 :=
  OkM.of (rt := rtV) moX3_init (Nat.le_of_ble_eq_true rfl) (fun X => wpf3_init X w x0 w)
def tbX3_hasRoom : List (Nat × Instr × Nat) := [(0, .aload_n 0, 1), (1, .getfield 24, 3), (4, .iload_n 1, 1), (5, .iadd, 1), (6, .aload_n 0, 1), (7, .getfield 9, 3), (10, .arraylength, 1), (11, .if_icmp .gt 7, 3), (14, .iconst 1, 1), (15, .goto 4, 3), (18, .iconst 0, 1), (19, .ireturn, 1)]
set_option maxRecDepth 20000 in
theorem dtX3_hasRoom : ∀ x ∈ tbX3_hasRoom, decode cX3_hasRoom x.1 = .ok x.2 := by decide +kernel
noncomputable def f3_hasRoom (x0 : Nat) (x1 : Int32) (w : Wd) : Option (Int32 × Wd) :=
  ck (tg w x0 = 3) (ck (tg w (wr w x0 0) = 20) (if (Int32.ofNat (ln w (wr w x0 0))) < ((wi w x0 1) + x1) then (some ((0 : Int32), w)) else (some ((1 : Int32), w))))
theorem wpf3_hasRoom (X : CX) (w0 : Wd) (x0 : Nat) (x1 : Int32) (w : Wd) : WPe rtI X (mX3_hasRoom, 1, 0, 0, w0) 0 0 (f3_hasRoom x0 x1 w) 0 [(0, vR x0), (1, vI x1)] [] w := by
  unfold f3_hasRoom
  refine WPe_aload_n (pc := 0) 0 (dd dtX3_hasRoom 0 rfl) rfl ?_
  refine WPe_ck fun h1 => ?_
  refine WPe_getI (pc := 1) (t := 3) (C := RX3) (T := TX3) 1 (dd dtX3_hasRoom 1 rfl) (shE h1) rfl (Nat.le_of_ble_eq_true rfl) rfl (bw_mem1 31 rfl rfl) ?_
  refine WPe_iload_n (pc := 4) 1 (dd dtX3_hasRoom 2 rfl) rfl ?_
  refine WPe_iadd (pc := 5) (dd dtX3_hasRoom 3 rfl) ?_
  refine WPe_aload_n (pc := 6) 0 (dd dtX3_hasRoom 4 rfl) rfl ?_
  refine WPe_getR (pc := 7) (t := 3) (C := RX3) (T := TX3) 0 (dd dtX3_hasRoom 5 rfl) (shE h1) rfl (Nat.le_of_ble_eq_true rfl) rfl (bw_mem1 29 rfl rfl) ?_
  refine WPe_ck fun h2 => ?_
  refine WPe_alen (pc := 10) (dd dtX3_hasRoom 6 rfl) (shL (shE h2)) ⟨(Nat.le_of_ble_eq_true rfl), (Nat.le_of_ble_eq_true rfl)⟩ ?_
  refine WPe_icmp_gt (pc := 11) 18 (dd dtX3_hasRoom 7 rfl) (by decide) (fun h3 => ?_) (fun h3 => ?_)
  · refine WPe_iconst (pc := 18) (0 : Int32) (dd dtX3_hasRoom 10 rfl) (by decide) ?_
    exact WPe_zreturn (pc := 19) (ty := .boolean) (dd dtX3_hasRoom 11 rfl) rfl rfl rfl ⟨(Nat.le_of_ble_eq_true rfl), (Nat.le_of_ble_eq_true rfl)⟩
  · refine WPe_iconst (pc := 14) (1 : Int32) (dd dtX3_hasRoom 8 rfl) (by decide) ?_
    refine WPe_goto (pc := 15) 19 (dd dtX3_hasRoom 9 rfl) (by decide) ?_
    exact WPe_zreturn (pc := 19) (ty := .boolean) (dd dtX3_hasRoom 11 rfl) rfl rfl rfl ⟨(Nat.le_of_ble_eq_true rfl), (Nat.le_of_ble_eq_true rfl)⟩
theorem okf3_hasRoom (x0 : Nat) (x1 : Int32) (w : Wd) : ∀ z, f3_hasRoom x0 x1 w = some z → OkM mX3_hasRoom 1 0 0 [vR x0, vI x1] w (rtI z.1) z.2 :=
  OkM.of (rt := rtI) moX3_hasRoom (Nat.le_of_ble_eq_true rfl) (fun X => wpf3_hasRoom X w x0 x1 w)
def tbX3_add : List (Nat × Instr × Nat) := [(0, .aload_n 0, 1), (1, .iconst 1, 1), (2, .invokevirtual 28, 3), (5, .ifCond .eq 23, 3), (8, .aload_n 0, 1), (9, .getfield 9, 3), (12, .aload_n 0, 1), (13, .getfield 24, 3), (16, .iload_n 1, 1), (17, .iastore, 1), (18, .aload_n 0, 1), (19, .dup, 1), (20, .getfield 24, 3), (23, .iconst 1, 1), (24, .iadd, 1), (25, .putfield 24, 3), (28, .return_, 1)]
set_option maxRecDepth 20000 in
theorem dtX3_add : ∀ x ∈ tbX3_add, decode cX3_add x.1 = .ok x.2 := by decide +kernel
noncomputable def f3_add (x0 : Nat) (x1 : Int32) (w : Wd) : Option (Unit × Wd) :=
  ck (tg w x0 = 3) ((f3_hasRoom x0 (1 : Int32) w).bind fun z2 => (if z2.1 = (0 : Int32) then (some ((), z2.2)) else (ck (tg z2.2 (wr z2.2 x0 0) = 20 ∧ vp_in (wi z2.2 x0 1) (ln z2.2 (wr z2.2 x0 0))) (lw (sI z2.2 (wr z2.2 x0 0) ((wi z2.2 x0 1)).toNatClampNeg x1) fun w7 => (lw (sI w7 x0 1 ((wi w7 x0 1) + (1 : Int32))) fun w9 => (some ((), w9)))))))
theorem wpf3_add (X : CX) (w0 : Wd) (x0 : Nat) (x1 : Int32) (w : Wd) : WPe rtV X (mX3_add, 2, 0, 0, w0) 0 0 (f3_add x0 x1 w) 0 [(0, vR x0), (1, vI x1)] [] w := by
  unfold f3_add
  refine WPe_aload_n (pc := 0) 0 (dd dtX3_add 0 rfl) rfl ?_
  refine WPe_iconst (pc := 1) (1 : Int32) (dd dtX3_add 1 rfl) (by decide) ?_
  refine WPe_ck fun h1 => ?_
  refine WPe_callV (pc := 2) (rtc := rtI) (Mc := mX3_hasRoom) (d' := 1) (mc' := 0) (ms' := 0) [vI (1 : Int32)] [] rfl (dd dtX3_add 2 rfl) (okf3_hasRoom x0 (1 : Int32) w) moX3_hasRoom miX3_hasRoom (bw_mem1 119 rfl rfl) (Or.inl ⟨_, _, _, _, (shE h1), rfl⟩) rfl (Nat.le_of_ble_eq_true rfl) ⟨(Nat.le_of_ble_eq_true rfl), (Nat.le_of_ble_eq_true rfl)⟩ ⟨(Nat.le_of_ble_eq_true rfl), (Nat.le_of_ble_eq_true rfl)⟩ (fun z2 h3 e4 => ?_)
  refine WPe_st (st2 := [vI z2.1]) rfl ?_
  refine WPe_if_eq (pc := 5) 28 (dd dtX3_add 3 rfl) (by decide) (fun h5 => ?_) (fun h5 => ?_)
  · exact WPe_return (pc := 28) (dd dtX3_add 16 rfl) rfl rfl ⟨(Nat.le_of_ble_eq_true rfl), (Nat.le_of_ble_eq_true rfl)⟩
  · refine WPe_aload_n (pc := 8) 0 (dd dtX3_add 4 rfl) rfl ?_
    refine WPe_getR (pc := 9) (t := 3) (C := RX3) (T := TX3) 0 (dd dtX3_add 5 rfl) (e4.at (shE h1) (by decide)) rfl (Nat.le_of_ble_eq_true rfl) rfl (bw_mem1 29 rfl rfl) ?_
    refine WPe_aload_n (pc := 12) 0 (dd dtX3_add 6 rfl) rfl ?_
    refine WPe_getI (pc := 13) (t := 3) (C := RX3) (T := TX3) 1 (dd dtX3_add 7 rfl) (e4.at (shE h1) (by decide)) rfl (Nat.le_of_ble_eq_true rfl) rfl (bw_mem1 31 rfl rfl) ?_
    refine WPe_iload_n (pc := 16) 1 (dd dtX3_add 8 rfl) rfl ?_
    refine WPe_ck fun h6 => ?_
    refine WPe_iast (pc := 17) (dd dtX3_add 9 rfl) (shE h6.1) h6.2 ?_
    refine WPe_lw fun w7 e8 => ?_
    refine WPe_aload_n (pc := 18) 0 (dd dtX3_add 10 rfl) rfl ?_
    refine WPe_dup (pc := 19) (dd dtX3_add 11 rfl) rfl ?_
    refine WPe_getI (pc := 20) (t := 3) (C := RX3) (T := TX3) 1 (dd dtX3_add 12 rfl) (shI e8 (e4.at (shE h1) (by decide))) rfl (Nat.le_of_ble_eq_true rfl) rfl (bw_mem1 31 rfl rfl) ?_
    refine WPe_iconst (pc := 23) (1 : Int32) (dd dtX3_add 13 rfl) (by decide) ?_
    refine WPe_iadd (pc := 24) (dd dtX3_add 14 rfl) ?_
    refine WPe_putI (pc := 25) (t := 3) (C := RX3) (T := TX3) 1 (dd dtX3_add 15 rfl) (shI e8 (e4.at (shE h1) (by decide))) rfl (Nat.le_of_ble_eq_true rfl) (bw_mem1 31 rfl rfl) (Or.inl rfl) rfl rfl rfl ?_
    refine WPe_lw fun w9 e10 => ?_
    exact WPe_return (pc := 28) (dd dtX3_add 16 rfl) rfl rfl ⟨(Nat.le_of_ble_eq_true rfl), (Nat.le_of_ble_eq_true rfl)⟩
theorem okf3_add (x0 : Nat) (x1 : Int32) (w : Wd) : ∀ z, f3_add x0 x1 w = some z → OkM mX3_add 2 0 0 [vR x0, vI x1] w (rtV z.1) z.2 :=
  OkM.of (rt := rtV) moX3_add (Nat.le_of_ble_eq_true rfl) (fun X => wpf3_add X w x0 x1 w)
def tbJ0_coder_7d493 : List (Nat × Instr × Nat) := [(0, .getstatic 38, 3), (3, .ifCond .eq 10, 3), (6, .aload_n 0, 1), (7, .getfield 15, 3), (10, .goto 4, 3), (13, .iconst 1, 1), (14, .ireturn, 1)]
set_option maxRecDepth 20000 in
theorem dtJ0_coder_7d493 : ∀ x ∈ tbJ0_coder_7d493, decode cJ0_coder_7d493 x.1 = .ok x.2 := by decide +kernel
noncomputable def fJ0_coder_7d493 (x0 : Nat) (w : Wd) : Option (Int32 × Wd) :=
  if (1 : Int32) = (0 : Int32) then (some ((1 : Int32), w)) else (ck (2 ≤ x0 ∧ x0 < 15) (some ((0 : Int32), w)))
theorem wpfJ0_coder_7d493 (X : CX) (w0 : Wd) (x0 : Nat) (w : Wd) : WPe rtI X (mJ0_coder_7d493, 1, 0, 0, w0) 0 0 (fJ0_coder_7d493 x0 w) 0 [(0, vR x0)] [] w := by
  unfold fJ0_coder_7d493
  refine WPe_getCS (pc := 0) (dd dtJ0_coder_7d493 0 rfl) (bw_mem1 75 rfl rfl) ?_
  refine WPe_if_eq (pc := 3) 13 (dd dtJ0_coder_7d493 1 rfl) (by decide) (fun h1 => ?_) (fun h1 => ?_)
  · refine WPe_iconst (pc := 13) (1 : Int32) (dd dtJ0_coder_7d493 5 rfl) (by decide) ?_
    exact WPe_zreturn (pc := 14) (ty := .byte) (dd dtJ0_coder_7d493 6 rfl) rfl rfl rfl ⟨(Nat.le_of_ble_eq_true rfl), (Nat.le_of_ble_eq_true rfl)⟩
  · refine WPe_aload_n (pc := 6) 0 (dd dtJ0_coder_7d493 2 rfl) rfl ?_
    refine WPe_ck fun h2 => ?_
    refine WPe_strCoder (pc := 7) (dd dtJ0_coder_7d493 3 rfl) h2 (bw_mem5 193 rfl rfl) ?_
    refine WPe_goto (pc := 10) 14 (dd dtJ0_coder_7d493 4 rfl) (by decide) ?_
    exact WPe_zreturn (pc := 14) (ty := .byte) (dd dtJ0_coder_7d493 6 rfl) rfl rfl rfl ⟨(Nat.le_of_ble_eq_true rfl), (Nat.le_of_ble_eq_true rfl)⟩
theorem okfJ0_coder_7d493 (x0 : Nat) (w : Wd) : ∀ z, fJ0_coder_7d493 x0 w = some z → OkM mJ0_coder_7d493 1 0 0 [vR x0] w (rtI z.1) z.2 :=
  OkM.of (rt := rtI) moJ0_coder_7d493 (Nat.le_of_ble_eq_true rfl) (fun X => wpfJ0_coder_7d493 X w x0 w)
def tbJ0_length_8abf5 : List (Nat × Instr × Nat) := [(0, .aload_n 0, 1), (1, .getfield 9, 3), (4, .arraylength, 1), (5, .aload_n 0, 1), (6, .invokevirtual 335, 3), (9, .ishr, 1), (10, .ireturn, 1)]
set_option maxRecDepth 20000 in
theorem dtJ0_length_8abf5 : ∀ x ∈ tbJ0_length_8abf5, decode cJ0_length_8abf5 x.1 = .ok x.2 := by decide +kernel
noncomputable def fJ0_length_8abf5 (x0 : Nat) (w : Wd) : Option (Int32 × Wd) :=
  ck (2 ≤ x0 ∧ x0 < 15) ((fJ0_coder_7d493 x0 w).bind fun z2 => (some (((Int32.ofNat (sLen.getD ((x0 + 15) - 17) 0)) >>> (z2.1 &&& 31)), z2.2)))
theorem wpfJ0_length_8abf5 (X : CX) (w0 : Wd) (x0 : Nat) (w : Wd) : WPe rtI X (mJ0_length_8abf5, 2, 0, 0, w0) 0 0 (fJ0_length_8abf5 x0 w) 0 [(0, vR x0)] [] w := by
  unfold fJ0_length_8abf5
  refine WPe_aload_n (pc := 0) 0 (dd dtJ0_length_8abf5 0 rfl) rfl ?_
  refine WPe_ck fun h1 => ?_
  refine WPe_strVal (pc := 1) (dd dtJ0_length_8abf5 1 rfl) h1 (bw_mem5 192 rfl rfl) ?_
  refine WPe_blen (pc := 4) (dd dtJ0_length_8abf5 2 rfl) (sB h1) ?_
  refine WPe_aload_n (pc := 5) 0 (dd dtJ0_length_8abf5 3 rfl) rfl ?_
  refine WPe_callV (pc := 6) (rtc := rtI) (Mc := mJ0_coder_7d493) (d' := 1) (mc' := 0) (ms' := 0) [] [vI (Int32.ofNat (sLen.getD ((x0 + 15) - 17) 0))] rfl (dd dtJ0_length_8abf5 4 rfl) (okfJ0_coder_7d493 x0 w) moJ0_coder_7d493 miJ0_coder_7d493 (bw_mem1 71 rfl rfl) (Or.inr ⟨h1.1, h1.2, rfl⟩) rfl (Nat.le_of_ble_eq_true rfl) ⟨(Nat.le_of_ble_eq_true rfl), (Nat.le_of_ble_eq_true rfl)⟩ ⟨(Nat.le_of_ble_eq_true rfl), (Nat.le_of_ble_eq_true rfl)⟩ (fun z2 h3 e4 => ?_)
  refine WPe_st (st2 := [vI z2.1, vI (Int32.ofNat (sLen.getD ((x0 + 15) - 17) 0))]) rfl ?_
  refine WPe_ishr (pc := 9) (dd dtJ0_length_8abf5 5 rfl) ?_
  exact WPe_ireturn (pc := 10) (dd dtJ0_length_8abf5 6 rfl) rfl rfl ⟨(Nat.le_of_ble_eq_true rfl), (Nat.le_of_ble_eq_true rfl)⟩
theorem okfJ0_length_8abf5 (x0 : Nat) (w : Wd) : ∀ z, fJ0_length_8abf5 x0 w = some z → OkM mJ0_length_8abf5 2 0 0 [vR x0] w (rtI z.1) z.2 :=
  OkM.of (rt := rtI) moJ0_length_8abf5 (Nat.le_of_ble_eq_true rfl) (fun X => wpfJ0_length_8abf5 X w x0 w)
def tbJ0_isLatin1_aae02 : List (Nat × Instr × Nat) := [(0, .getstatic 38, 3), (3, .ifCond .eq 14, 3), (6, .aload_n 0, 1), (7, .getfield 15, 3), (10, .ifCond .ne 7, 3), (13, .iconst 1, 1), (14, .goto 4, 3), (17, .iconst 0, 1), (18, .ireturn, 1)]
set_option maxRecDepth 20000 in
theorem dtJ0_isLatin1_aae02 : ∀ x ∈ tbJ0_isLatin1_aae02, decode cJ0_isLatin1_aae02 x.1 = .ok x.2 := by decide +kernel
noncomputable def fJ0_isLatin1_aae02 (x0 : Nat) (w : Wd) : Option (Int32 × Wd) :=
  if (1 : Int32) = (0 : Int32) then (some ((0 : Int32), w)) else (ck (2 ≤ x0 ∧ x0 < 15) (if (0 : Int32) = (0 : Int32) then (some ((1 : Int32), w)) else (some ((0 : Int32), w))))
theorem wpfJ0_isLatin1_aae02 (X : CX) (w0 : Wd) (x0 : Nat) (w : Wd) : WPe rtI X (mJ0_isLatin1_aae02, 1, 0, 0, w0) 0 0 (fJ0_isLatin1_aae02 x0 w) 0 [(0, vR x0)] [] w := by
  unfold fJ0_isLatin1_aae02
  refine WPe_getCS (pc := 0) (dd dtJ0_isLatin1_aae02 0 rfl) (bw_mem1 75 rfl rfl) ?_
  refine WPe_if_eq (pc := 3) 17 (dd dtJ0_isLatin1_aae02 1 rfl) (by decide) (fun h1 => ?_) (fun h1 => ?_)
  · refine WPe_iconst (pc := 17) (0 : Int32) (dd dtJ0_isLatin1_aae02 7 rfl) (by decide) ?_
    exact WPe_zreturn (pc := 18) (ty := .boolean) (dd dtJ0_isLatin1_aae02 8 rfl) rfl rfl rfl ⟨(Nat.le_of_ble_eq_true rfl), (Nat.le_of_ble_eq_true rfl)⟩
  · refine WPe_aload_n (pc := 6) 0 (dd dtJ0_isLatin1_aae02 2 rfl) rfl ?_
    refine WPe_ck fun h2 => ?_
    refine WPe_strCoder (pc := 7) (dd dtJ0_isLatin1_aae02 3 rfl) h2 (bw_mem5 193 rfl rfl) ?_
    refine WPe_if_ne (pc := 10) 17 (dd dtJ0_isLatin1_aae02 4 rfl) (by decide) (fun h3 => ?_) (fun h3 => ?_)
    · refine WPe_iconst (pc := 13) (1 : Int32) (dd dtJ0_isLatin1_aae02 5 rfl) (by decide) ?_
      refine WPe_goto (pc := 14) 18 (dd dtJ0_isLatin1_aae02 6 rfl) (by decide) ?_
      exact WPe_zreturn (pc := 18) (ty := .boolean) (dd dtJ0_isLatin1_aae02 8 rfl) rfl rfl rfl ⟨(Nat.le_of_ble_eq_true rfl), (Nat.le_of_ble_eq_true rfl)⟩
    · refine WPe_iconst (pc := 17) (0 : Int32) (dd dtJ0_isLatin1_aae02 7 rfl) (by decide) ?_
      exact WPe_zreturn (pc := 18) (ty := .boolean) (dd dtJ0_isLatin1_aae02 8 rfl) rfl rfl rfl ⟨(Nat.le_of_ble_eq_true rfl), (Nat.le_of_ble_eq_true rfl)⟩
theorem okfJ0_isLatin1_aae02 (x0 : Nat) (w : Wd) : ∀ z, fJ0_isLatin1_aae02 x0 w = some z → OkM mJ0_isLatin1_aae02 1 0 0 [vR x0] w (rtI z.1) z.2 :=
  OkM.of (rt := rtI) moJ0_isLatin1_aae02 (Nat.le_of_ble_eq_true rfl) (fun X => wpfJ0_isLatin1_aae02 X w x0 w)
def tbJ3_checkIndex_8e157 : List (Nat × Instr × Nat) := [(0, .iload_n 0, 1), (1, .ifCond .lt 8, 3), (4, .iload_n 0, 1), (5, .iload_n 1, 1), (6, .if_icmp .lt 10, 3), (9, .aload_n 2, 1), (10, .iload_n 0, 1), (11, .iload_n 1, 1), (12, .invokestatic 95, 3), (15, .athrow, 1), (16, .iload_n 0, 1), (17, .ireturn, 1)]
set_option maxRecDepth 20000 in
theorem dtJ3_checkIndex_8e157 : ∀ x ∈ tbJ3_checkIndex_8e157, decode cJ3_checkIndex_8e157 x.1 = .ok x.2 := by decide +kernel
noncomputable def fJ3_checkIndex_8e157 (x0 : Int32) (x1 : Int32) (w : Wd) : Option (Int32 × Wd) :=
  if x0 < (0 : Int32) then (none) else (if x0 < x1 then (some (x0, w)) else (none))
theorem wpfJ3_checkIndex_8e157 (X : CX) (w0 : Wd) (x0 : Int32) (x1 : Int32) (x2 : Nat) (w : Wd) : WPe rtI X (mJ3_checkIndex_8e157, 1, 0, 0, w0) 0 0 (fJ3_checkIndex_8e157 x0 x1 w) 0 [(0, vI x0), (1, vI x1), (2, vR x2)] [] w := by
  unfold fJ3_checkIndex_8e157
  refine WPe_iload_n (pc := 0) 0 (dd dtJ3_checkIndex_8e157 0 rfl) rfl ?_
  refine WPe_if_lt (pc := 1) 9 (dd dtJ3_checkIndex_8e157 1 rfl) (by decide) (fun h1 => ?_) (fun h1 => ?_)
  · refine WPe_aload_n (pc := 9) 2 (dd dtJ3_checkIndex_8e157 5 rfl) rfl ?_
    refine WPe_iload_n (pc := 10) 0 (dd dtJ3_checkIndex_8e157 6 rfl) rfl ?_
    refine WPe_iload_n (pc := 11) 1 (dd dtJ3_checkIndex_8e157 7 rfl) rfl ?_
    exact WPe_none
  · refine WPe_iload_n (pc := 4) 0 (dd dtJ3_checkIndex_8e157 2 rfl) rfl ?_
    refine WPe_iload_n (pc := 5) 1 (dd dtJ3_checkIndex_8e157 3 rfl) rfl ?_
    refine WPe_icmp_lt (pc := 6) 16 (dd dtJ3_checkIndex_8e157 4 rfl) (by decide) (fun h2 => ?_) (fun h2 => ?_)
    · refine WPe_iload_n (pc := 16) 0 (dd dtJ3_checkIndex_8e157 10 rfl) rfl ?_
      exact WPe_ireturn (pc := 17) (dd dtJ3_checkIndex_8e157 11 rfl) rfl rfl ⟨(Nat.le_of_ble_eq_true rfl), (Nat.le_of_ble_eq_true rfl)⟩
    · refine WPe_aload_n (pc := 9) 2 (dd dtJ3_checkIndex_8e157 5 rfl) rfl ?_
      refine WPe_iload_n (pc := 10) 0 (dd dtJ3_checkIndex_8e157 6 rfl) rfl ?_
      refine WPe_iload_n (pc := 11) 1 (dd dtJ3_checkIndex_8e157 7 rfl) rfl ?_
      exact WPe_none
theorem okfJ3_checkIndex_8e157 (x0 : Int32) (x1 : Int32) (x2 : Nat) (w : Wd) : ∀ z, fJ3_checkIndex_8e157 x0 x1 w = some z → OkM mJ3_checkIndex_8e157 1 0 0 [vI x0, vI x1, vR x2] w (rtI z.1) z.2 :=
  OkM.of (rt := rtI) moJ3_checkIndex_8e157 (Nat.le_of_ble_eq_true rfl) (fun X => wpfJ3_checkIndex_8e157 X w x0 x1 x2 w)
def tbJ0_checkIndex_df160 : List (Nat × Instr × Nat) := [(0, .iload_n 0, 1), (1, .iload_n 1, 1), (2, .getstatic 1053, 3), (5, .invokestatic 1059, 3), (8, .pop, 1), (9, .return_, 1)]
set_option maxRecDepth 20000 in
theorem dtJ0_checkIndex_df160 : ∀ x ∈ tbJ0_checkIndex_df160, decode cJ0_checkIndex_df160 x.1 = .ok x.2 := by decide +kernel
noncomputable def fJ0_checkIndex_df160 (x0 : Int32) (x1 : Int32) (w : Wd) : Option (Unit × Wd) :=
  (fJ3_checkIndex_8e157 x0 x1 w).bind fun z1 => (some ((), z1.2))
theorem wpfJ0_checkIndex_df160 (X : CX) (w0 : Wd) (x0 : Int32) (x1 : Int32) (w : Wd) : WPe rtV X (mJ0_checkIndex_df160, 2, 0, 0, w0) 0 0 (fJ0_checkIndex_df160 x0 x1 w) 0 [(0, vI x0), (1, vI x1)] [] w := by
  unfold fJ0_checkIndex_df160
  refine WPe_iload_n (pc := 0) 0 (dd dtJ0_checkIndex_df160 0 rfl) rfl ?_
  refine WPe_iload_n (pc := 1) 1 (dd dtJ0_checkIndex_df160 1 rfl) rfl ?_
  refine WPe_getSIO (pc := 2) (dd dtJ0_checkIndex_df160 2 rfl) (bw_mem1 91 rfl rfl) (fun gq hgq => ?_)
  refine WPe_callS (pc := 5) (rtc := rtI) (Mc := mJ3_checkIndex_8e157) (d' := 1) (mc' := 0) (ms' := 0) [vI x0, vI x1, vR gq] [] rfl (dd dtJ0_checkIndex_df160 3 rfl) (okfJ3_checkIndex_8e157 x0 x1 gq w) moJ3_checkIndex_8e157 msJ3_checkIndex_8e157 (bw_mem1 93 rfl rfl) rfl (Nat.le_of_ble_eq_true rfl) ⟨(Nat.le_of_ble_eq_true rfl), (Nat.le_of_ble_eq_true rfl)⟩ ⟨(Nat.le_of_ble_eq_true rfl), (Nat.le_of_ble_eq_true rfl)⟩ (fun z1 h2 e3 => ?_)
  refine WPe_st (st2 := [vI z1.1]) rfl ?_
  refine WPe_pop (pc := 8) (dd dtJ0_checkIndex_df160 4 rfl) rfl ?_
  exact WPe_return (pc := 9) (dd dtJ0_checkIndex_df160 5 rfl) rfl rfl ⟨(Nat.le_of_ble_eq_true rfl), (Nat.le_of_ble_eq_true rfl)⟩
theorem okfJ0_checkIndex_df160 (x0 : Int32) (x1 : Int32) (w : Wd) : ∀ z, fJ0_checkIndex_df160 x0 x1 w = some z → OkM mJ0_checkIndex_df160 2 0 0 [vI x0, vI x1] w (rtV z.1) z.2 :=
  OkM.of (rt := rtV) moJ0_checkIndex_df160 (Nat.le_of_ble_eq_true rfl) (fun X => wpfJ0_checkIndex_df160 X w x0 x1 w)
def tbJ1_charAt_3b067 : List (Nat × Instr × Nat) := [(0, .iload_n 1, 1), (1, .aload_n 0, 1), (2, .arraylength, 1), (3, .invokestatic 9, 3), (6, .aload_n 0, 1), (7, .iload_n 1, 1), (8, .baload, 1), (9, .sipush 255, 3), (12, .iand, 1), (13, .i2c, 1), (14, .ireturn, 1)]
set_option maxRecDepth 20000 in
theorem dtJ1_charAt_3b067 : ∀ x ∈ tbJ1_charAt_3b067, decode cJ1_charAt_3b067 x.1 = .ok x.2 := by decide +kernel
noncomputable def fJ1_charAt_3b067 (x0 : Nat) (x1 : Int32) (w : Wd) : Option (Int32 × Wd) :=
  ck (17 ≤ x0 ∧ x0 < 30) ((fJ0_checkIndex_df160 x1 (Int32.ofNat (sLen.getD (x0 - 17) 0)) w).bind fun z2 => (ck (vp_in x1 (sLen.getD (x0 - 17) 0)) (ck (narrow .char (.int ((vp_nar .char (((sByt.getD (x0 - 17) []).getD (x1).toNatClampNeg 0) &&& (255 : Int32))))) = .int ((vp_nar .char (((sByt.getD (x0 - 17) []).getD (x1).toNatClampNeg 0) &&& (255 : Int32))))) (some (((vp_nar .char (((sByt.getD (x0 - 17) []).getD (x1).toNatClampNeg 0) &&& (255 : Int32)))), z2.2)))))
theorem wpfJ1_charAt_3b067 (X : CX) (w0 : Wd) (x0 : Nat) (x1 : Int32) (w : Wd) : WPe rtI X (mJ1_charAt_3b067, 3, 0, 0, w0) 0 0 (fJ1_charAt_3b067 x0 x1 w) 0 [(0, vR x0), (1, vI x1)] [] w := by
  unfold fJ1_charAt_3b067
  refine WPe_iload_n (pc := 0) 1 (dd dtJ1_charAt_3b067 0 rfl) rfl ?_
  refine WPe_aload_n (pc := 1) 0 (dd dtJ1_charAt_3b067 1 rfl) rfl ?_
  refine WPe_ck fun h1 => ?_
  refine WPe_blen (pc := 2) (dd dtJ1_charAt_3b067 2 rfl) h1 ?_
  refine WPe_callS (pc := 3) (rtc := rtV) (Mc := mJ0_checkIndex_df160) (d' := 2) (mc' := 0) (ms' := 0) [vI x1, vI (Int32.ofNat (sLen.getD (x0 - 17) 0))] [] rfl (dd dtJ1_charAt_3b067 3 rfl) (okfJ0_checkIndex_df160 x1 (Int32.ofNat (sLen.getD (x0 - 17) 0)) w) moJ0_checkIndex_df160 msJ0_checkIndex_df160 (bw_mem1 88 rfl rfl) rfl (Nat.le_of_ble_eq_true rfl) ⟨(Nat.le_of_ble_eq_true rfl), (Nat.le_of_ble_eq_true rfl)⟩ ⟨(Nat.le_of_ble_eq_true rfl), (Nat.le_of_ble_eq_true rfl)⟩ (fun z2 h3 e4 => ?_)
  refine WPe_st (st2 := []) rfl ?_
  refine WPe_aload_n (pc := 6) 0 (dd dtJ1_charAt_3b067 4 rfl) rfl ?_
  refine WPe_iload_n (pc := 7) 1 (dd dtJ1_charAt_3b067 5 rfl) rfl ?_
  refine WPe_ck fun h5 => ?_
  refine WPe_bald (pc := 8) (dd dtJ1_charAt_3b067 6 rfl) h1 h5 ?_
  refine WPe_sipush (pc := 9) (255 : Int32) (dd dtJ1_charAt_3b067 7 rfl) (by decide) ?_
  refine WPe_iand (pc := 12) (dd dtJ1_charAt_3b067 8 rfl) ?_
  refine WPe_i2c (pc := 13) (dd dtJ1_charAt_3b067 9 rfl) ?_
  refine WPe_ck fun h6 => ?_
  exact WPe_zreturn (pc := 14) (ty := .char) (dd dtJ1_charAt_3b067 10 rfl) rfl rfl h6 ⟨(Nat.le_of_ble_eq_true rfl), (Nat.le_of_ble_eq_true rfl)⟩
theorem okfJ1_charAt_3b067 (x0 : Nat) (x1 : Int32) (w : Wd) : ∀ z, fJ1_charAt_3b067 x0 x1 w = some z → OkM mJ1_charAt_3b067 3 0 0 [vR x0, vI x1] w (rtI z.1) z.2 :=
  OkM.of (rt := rtI) moJ1_charAt_3b067 (Nat.le_of_ble_eq_true rfl) (fun X => wpfJ1_charAt_3b067 X w x0 x1 w)
def tbJ0_charAt_5068e : List (Nat × Instr × Nat) := [(0, .aload_n 0, 1), (1, .invokevirtual 492, 3), (4, .ifCond .eq 12, 3), (7, .aload_n 0, 1), (8, .getfield 9, 3), (11, .iload_n 1, 1), (12, .invokestatic 495, 3), (15, .ireturn, 1), (16, .aload_n 0, 1), (17, .getfield 9, 3), (20, .iload_n 1, 1), (21, .invokestatic 498, 3), (24, .ireturn, 1)]
set_option maxRecDepth 20000 in
theorem dtJ0_charAt_5068e : ∀ x ∈ tbJ0_charAt_5068e, decode cJ0_charAt_5068e x.1 = .ok x.2 := by decide +kernel
noncomputable def fJ0_charAt_5068e (x0 : Nat) (x1 : Int32) (w : Wd) : Option (Int32 × Wd) :=
  ck (2 ≤ x0 ∧ x0 < 15) ((fJ0_isLatin1_aae02 x0 w).bind fun z2 => (if z2.1 = (0 : Int32) then (none) else ((fJ1_charAt_3b067 (x0 + 15) x1 z2.2).bind fun z6 => (ck (narrow .char (.int z6.1) = .int z6.1) (some (z6.1, z6.2))))))
theorem wpfJ0_charAt_5068e (X : CX) (w0 : Wd) (x0 : Nat) (x1 : Int32) (w : Wd) : WPe rtI X (mJ0_charAt_5068e, 4, 0, 0, w0) 0 0 (fJ0_charAt_5068e x0 x1 w) 0 [(0, vR x0), (1, vI x1)] [] w := by
  unfold fJ0_charAt_5068e
  refine WPe_aload_n (pc := 0) 0 (dd dtJ0_charAt_5068e 0 rfl) rfl ?_
  refine WPe_ck fun h1 => ?_
  refine WPe_callV (pc := 1) (rtc := rtI) (Mc := mJ0_isLatin1_aae02) (d' := 1) (mc' := 0) (ms' := 0) [] [] rfl (dd dtJ0_charAt_5068e 1 rfl) (okfJ0_isLatin1_aae02 x0 w) moJ0_isLatin1_aae02 miJ0_isLatin1_aae02 (bw_mem1 81 rfl rfl) (Or.inr ⟨h1.1, h1.2, rfl⟩) rfl (Nat.le_of_ble_eq_true rfl) ⟨(Nat.le_of_ble_eq_true rfl), (Nat.le_of_ble_eq_true rfl)⟩ ⟨(Nat.le_of_ble_eq_true rfl), (Nat.le_of_ble_eq_true rfl)⟩ (fun z2 h3 e4 => ?_)
  refine WPe_st (st2 := [vI z2.1]) rfl ?_
  refine WPe_if_eq (pc := 4) 16 (dd dtJ0_charAt_5068e 2 rfl) (by decide) (fun h5 => ?_) (fun h5 => ?_)
  · refine WPe_aload_n (pc := 16) 0 (dd dtJ0_charAt_5068e 8 rfl) rfl ?_
    refine WPe_strVal (pc := 17) (dd dtJ0_charAt_5068e 9 rfl) h1 (bw_mem5 192 rfl rfl) ?_
    refine WPe_iload_n (pc := 20) 1 (dd dtJ0_charAt_5068e 10 rfl) rfl ?_
    exact WPe_none
  · refine WPe_aload_n (pc := 7) 0 (dd dtJ0_charAt_5068e 3 rfl) rfl ?_
    refine WPe_strVal (pc := 8) (dd dtJ0_charAt_5068e 4 rfl) h1 (bw_mem5 192 rfl rfl) ?_
    refine WPe_iload_n (pc := 11) 1 (dd dtJ0_charAt_5068e 5 rfl) rfl ?_
    refine WPe_callS (pc := 12) (rtc := rtI) (Mc := mJ1_charAt_3b067) (d' := 3) (mc' := 0) (ms' := 0) [vR (x0 + 15), vI x1] [] rfl (dd dtJ0_charAt_5068e 6 rfl) (okfJ1_charAt_3b067 (x0 + 15) x1 z2.2) moJ1_charAt_3b067 msJ1_charAt_3b067 (bw_mem1 85 rfl rfl) rfl (Nat.le_of_ble_eq_true rfl) ⟨(Nat.le_of_ble_eq_true rfl), (Nat.le_of_ble_eq_true rfl)⟩ ⟨(Nat.le_of_ble_eq_true rfl), (Nat.le_of_ble_eq_true rfl)⟩ (fun z6 h7 e8 => ?_)
    refine WPe_st (st2 := [vI z6.1]) rfl ?_
    refine WPe_ck fun h9 => ?_
    exact WPe_zreturn (pc := 15) (ty := .char) (dd dtJ0_charAt_5068e 7 rfl) rfl rfl h9 ⟨(Nat.le_of_ble_eq_true rfl), (Nat.le_of_ble_eq_true rfl)⟩
theorem okfJ0_charAt_5068e (x0 : Nat) (x1 : Int32) (w : Wd) : ∀ z, fJ0_charAt_5068e x0 x1 w = some z → OkM mJ0_charAt_5068e 4 0 0 [vR x0, vI x1] w (rtI z.1) z.2 :=
  OkM.of (rt := rtI) moJ0_charAt_5068e (Nat.le_of_ble_eq_true rfl) (fun X => wpfJ0_charAt_5068e X w x0 x1 w)
def tbX3_addAll : List (Nat × Instr × Nat) := [(0, .iconst 0, 1), (1, .istore_n 2, 1), (2, .iload_n 2, 1), (3, .aload_n 1, 1), (4, .invokevirtual 32, 3), (7, .if_icmp .ge 18, 3), (10, .aload_n 0, 1), (11, .aload_n 1, 1), (12, .iload_n 2, 1), (13, .invokevirtual 38, 3), (16, .invokevirtual 42, 3), (19, .iinc 2 1, 3), (22, .goto (-20), 3), (25, .return_, 1)]
set_option maxRecDepth 20000 in
theorem dtX3_addAll : ∀ x ∈ tbX3_addAll, decode cX3_addAll x.1 = .ok x.2 := by decide +kernel
noncomputable def b3_addAll_2 (k2 : Nat × Nat × Int32 → Wd → Option (Unit × Wd)) (v : Nat × Nat × Int32) (w : Wd) : Option (Unit × Wd) :=
  ck (2 ≤ v.2.1 ∧ v.2.1 < 15) ((fJ0_length_8abf5 v.2.1 w).bind fun z2 => (if z2.1 ≤ v.2.2 then (some ((), z2.2)) else ((fJ0_charAt_5068e v.2.1 v.2.2 z2.2).bind fun z6 => (ck (tg z6.2 v.1 = 3) ((f3_add v.1 z6.1 z6.2).bind fun z10 => (k2 (v.1, v.2.1, (v.2.2 + (1 : Int32))) z10.2))))))
theorem wpb3_addAll_2 (X : CX) (w0 : Wd) (k2 : Nat × Nat × Int32 → Wd → Option (Unit × Wd)) (hk2 : ∀ (v : Nat × Nat × Int32) (w : Wd), WPe rtV X (mX3_addAll, 5, 0, 0, w0) 0 0 (k2 v w) 2 [(0, vR v.1), (1, vR v.2.1), (2, vI v.2.2)] [] w) (v : Nat × Nat × Int32) (w : Wd) : WPe rtV X (mX3_addAll, 5, 0, 0, w0) 0 0 (b3_addAll_2 k2 v w) 2 [(0, vR v.1), (1, vR v.2.1), (2, vI v.2.2)] [] w := by
  unfold b3_addAll_2
  refine WPe_iload_n (pc := 2) 2 (dd dtX3_addAll 2 rfl) rfl ?_
  refine WPe_aload_n (pc := 3) 1 (dd dtX3_addAll 3 rfl) rfl ?_
  refine WPe_ck fun h1 => ?_
  refine WPe_callV (pc := 4) (rtc := rtI) (Mc := mJ0_length_8abf5) (d' := 2) (mc' := 0) (ms' := 0) [] [vI v.2.2] rfl (dd dtX3_addAll 4 rfl) (okfJ0_length_8abf5 v.2.1 w) moJ0_length_8abf5 miJ0_length_8abf5 (bw_mem1 67 rfl rfl) (Or.inr ⟨h1.1, h1.2, rfl⟩) rfl (Nat.le_of_ble_eq_true rfl) ⟨(Nat.le_of_ble_eq_true rfl), (Nat.le_of_ble_eq_true rfl)⟩ ⟨(Nat.le_of_ble_eq_true rfl), (Nat.le_of_ble_eq_true rfl)⟩ (fun z2 h3 e4 => ?_)
  refine WPe_st (st2 := [vI z2.1, vI v.2.2]) rfl ?_
  refine WPe_icmp_ge (pc := 7) 25 (dd dtX3_addAll 5 rfl) (by decide) (fun h5 => ?_) (fun h5 => ?_)
  · exact WPe_return (pc := 25) (dd dtX3_addAll 13 rfl) rfl rfl ⟨(Nat.le_of_ble_eq_true rfl), (Nat.le_of_ble_eq_true rfl)⟩
  · refine WPe_aload_n (pc := 10) 0 (dd dtX3_addAll 6 rfl) rfl ?_
    refine WPe_aload_n (pc := 11) 1 (dd dtX3_addAll 7 rfl) rfl ?_
    refine WPe_iload_n (pc := 12) 2 (dd dtX3_addAll 8 rfl) rfl ?_
    refine WPe_callV (pc := 13) (rtc := rtI) (Mc := mJ0_charAt_5068e) (d' := 4) (mc' := 0) (ms' := 0) [vI v.2.2] [vR v.1] rfl (dd dtX3_addAll 9 rfl) (okfJ0_charAt_5068e v.2.1 v.2.2 z2.2) moJ0_charAt_5068e miJ0_charAt_5068e (bw_mem1 77 rfl rfl) (Or.inr ⟨h1.1, h1.2, rfl⟩) rfl (Nat.le_of_ble_eq_true rfl) ⟨(Nat.le_of_ble_eq_true rfl), (Nat.le_of_ble_eq_true rfl)⟩ ⟨(Nat.le_of_ble_eq_true rfl), (Nat.le_of_ble_eq_true rfl)⟩ (fun z6 h7 e8 => ?_)
    refine WPe_st (st2 := [vI z6.1, vR v.1]) rfl ?_
    refine WPe_ck fun h9 => ?_
    refine WPe_callV (pc := 16) (rtc := rtV) (Mc := mX3_add) (d' := 2) (mc' := 0) (ms' := 0) [vI z6.1] [] rfl (dd dtX3_addAll 10 rfl) (okf3_add v.1 z6.1 z6.2) moX3_add miX3_add (bw_mem1 115 rfl rfl) (Or.inl ⟨_, _, _, _, (shE h9), rfl⟩) rfl (Nat.le_of_ble_eq_true rfl) ⟨(Nat.le_of_ble_eq_true rfl), (Nat.le_of_ble_eq_true rfl)⟩ ⟨(Nat.le_of_ble_eq_true rfl), (Nat.le_of_ble_eq_true rfl)⟩ (fun z10 h11 e12 => ?_)
    refine WPe_st (st2 := []) rfl ?_
    refine WPe_iinc (pc := 19) (ls' := [(2, vI (v.2.2 + (1 : Int32))), (0, vR v.1), (1, vR v.2.1)]) 2 (v.2.2 + (1 : Int32)) (dd dtX3_addAll 11 rfl) rfl (congrArg (HAdd.hAdd _) (by decide : Int32.ofInt (1) = (1 : Int32))) (Nat.le_of_ble_eq_true rfl) rfl ?_
    refine WPe_goto (pc := 22) 2 (dd dtX3_addAll 12 rfl) (by decide) ?_
    refine WPe_sub [1, 2, 0] rfl ?_
    exact hk2 (v.1, v.2.1, (v.2.2 + (1 : Int32))) z10.2
theorem wplb3_addAll_2 (X : CX) (w0 : Wd)  : ∀ (n9 : Nat) (v : Nat × Nat × Int32) (w : Wd), WPe rtV X (mX3_addAll, 5, 0, 0, w0) 0 0 (loopF (b3_addAll_2 ) n9 v w) 2 [(0, vR v.1), (1, vR v.2.1), (2, vI v.2.2)] [] w :=
  WPe_loop (rt := rtV) (X := X) (M := (mX3_addAll, 5, 0, 0, w0)) (fun v : Nat × Nat × Int32 => [(0, vR v.1), (1, vR v.2.1), (2, vI v.2.2)]) (fun k hk v w => wpb3_addAll_2 X w0  k hk v w)
noncomputable def f3_addAll (x0 : Nat) (x1 : Nat) (w : Wd) : Option (Unit × Wd) :=
  loopF (b3_addAll_2) FU (x0, x1, (0 : Int32)) w
theorem wpf3_addAll (X : CX) (w0 : Wd) (x0 : Nat) (x1 : Nat) (w : Wd) : WPe rtV X (mX3_addAll, 5, 0, 0, w0) 0 0 (f3_addAll x0 x1 w) 0 [(0, vR x0), (1, vR x1)] [] w := by
  unfold f3_addAll
  refine WPe_iconst (pc := 0) (0 : Int32) (dd dtX3_addAll 0 rfl) (by decide) ?_
  refine WPe_istore_n (pc := 1) (ls' := [(2, vI (0 : Int32)), (0, vR x0), (1, vR x1)]) (dd dtX3_addAll 1 rfl) (Nat.le_of_ble_eq_true rfl) rfl ?_
  refine WPe_sub [1, 2, 0] rfl ?_
  exact wplb3_addAll_2 X w0  FU _ _
theorem okf3_addAll (x0 : Nat) (x1 : Nat) (w : Wd) : ∀ z, f3_addAll x0 x1 w = some z → OkM mX3_addAll 5 0 0 [vR x0, vR x1] w (rtV z.1) z.2 :=
  OkM.of (rt := rtV) moX3_addAll (Nat.le_of_ble_eq_true rfl) (fun X => wpf3_addAll X w x0 x1 w)
def tbX3_byteAt : List (Nat × Instr × Nat) := [(0, .iload_n 1, 1), (1, .ifCond .lt 29, 3), (4, .iload_n 1, 1), (5, .aload_n 0, 1), (6, .getfield 24, 3), (9, .if_icmp .ge 21, 3), (12, .iload_n 1, 1), (13, .aload_n 0, 1), (14, .getfield 9, 3), (17, .arraylength, 1), (18, .if_icmp .ge 12, 3), (21, .aload_n 0, 1), (22, .getfield 9, 3), (25, .iload_n 1, 1), (26, .iaload, 1), (27, .goto 4, 3), (30, .iconst (-1), 1), (31, .ireturn, 1)]
set_option maxRecDepth 20000 in
theorem dtX3_byteAt : ∀ x ∈ tbX3_byteAt, decode cX3_byteAt x.1 = .ok x.2 := by decide +kernel
noncomputable def f3_byteAt (x0 : Nat) (x1 : Int32) (w : Wd) : Option (Int32 × Wd) :=
  if x1 < (0 : Int32) then (some ((-1 : Int32), w)) else (ck (tg w x0 = 3) (if (wi w x0 1) ≤ x1 then (some ((-1 : Int32), w)) else (ck (tg w (wr w x0 0) = 20) (if (Int32.ofNat (ln w (wr w x0 0))) ≤ x1 then (some ((-1 : Int32), w)) else (ck (vp_in x1 (ln w (wr w x0 0))) (some ((wi w (wr w x0 0) (x1).toNatClampNeg), w)))))))
theorem wpf3_byteAt (X : CX) (w0 : Wd) (x0 : Nat) (x1 : Int32) (w : Wd) : WPe rtI X (mX3_byteAt, 1, 0, 0, w0) 0 0 (f3_byteAt x0 x1 w) 0 [(0, vR x0), (1, vI x1)] [] w := by
  unfold f3_byteAt
  refine WPe_iload_n (pc := 0) 1 (dd dtX3_byteAt 0 rfl) rfl ?_
  refine WPe_if_lt (pc := 1) 30 (dd dtX3_byteAt 1 rfl) (by decide) (fun h1 => ?_) (fun h1 => ?_)
  · refine WPe_iconst (pc := 30) (-1 : Int32) (dd dtX3_byteAt 16 rfl) (by decide) ?_
    exact WPe_ireturn (pc := 31) (dd dtX3_byteAt 17 rfl) rfl rfl ⟨(Nat.le_of_ble_eq_true rfl), (Nat.le_of_ble_eq_true rfl)⟩
  · refine WPe_iload_n (pc := 4) 1 (dd dtX3_byteAt 2 rfl) rfl ?_
    refine WPe_aload_n (pc := 5) 0 (dd dtX3_byteAt 3 rfl) rfl ?_
    refine WPe_ck fun h2 => ?_
    refine WPe_getI (pc := 6) (t := 3) (C := RX3) (T := TX3) 1 (dd dtX3_byteAt 4 rfl) (shE h2) rfl (Nat.le_of_ble_eq_true rfl) rfl (bw_mem1 31 rfl rfl) ?_
    refine WPe_icmp_ge (pc := 9) 30 (dd dtX3_byteAt 5 rfl) (by decide) (fun h3 => ?_) (fun h3 => ?_)
    · refine WPe_iconst (pc := 30) (-1 : Int32) (dd dtX3_byteAt 16 rfl) (by decide) ?_
      exact WPe_ireturn (pc := 31) (dd dtX3_byteAt 17 rfl) rfl rfl ⟨(Nat.le_of_ble_eq_true rfl), (Nat.le_of_ble_eq_true rfl)⟩
    · refine WPe_iload_n (pc := 12) 1 (dd dtX3_byteAt 6 rfl) rfl ?_
      refine WPe_aload_n (pc := 13) 0 (dd dtX3_byteAt 7 rfl) rfl ?_
      refine WPe_getR (pc := 14) (t := 3) (C := RX3) (T := TX3) 0 (dd dtX3_byteAt 8 rfl) (shE h2) rfl (Nat.le_of_ble_eq_true rfl) rfl (bw_mem1 29 rfl rfl) ?_
      refine WPe_ck fun h4 => ?_
      refine WPe_alen (pc := 17) (dd dtX3_byteAt 9 rfl) (shL (shE h4)) ⟨(Nat.le_of_ble_eq_true rfl), (Nat.le_of_ble_eq_true rfl)⟩ ?_
      refine WPe_icmp_ge (pc := 18) 30 (dd dtX3_byteAt 10 rfl) (by decide) (fun h5 => ?_) (fun h5 => ?_)
      · refine WPe_iconst (pc := 30) (-1 : Int32) (dd dtX3_byteAt 16 rfl) (by decide) ?_
        exact WPe_ireturn (pc := 31) (dd dtX3_byteAt 17 rfl) rfl rfl ⟨(Nat.le_of_ble_eq_true rfl), (Nat.le_of_ble_eq_true rfl)⟩
      · refine WPe_aload_n (pc := 21) 0 (dd dtX3_byteAt 11 rfl) rfl ?_
        refine WPe_getR (pc := 22) (t := 3) (C := RX3) (T := TX3) 0 (dd dtX3_byteAt 12 rfl) (shE h2) rfl (Nat.le_of_ble_eq_true rfl) rfl (bw_mem1 29 rfl rfl) ?_
        refine WPe_iload_n (pc := 25) 1 (dd dtX3_byteAt 13 rfl) rfl ?_
        refine WPe_ck fun h6 => ?_
        refine WPe_iald (pc := 26) (dd dtX3_byteAt 14 rfl) (shL (shE h4)) h6 ?_
        refine WPe_goto (pc := 27) 31 (dd dtX3_byteAt 15 rfl) (by decide) ?_
        exact WPe_ireturn (pc := 31) (dd dtX3_byteAt 17 rfl) rfl rfl ⟨(Nat.le_of_ble_eq_true rfl), (Nat.le_of_ble_eq_true rfl)⟩
theorem okf3_byteAt (x0 : Nat) (x1 : Int32) (w : Wd) : ∀ z, f3_byteAt x0 x1 w = some z → OkM mX3_byteAt 1 0 0 [vR x0, vI x1] w (rtI z.1) z.2 :=
  OkM.of (rt := rtI) moX3_byteAt (Nat.le_of_ble_eq_true rfl) (fun X => wpf3_byteAt X w x0 x1 w)
def tbX3_isLetter : List (Nat × Instr × Nat) := [(0, .iload_n 0, 1), (1, .bipush 97, 2), (3, .if_icmp .lt 13, 3), (6, .iload_n 0, 1), (7, .bipush 122, 2), (9, .if_icmp .gt 7, 3), (12, .iconst 1, 1), (13, .goto 4, 3), (16, .iconst 0, 1), (17, .ireturn, 1)]
set_option maxRecDepth 20000 in
theorem dtX3_isLetter : ∀ x ∈ tbX3_isLetter, decode cX3_isLetter x.1 = .ok x.2 := by decide +kernel
noncomputable def f3_isLetter (x0 : Int32) (w : Wd) : Option (Int32 × Wd) :=
  if x0 < (97 : Int32) then (some ((0 : Int32), w)) else (if (122 : Int32) < x0 then (some ((0 : Int32), w)) else (some ((1 : Int32), w)))
theorem wpf3_isLetter (X : CX) (w0 : Wd) (x0 : Int32) (w : Wd) : WPe rtI X (mX3_isLetter, 1, 0, 0, w0) 0 0 (f3_isLetter x0 w) 0 [(0, vI x0)] [] w := by
  unfold f3_isLetter
  refine WPe_iload_n (pc := 0) 0 (dd dtX3_isLetter 0 rfl) rfl ?_
  refine WPe_bipush (pc := 1) (97 : Int32) (dd dtX3_isLetter 1 rfl) (by decide) ?_
  refine WPe_icmp_lt (pc := 3) 16 (dd dtX3_isLetter 2 rfl) (by decide) (fun h1 => ?_) (fun h1 => ?_)
  · refine WPe_iconst (pc := 16) (0 : Int32) (dd dtX3_isLetter 8 rfl) (by decide) ?_
    exact WPe_zreturn (pc := 17) (ty := .boolean) (dd dtX3_isLetter 9 rfl) rfl rfl rfl ⟨(Nat.le_of_ble_eq_true rfl), (Nat.le_of_ble_eq_true rfl)⟩
  · refine WPe_iload_n (pc := 6) 0 (dd dtX3_isLetter 3 rfl) rfl ?_
    refine WPe_bipush (pc := 7) (122 : Int32) (dd dtX3_isLetter 4 rfl) (by decide) ?_
    refine WPe_icmp_gt (pc := 9) 16 (dd dtX3_isLetter 5 rfl) (by decide) (fun h2 => ?_) (fun h2 => ?_)
    · refine WPe_iconst (pc := 16) (0 : Int32) (dd dtX3_isLetter 8 rfl) (by decide) ?_
      exact WPe_zreturn (pc := 17) (ty := .boolean) (dd dtX3_isLetter 9 rfl) rfl rfl rfl ⟨(Nat.le_of_ble_eq_true rfl), (Nat.le_of_ble_eq_true rfl)⟩
    · refine WPe_iconst (pc := 12) (1 : Int32) (dd dtX3_isLetter 6 rfl) (by decide) ?_
      refine WPe_goto (pc := 13) 17 (dd dtX3_isLetter 7 rfl) (by decide) ?_
      exact WPe_zreturn (pc := 17) (ty := .boolean) (dd dtX3_isLetter 9 rfl) rfl rfl rfl ⟨(Nat.le_of_ble_eq_true rfl), (Nat.le_of_ble_eq_true rfl)⟩
theorem okf3_isLetter (x0 : Int32) (w : Wd) : ∀ z, f3_isLetter x0 w = some z → OkM mX3_isLetter 1 0 0 [vI x0] w (rtI z.1) z.2 :=
  OkM.of (rt := rtI) moX3_isLetter (Nat.le_of_ble_eq_true rfl) (fun X => wpf3_isLetter X w x0 w)
def tbX3_isDigit : List (Nat × Instr × Nat) := [(0, .iload_n 0, 1), (1, .bipush 48, 2), (3, .if_icmp .lt 13, 3), (6, .iload_n 0, 1), (7, .bipush 57, 2), (9, .if_icmp .gt 7, 3), (12, .iconst 1, 1), (13, .goto 4, 3), (16, .iconst 0, 1), (17, .ireturn, 1)]
set_option maxRecDepth 20000 in
theorem dtX3_isDigit : ∀ x ∈ tbX3_isDigit, decode cX3_isDigit x.1 = .ok x.2 := by decide +kernel
noncomputable def f3_isDigit (x0 : Int32) (w : Wd) : Option (Int32 × Wd) :=
  if x0 < (48 : Int32) then (some ((0 : Int32), w)) else (if (57 : Int32) < x0 then (some ((0 : Int32), w)) else (some ((1 : Int32), w)))
theorem wpf3_isDigit (X : CX) (w0 : Wd) (x0 : Int32) (w : Wd) : WPe rtI X (mX3_isDigit, 1, 0, 0, w0) 0 0 (f3_isDigit x0 w) 0 [(0, vI x0)] [] w := by
  unfold f3_isDigit
  refine WPe_iload_n (pc := 0) 0 (dd dtX3_isDigit 0 rfl) rfl ?_
  refine WPe_bipush (pc := 1) (48 : Int32) (dd dtX3_isDigit 1 rfl) (by decide) ?_
  refine WPe_icmp_lt (pc := 3) 16 (dd dtX3_isDigit 2 rfl) (by decide) (fun h1 => ?_) (fun h1 => ?_)
  · refine WPe_iconst (pc := 16) (0 : Int32) (dd dtX3_isDigit 8 rfl) (by decide) ?_
    exact WPe_zreturn (pc := 17) (ty := .boolean) (dd dtX3_isDigit 9 rfl) rfl rfl rfl ⟨(Nat.le_of_ble_eq_true rfl), (Nat.le_of_ble_eq_true rfl)⟩
  · refine WPe_iload_n (pc := 6) 0 (dd dtX3_isDigit 3 rfl) rfl ?_
    refine WPe_bipush (pc := 7) (57 : Int32) (dd dtX3_isDigit 4 rfl) (by decide) ?_
    refine WPe_icmp_gt (pc := 9) 16 (dd dtX3_isDigit 5 rfl) (by decide) (fun h2 => ?_) (fun h2 => ?_)
    · refine WPe_iconst (pc := 16) (0 : Int32) (dd dtX3_isDigit 8 rfl) (by decide) ?_
      exact WPe_zreturn (pc := 17) (ty := .boolean) (dd dtX3_isDigit 9 rfl) rfl rfl rfl ⟨(Nat.le_of_ble_eq_true rfl), (Nat.le_of_ble_eq_true rfl)⟩
    · refine WPe_iconst (pc := 12) (1 : Int32) (dd dtX3_isDigit 6 rfl) (by decide) ?_
      refine WPe_goto (pc := 13) 17 (dd dtX3_isDigit 7 rfl) (by decide) ?_
      exact WPe_zreturn (pc := 17) (ty := .boolean) (dd dtX3_isDigit 9 rfl) rfl rfl rfl ⟨(Nat.le_of_ble_eq_true rfl), (Nat.le_of_ble_eq_true rfl)⟩
theorem okf3_isDigit (x0 : Int32) (w : Wd) : ∀ z, f3_isDigit x0 w = some z → OkM mX3_isDigit 1 0 0 [vI x0] w (rtI z.1) z.2 :=
  OkM.of (rt := rtI) moX3_isDigit (Nat.le_of_ble_eq_true rfl) (fun X => wpf3_isDigit X w x0 w)
def tbX3_beginsToken : List (Nat × Instr × Nat) := [(0, .aload_n 0, 1), (1, .iload_n 1, 1), (2, .invokevirtual 86, 3), (5, .istore_n 2, 1), (6, .iload_n 2, 1), (7, .invokestatic 89, 3), (10, .ifCond .eq 22, 3), (13, .aload_n 0, 1), (14, .iload_n 1, 1), (15, .iconst 1, 1), (16, .isub, 1), (17, .invokevirtual 86, 3), (20, .invokestatic 89, 3), (23, .ifCond .ne 7, 3), (26, .iconst 1, 1), (27, .goto 4, 3), (30, .iconst 0, 1), (31, .ireturn, 1), (32, .iload_n 2, 1), (33, .invokestatic 92, 3), (36, .ifCond .eq 22, 3), (39, .aload_n 0, 1), (40, .iload_n 1, 1), (41, .iconst 1, 1), (42, .isub, 1), (43, .invokevirtual 86, 3), (46, .invokestatic 92, 3), (49, .ifCond .ne 7, 3), (52, .iconst 1, 1), (53, .goto 4, 3), (56, .iconst 0, 1), (57, .ireturn, 1), (58, .iload_n 2, 1), (59, .bipush 32, 2), (61, .if_icmp .eq 13, 3), (64, .iload_n 2, 1), (65, .bipush 10, 2), (67, .if_icmp .eq 7, 3), (70, .iconst 1, 1), (71, .goto 4, 3), (74, .iconst 0, 1), (75, .ireturn, 1)]
set_option maxRecDepth 20000 in
theorem dtX3_beginsToken : ∀ x ∈ tbX3_beginsToken, decode cX3_beginsToken x.1 = .ok x.2 := by decide +kernel
noncomputable def f3_beginsToken (x0 : Nat) (x1 : Int32) (w : Wd) : Option (Int32 × Wd) :=
  ck (tg w x0 = 3) ((f3_byteAt x0 x1 w).bind fun z2 => ((f3_isLetter z2.1 z2.2).bind fun z5 => (if z5.1 = (0 : Int32) then ((f3_isDigit z2.1 z5.2).bind fun z9 => (if z9.1 = (0 : Int32) then (if z2.1 = (32 : Int32) then (some ((0 : Int32), z9.2)) else (if z2.1 = (10 : Int32) then (some ((0 : Int32), z9.2)) else (some ((1 : Int32), z9.2)))) else ((f3_byteAt x0 (x1 - (1 : Int32)) z9.2).bind fun z15 => ((f3_isDigit z15.1 z15.2).bind fun z18 => (if z18.1 = (0 : Int32) then (some ((1 : Int32), z18.2)) else (some ((0 : Int32), z18.2))))))) else ((f3_byteAt x0 (x1 - (1 : Int32)) z5.2).bind fun z22 => ((f3_isLetter z22.1 z22.2).bind fun z25 => (if z25.1 = (0 : Int32) then (some ((1 : Int32), z25.2)) else (some ((0 : Int32), z25.2))))))))
theorem wpf3_beginsToken (X : CX) (w0 : Wd) (x0 : Nat) (x1 : Int32) (w : Wd) : WPe rtI X (mX3_beginsToken, 2, 0, 0, w0) 0 0 (f3_beginsToken x0 x1 w) 0 [(0, vR x0), (1, vI x1)] [] w := by
  unfold f3_beginsToken
  refine WPe_aload_n (pc := 0) 0 (dd dtX3_beginsToken 0 rfl) rfl ?_
  refine WPe_iload_n (pc := 1) 1 (dd dtX3_beginsToken 1 rfl) rfl ?_
  refine WPe_ck fun h1 => ?_
  refine WPe_callV (pc := 2) (rtc := rtI) (Mc := mX3_byteAt) (d' := 1) (mc' := 0) (ms' := 0) [vI x1] [] rfl (dd dtX3_beginsToken 2 rfl) (okf3_byteAt x0 x1 w) moX3_byteAt miX3_byteAt (bw_mem1 135 rfl rfl) (Or.inl ⟨_, _, _, _, (shE h1), rfl⟩) rfl (Nat.le_of_ble_eq_true rfl) ⟨(Nat.le_of_ble_eq_true rfl), (Nat.le_of_ble_eq_true rfl)⟩ ⟨(Nat.le_of_ble_eq_true rfl), (Nat.le_of_ble_eq_true rfl)⟩ (fun z2 h3 e4 => ?_)
  refine WPe_st (st2 := [vI z2.1]) rfl ?_
  refine WPe_istore_n (pc := 5) (ls' := [(2, vI z2.1), (0, vR x0), (1, vI x1)]) (dd dtX3_beginsToken 3 rfl) (Nat.le_of_ble_eq_true rfl) rfl ?_
  refine WPe_iload_n (pc := 6) 0 (dd dtX3_beginsToken 4 rfl) rfl ?_
  refine WPe_callS (pc := 7) (rtc := rtI) (Mc := mX3_isLetter) (d' := 1) (mc' := 0) (ms' := 0) [vI z2.1] [] rfl (dd dtX3_beginsToken 5 rfl) (okf3_isLetter z2.1 z2.2) moX3_isLetter msX3_isLetter (bw_mem1 139 rfl rfl) rfl (Nat.le_of_ble_eq_true rfl) ⟨(Nat.le_of_ble_eq_true rfl), (Nat.le_of_ble_eq_true rfl)⟩ ⟨(Nat.le_of_ble_eq_true rfl), (Nat.le_of_ble_eq_true rfl)⟩ (fun z5 h6 e7 => ?_)
  refine WPe_st (st2 := [vI z5.1]) rfl ?_
  refine WPe_if_eq (pc := 10) 32 (dd dtX3_beginsToken 6 rfl) (by decide) (fun h8 => ?_) (fun h8 => ?_)
  · refine WPe_iload_n (pc := 32) 0 (dd dtX3_beginsToken 18 rfl) rfl ?_
    refine WPe_callS (pc := 33) (rtc := rtI) (Mc := mX3_isDigit) (d' := 1) (mc' := 0) (ms' := 0) [vI z2.1] [] rfl (dd dtX3_beginsToken 19 rfl) (okf3_isDigit z2.1 z5.2) moX3_isDigit msX3_isDigit (bw_mem1 142 rfl rfl) rfl (Nat.le_of_ble_eq_true rfl) ⟨(Nat.le_of_ble_eq_true rfl), (Nat.le_of_ble_eq_true rfl)⟩ ⟨(Nat.le_of_ble_eq_true rfl), (Nat.le_of_ble_eq_true rfl)⟩ (fun z9 h10 e11 => ?_)
    refine WPe_st (st2 := [vI z9.1]) rfl ?_
    refine WPe_if_eq (pc := 36) 58 (dd dtX3_beginsToken 20 rfl) (by decide) (fun h12 => ?_) (fun h12 => ?_)
    · refine WPe_iload_n (pc := 58) 0 (dd dtX3_beginsToken 32 rfl) rfl ?_
      refine WPe_bipush (pc := 59) (32 : Int32) (dd dtX3_beginsToken 33 rfl) (by decide) ?_
      refine WPe_icmp_eq (pc := 61) 74 (dd dtX3_beginsToken 34 rfl) (by decide) (fun h13 => ?_) (fun h13 => ?_)
      · refine WPe_iconst (pc := 74) (0 : Int32) (dd dtX3_beginsToken 40 rfl) (by decide) ?_
        exact WPe_zreturn (pc := 75) (ty := .boolean) (dd dtX3_beginsToken 41 rfl) rfl rfl rfl ⟨(Nat.le_of_ble_eq_true rfl), (Nat.le_of_ble_eq_true rfl)⟩
      · refine WPe_iload_n (pc := 64) 0 (dd dtX3_beginsToken 35 rfl) rfl ?_
        refine WPe_bipush (pc := 65) (10 : Int32) (dd dtX3_beginsToken 36 rfl) (by decide) ?_
        refine WPe_icmp_eq (pc := 67) 74 (dd dtX3_beginsToken 37 rfl) (by decide) (fun h14 => ?_) (fun h14 => ?_)
        · refine WPe_iconst (pc := 74) (0 : Int32) (dd dtX3_beginsToken 40 rfl) (by decide) ?_
          exact WPe_zreturn (pc := 75) (ty := .boolean) (dd dtX3_beginsToken 41 rfl) rfl rfl rfl ⟨(Nat.le_of_ble_eq_true rfl), (Nat.le_of_ble_eq_true rfl)⟩
        · refine WPe_iconst (pc := 70) (1 : Int32) (dd dtX3_beginsToken 38 rfl) (by decide) ?_
          refine WPe_goto (pc := 71) 75 (dd dtX3_beginsToken 39 rfl) (by decide) ?_
          exact WPe_zreturn (pc := 75) (ty := .boolean) (dd dtX3_beginsToken 41 rfl) rfl rfl rfl ⟨(Nat.le_of_ble_eq_true rfl), (Nat.le_of_ble_eq_true rfl)⟩
    · refine WPe_aload_n (pc := 39) 1 (dd dtX3_beginsToken 21 rfl) rfl ?_
      refine WPe_iload_n (pc := 40) 2 (dd dtX3_beginsToken 22 rfl) rfl ?_
      refine WPe_iconst (pc := 41) (1 : Int32) (dd dtX3_beginsToken 23 rfl) (by decide) ?_
      refine WPe_isub (pc := 42) (dd dtX3_beginsToken 24 rfl) ?_
      refine WPe_callV (pc := 43) (rtc := rtI) (Mc := mX3_byteAt) (d' := 1) (mc' := 0) (ms' := 0) [vI (x1 - (1 : Int32))] [] rfl (dd dtX3_beginsToken 25 rfl) (okf3_byteAt x0 (x1 - (1 : Int32)) z9.2) moX3_byteAt miX3_byteAt (bw_mem1 135 rfl rfl) (Or.inl ⟨_, _, _, _, (e11.at (e7.at (e4.at (shE h1) (by decide)) (by decide)) (by decide)), rfl⟩) rfl (Nat.le_of_ble_eq_true rfl) ⟨(Nat.le_of_ble_eq_true rfl), (Nat.le_of_ble_eq_true rfl)⟩ ⟨(Nat.le_of_ble_eq_true rfl), (Nat.le_of_ble_eq_true rfl)⟩ (fun z15 h16 e17 => ?_)
      refine WPe_st (st2 := [vI z15.1]) rfl ?_
      refine WPe_callS (pc := 46) (rtc := rtI) (Mc := mX3_isDigit) (d' := 1) (mc' := 0) (ms' := 0) [vI z15.1] [] rfl (dd dtX3_beginsToken 26 rfl) (okf3_isDigit z15.1 z15.2) moX3_isDigit msX3_isDigit (bw_mem1 142 rfl rfl) rfl (Nat.le_of_ble_eq_true rfl) ⟨(Nat.le_of_ble_eq_true rfl), (Nat.le_of_ble_eq_true rfl)⟩ ⟨(Nat.le_of_ble_eq_true rfl), (Nat.le_of_ble_eq_true rfl)⟩ (fun z18 h19 e20 => ?_)
      refine WPe_st (st2 := [vI z18.1]) rfl ?_
      refine WPe_if_ne (pc := 49) 56 (dd dtX3_beginsToken 27 rfl) (by decide) (fun h21 => ?_) (fun h21 => ?_)
      · refine WPe_iconst (pc := 52) (1 : Int32) (dd dtX3_beginsToken 28 rfl) (by decide) ?_
        refine WPe_goto (pc := 53) 57 (dd dtX3_beginsToken 29 rfl) (by decide) ?_
        exact WPe_zreturn (pc := 57) (ty := .boolean) (dd dtX3_beginsToken 31 rfl) rfl rfl rfl ⟨(Nat.le_of_ble_eq_true rfl), (Nat.le_of_ble_eq_true rfl)⟩
      · refine WPe_iconst (pc := 56) (0 : Int32) (dd dtX3_beginsToken 30 rfl) (by decide) ?_
        exact WPe_zreturn (pc := 57) (ty := .boolean) (dd dtX3_beginsToken 31 rfl) rfl rfl rfl ⟨(Nat.le_of_ble_eq_true rfl), (Nat.le_of_ble_eq_true rfl)⟩
  · refine WPe_aload_n (pc := 13) 1 (dd dtX3_beginsToken 7 rfl) rfl ?_
    refine WPe_iload_n (pc := 14) 2 (dd dtX3_beginsToken 8 rfl) rfl ?_
    refine WPe_iconst (pc := 15) (1 : Int32) (dd dtX3_beginsToken 9 rfl) (by decide) ?_
    refine WPe_isub (pc := 16) (dd dtX3_beginsToken 10 rfl) ?_
    refine WPe_callV (pc := 17) (rtc := rtI) (Mc := mX3_byteAt) (d' := 1) (mc' := 0) (ms' := 0) [vI (x1 - (1 : Int32))] [] rfl (dd dtX3_beginsToken 11 rfl) (okf3_byteAt x0 (x1 - (1 : Int32)) z5.2) moX3_byteAt miX3_byteAt (bw_mem1 135 rfl rfl) (Or.inl ⟨_, _, _, _, (e7.at (e4.at (shE h1) (by decide)) (by decide)), rfl⟩) rfl (Nat.le_of_ble_eq_true rfl) ⟨(Nat.le_of_ble_eq_true rfl), (Nat.le_of_ble_eq_true rfl)⟩ ⟨(Nat.le_of_ble_eq_true rfl), (Nat.le_of_ble_eq_true rfl)⟩ (fun z22 h23 e24 => ?_)
    refine WPe_st (st2 := [vI z22.1]) rfl ?_
    refine WPe_callS (pc := 20) (rtc := rtI) (Mc := mX3_isLetter) (d' := 1) (mc' := 0) (ms' := 0) [vI z22.1] [] rfl (dd dtX3_beginsToken 12 rfl) (okf3_isLetter z22.1 z22.2) moX3_isLetter msX3_isLetter (bw_mem1 139 rfl rfl) rfl (Nat.le_of_ble_eq_true rfl) ⟨(Nat.le_of_ble_eq_true rfl), (Nat.le_of_ble_eq_true rfl)⟩ ⟨(Nat.le_of_ble_eq_true rfl), (Nat.le_of_ble_eq_true rfl)⟩ (fun z25 h26 e27 => ?_)
    refine WPe_st (st2 := [vI z25.1]) rfl ?_
    refine WPe_if_ne (pc := 23) 30 (dd dtX3_beginsToken 13 rfl) (by decide) (fun h28 => ?_) (fun h28 => ?_)
    · refine WPe_iconst (pc := 26) (1 : Int32) (dd dtX3_beginsToken 14 rfl) (by decide) ?_
      refine WPe_goto (pc := 27) 31 (dd dtX3_beginsToken 15 rfl) (by decide) ?_
      exact WPe_zreturn (pc := 31) (ty := .boolean) (dd dtX3_beginsToken 17 rfl) rfl rfl rfl ⟨(Nat.le_of_ble_eq_true rfl), (Nat.le_of_ble_eq_true rfl)⟩
    · refine WPe_iconst (pc := 30) (0 : Int32) (dd dtX3_beginsToken 16 rfl) (by decide) ?_
      exact WPe_zreturn (pc := 31) (ty := .boolean) (dd dtX3_beginsToken 17 rfl) rfl rfl rfl ⟨(Nat.le_of_ble_eq_true rfl), (Nat.le_of_ble_eq_true rfl)⟩
theorem okf3_beginsToken (x0 : Nat) (x1 : Int32) (w : Wd) : ∀ z, f3_beginsToken x0 x1 w = some z → OkM mX3_beginsToken 2 0 0 [vR x0, vI x1] w (rtI z.1) z.2 :=
  OkM.of (rt := rtI) moX3_beginsToken (Nat.le_of_ble_eq_true rfl) (fun X => wpf3_beginsToken X w x0 x1 w)
def tbX3_isWord : List (Nat × Instr × Nat) := [(0, .aload_n 1, 1), (1, .invokevirtual 32, 3), (4, .iload_n 3, 1), (5, .iload_n 2, 1), (6, .isub, 1), (7, .if_icmp .eq 5, 3), (10, .iconst 0, 1), (11, .ireturn, 1), (12, .iconst 0, 1), (13, .istore 4, 2), (15, .iload 4, 2), (17, .aload_n 1, 1), (18, .invokevirtual 32, 3), (21, .if_icmp .ge 28, 3), (24, .aload_n 0, 1), (25, .iload_n 2, 1), (26, .iload 4, 2), (28, .iadd, 1), (29, .invokevirtual 86, 3), (32, .aload_n 1, 1), (33, .iload 4, 2), (35, .invokevirtual 38, 3), (38, .if_icmp .eq 5, 3), (41, .iconst 0, 1), (42, .ireturn, 1), (43, .iinc 4 1, 3), (46, .goto (-31), 3), (49, .iconst 1, 1), (50, .ireturn, 1)]
set_option maxRecDepth 20000 in
theorem dtX3_isWord : ∀ x ∈ tbX3_isWord, decode cX3_isWord x.1 = .ok x.2 := by decide +kernel
noncomputable def b3_isWord_15 (k15 : Nat × Nat × Int32 × Int32 → Wd → Option (Int32 × Wd)) (v : Nat × Nat × Int32 × Int32) (w : Wd) : Option (Int32 × Wd) :=
  ck (2 ≤ v.2.1 ∧ v.2.1 < 15) ((fJ0_length_8abf5 v.2.1 w).bind fun z7 => (if z7.1 ≤ v.2.2.2 then (some ((1 : Int32), z7.2)) else (ck (tg z7.2 v.1 = 3) ((f3_byteAt v.1 (v.2.2.1 + v.2.2.2) z7.2).bind fun z12 => ((fJ0_charAt_5068e v.2.1 v.2.2.2 z12.2).bind fun z15 => (if z12.1 = z15.1 then (k15 (v.1, v.2.1, v.2.2.1, (v.2.2.2 + (1 : Int32))) z15.2) else (some ((0 : Int32), z15.2))))))))
theorem wpb3_isWord_15 (X : CX) (w0 : Wd) (k15 : Nat × Nat × Int32 × Int32 → Wd → Option (Int32 × Wd)) (hk15 : ∀ (v : Nat × Nat × Int32 × Int32) (w : Wd), WPe rtI X (mX3_isWord, 5, 0, 0, w0) 0 0 (k15 v w) 15 [(0, vR v.1), (1, vR v.2.1), (2, vI v.2.2.1), (4, vI v.2.2.2)] [] w) (v : Nat × Nat × Int32 × Int32) (w : Wd) : WPe rtI X (mX3_isWord, 5, 0, 0, w0) 0 0 (b3_isWord_15 k15 v w) 15 [(0, vR v.1), (1, vR v.2.1), (2, vI v.2.2.1), (4, vI v.2.2.2)] [] w := by
  unfold b3_isWord_15
  refine WPe_iload (pc := 15) 3 (dd dtX3_isWord 10 rfl) rfl ?_
  refine WPe_aload_n (pc := 17) 1 (dd dtX3_isWord 11 rfl) rfl ?_
  refine WPe_ck fun h6 => ?_
  refine WPe_callV (pc := 18) (rtc := rtI) (Mc := mJ0_length_8abf5) (d' := 2) (mc' := 0) (ms' := 0) [] [vI v.2.2.2] rfl (dd dtX3_isWord 12 rfl) (okfJ0_length_8abf5 v.2.1 w) moJ0_length_8abf5 miJ0_length_8abf5 (bw_mem1 67 rfl rfl) (Or.inr ⟨h6.1, h6.2, rfl⟩) rfl (Nat.le_of_ble_eq_true rfl) ⟨(Nat.le_of_ble_eq_true rfl), (Nat.le_of_ble_eq_true rfl)⟩ ⟨(Nat.le_of_ble_eq_true rfl), (Nat.le_of_ble_eq_true rfl)⟩ (fun z7 h8 e9 => ?_)
  refine WPe_st (st2 := [vI z7.1, vI v.2.2.2]) rfl ?_
  refine WPe_icmp_ge (pc := 21) 49 (dd dtX3_isWord 13 rfl) (by decide) (fun h10 => ?_) (fun h10 => ?_)
  · refine WPe_iconst (pc := 49) (1 : Int32) (dd dtX3_isWord 27 rfl) (by decide) ?_
    exact WPe_zreturn (pc := 50) (ty := .boolean) (dd dtX3_isWord 28 rfl) rfl rfl rfl ⟨(Nat.le_of_ble_eq_true rfl), (Nat.le_of_ble_eq_true rfl)⟩
  · refine WPe_aload_n (pc := 24) 0 (dd dtX3_isWord 14 rfl) rfl ?_
    refine WPe_iload_n (pc := 25) 2 (dd dtX3_isWord 15 rfl) rfl ?_
    refine WPe_iload (pc := 26) 3 (dd dtX3_isWord 16 rfl) rfl ?_
    refine WPe_iadd (pc := 28) (dd dtX3_isWord 17 rfl) ?_
    refine WPe_ck fun h11 => ?_
    refine WPe_callV (pc := 29) (rtc := rtI) (Mc := mX3_byteAt) (d' := 1) (mc' := 0) (ms' := 0) [vI (v.2.2.1 + v.2.2.2)] [] rfl (dd dtX3_isWord 18 rfl) (okf3_byteAt v.1 (v.2.2.1 + v.2.2.2) z7.2) moX3_byteAt miX3_byteAt (bw_mem1 135 rfl rfl) (Or.inl ⟨_, _, _, _, (shE h11), rfl⟩) rfl (Nat.le_of_ble_eq_true rfl) ⟨(Nat.le_of_ble_eq_true rfl), (Nat.le_of_ble_eq_true rfl)⟩ ⟨(Nat.le_of_ble_eq_true rfl), (Nat.le_of_ble_eq_true rfl)⟩ (fun z12 h13 e14 => ?_)
    refine WPe_st (st2 := [vI z12.1]) rfl ?_
    refine WPe_aload_n (pc := 32) 1 (dd dtX3_isWord 19 rfl) rfl ?_
    refine WPe_iload (pc := 33) 3 (dd dtX3_isWord 20 rfl) rfl ?_
    refine WPe_callV (pc := 35) (rtc := rtI) (Mc := mJ0_charAt_5068e) (d' := 4) (mc' := 0) (ms' := 0) [vI v.2.2.2] [vI z12.1] rfl (dd dtX3_isWord 21 rfl) (okfJ0_charAt_5068e v.2.1 v.2.2.2 z12.2) moJ0_charAt_5068e miJ0_charAt_5068e (bw_mem1 77 rfl rfl) (Or.inr ⟨h6.1, h6.2, rfl⟩) rfl (Nat.le_of_ble_eq_true rfl) ⟨(Nat.le_of_ble_eq_true rfl), (Nat.le_of_ble_eq_true rfl)⟩ ⟨(Nat.le_of_ble_eq_true rfl), (Nat.le_of_ble_eq_true rfl)⟩ (fun z15 h16 e17 => ?_)
    refine WPe_st (st2 := [vI z15.1, vI z12.1]) rfl ?_
    refine WPe_icmp_eq (pc := 38) 43 (dd dtX3_isWord 22 rfl) (by decide) (fun h18 => ?_) (fun h18 => ?_)
    · refine WPe_iinc (pc := 43) (ls' := [(4, vI (v.2.2.2 + (1 : Int32))), (0, vR v.1), (1, vR v.2.1), (2, vI v.2.2.1)]) 3 (v.2.2.2 + (1 : Int32)) (dd dtX3_isWord 25 rfl) rfl (congrArg (HAdd.hAdd _) (by decide : Int32.ofInt (1) = (1 : Int32))) (Nat.le_of_ble_eq_true rfl) rfl ?_
      refine WPe_goto (pc := 46) 15 (dd dtX3_isWord 26 rfl) (by decide) ?_
      refine WPe_sub [1, 2, 3, 0] rfl ?_
      exact hk15 (v.1, v.2.1, v.2.2.1, (v.2.2.2 + (1 : Int32))) z15.2
    · refine WPe_iconst (pc := 41) (0 : Int32) (dd dtX3_isWord 23 rfl) (by decide) ?_
      exact WPe_zreturn (pc := 42) (ty := .boolean) (dd dtX3_isWord 24 rfl) rfl rfl rfl ⟨(Nat.le_of_ble_eq_true rfl), (Nat.le_of_ble_eq_true rfl)⟩
theorem wplb3_isWord_15 (X : CX) (w0 : Wd)  : ∀ (n9 : Nat) (v : Nat × Nat × Int32 × Int32) (w : Wd), WPe rtI X (mX3_isWord, 5, 0, 0, w0) 0 0 (loopF (b3_isWord_15 ) n9 v w) 15 [(0, vR v.1), (1, vR v.2.1), (2, vI v.2.2.1), (4, vI v.2.2.2)] [] w :=
  WPe_loop (rt := rtI) (X := X) (M := (mX3_isWord, 5, 0, 0, w0)) (fun v : Nat × Nat × Int32 × Int32 => [(0, vR v.1), (1, vR v.2.1), (2, vI v.2.2.1), (4, vI v.2.2.2)]) (fun k hk v w => wpb3_isWord_15 X w0  k hk v w)
noncomputable def f3_isWord (x0 : Nat) (x1 : Nat) (x2 : Int32) (x3 : Int32) (w : Wd) : Option (Int32 × Wd) :=
  ck (2 ≤ x1 ∧ x1 < 15) ((fJ0_length_8abf5 x1 w).bind fun z2 => (if z2.1 = (x3 - x2) then (loopF (b3_isWord_15) FU (x0, x1, x2, (0 : Int32)) z2.2) else (some ((0 : Int32), z2.2))))
theorem wpf3_isWord (X : CX) (w0 : Wd) (x0 : Nat) (x1 : Nat) (x2 : Int32) (x3 : Int32) (w : Wd) : WPe rtI X (mX3_isWord, 5, 0, 0, w0) 0 0 (f3_isWord x0 x1 x2 x3 w) 0 [(0, vR x0), (1, vR x1), (2, vI x2), (3, vI x3)] [] w := by
  unfold f3_isWord
  refine WPe_aload_n (pc := 0) 1 (dd dtX3_isWord 0 rfl) rfl ?_
  refine WPe_ck fun h1 => ?_
  refine WPe_callV (pc := 1) (rtc := rtI) (Mc := mJ0_length_8abf5) (d' := 2) (mc' := 0) (ms' := 0) [] [] rfl (dd dtX3_isWord 1 rfl) (okfJ0_length_8abf5 x1 w) moJ0_length_8abf5 miJ0_length_8abf5 (bw_mem1 67 rfl rfl) (Or.inr ⟨h1.1, h1.2, rfl⟩) rfl (Nat.le_of_ble_eq_true rfl) ⟨(Nat.le_of_ble_eq_true rfl), (Nat.le_of_ble_eq_true rfl)⟩ ⟨(Nat.le_of_ble_eq_true rfl), (Nat.le_of_ble_eq_true rfl)⟩ (fun z2 h3 e4 => ?_)
  refine WPe_st (st2 := [vI z2.1]) rfl ?_
  refine WPe_iload_n (pc := 4) 3 (dd dtX3_isWord 2 rfl) rfl ?_
  refine WPe_iload_n (pc := 5) 2 (dd dtX3_isWord 3 rfl) rfl ?_
  refine WPe_isub (pc := 6) (dd dtX3_isWord 4 rfl) ?_
  refine WPe_icmp_eq (pc := 7) 12 (dd dtX3_isWord 5 rfl) (by decide) (fun h5 => ?_) (fun h5 => ?_)
  · refine WPe_iconst (pc := 12) (0 : Int32) (dd dtX3_isWord 8 rfl) (by decide) ?_
    refine WPe_istore (pc := 13) (ls' := [(4, vI (0 : Int32)), (0, vR x0), (1, vR x1), (2, vI x2), (3, vI x3)]) (dd dtX3_isWord 9 rfl) (Nat.le_of_ble_eq_true rfl) rfl ?_
    refine WPe_sub [1, 2, 3, 0] rfl ?_
    exact wplb3_isWord_15 X w0  FU _ _
  · refine WPe_iconst (pc := 10) (0 : Int32) (dd dtX3_isWord 6 rfl) (by decide) ?_
    exact WPe_zreturn (pc := 11) (ty := .boolean) (dd dtX3_isWord 7 rfl) rfl rfl rfl ⟨(Nat.le_of_ble_eq_true rfl), (Nat.le_of_ble_eq_true rfl)⟩
theorem okf3_isWord (x0 : Nat) (x1 : Nat) (x2 : Int32) (x3 : Int32) (w : Wd) : ∀ z, f3_isWord x0 x1 x2 x3 w = some z → OkM mX3_isWord 5 0 0 [vR x0, vR x1, vI x2, vI x3] w (rtI z.1) z.2 :=
  OkM.of (rt := rtI) moX3_isWord (Nat.le_of_ble_eq_true rfl) (fun X => wpf3_isWord X w x0 x1 x2 x3 w)
def tbX3_wordAt : List (Nat × Instr × Nat) := [(0, .iload_n 1, 1), (1, .istore_n 2, 1), (2, .iload_n 2, 1), (3, .aload_n 0, 1), (4, .getfield 24, 3), (7, .if_icmp .ge 20, 3), (10, .aload_n 0, 1), (11, .iload_n 2, 1), (12, .invokevirtual 86, 3), (15, .invokestatic 89, 3), (18, .ifCond .eq 9, 3), (21, .iinc 2 1, 3), (24, .goto (-22), 3), (27, .aload_n 0, 1), (28, .ldc 104, 2), (30, .iload_n 1, 1), (31, .iload_n 2, 1), (32, .invokevirtual 106, 3), (35, .ifCond .eq 9, 3), (38, .sipush 10030, 3), (41, .goto 193, 3), (44, .aload_n 0, 1), (45, .ldc 110, 2), (47, .iload_n 1, 1), (48, .iload_n 2, 1), (49, .invokevirtual 106, 3), (52, .ifCond .eq 9, 3), (55, .sipush 10031, 3), (58, .goto 176, 3), (61, .aload_n 0, 1), (62, .ldc 112, 2), (64, .iload_n 1, 1), (65, .iload_n 2, 1), (66, .invokevirtual 106, 3), (69, .ifCond .eq 9, 3), (72, .sipush 10032, 3), (75, .goto 159, 3), (78, .aload_n 0, 1), (79, .ldc 114, 2), (81, .iload_n 1, 1), (82, .iload_n 2, 1), (83, .invokevirtual 106, 3), (86, .ifCond .eq 9, 3), (89, .sipush 10010, 3), (92, .goto 142, 3), (95, .aload_n 0, 1), (96, .ldc 116, 2), (98, .iload_n 1, 1), (99, .iload_n 2, 1), (100, .invokevirtual 106, 3), (103, .ifCond .eq 9, 3), (106, .sipush 10011, 3), (109, .goto 125, 3), (112, .aload_n 0, 1), (113, .ldc 118, 2), (115, .iload_n 1, 1), (116, .iload_n 2, 1), (117, .invokevirtual 106, 3), (120, .ifCond .eq 9, 3), (123, .sipush 10012, 3), (126, .goto 108, 3), (129, .aload_n 0, 1), (130, .ldc 120, 2), (132, .iload_n 1, 1), (133, .iload_n 2, 1), (134, .invokevirtual 106, 3), (137, .ifCond .eq 9, 3), (140, .sipush 10000, 3), (143, .goto 91, 3), (146, .aload_n 0, 1), (147, .ldc 122, 2), (149, .iload_n 1, 1), (150, .iload_n 2, 1), (151, .invokevirtual 106, 3), (154, .ifCond .eq 9, 3), (157, .sipush 10001, 3), (160, .goto 74, 3), (163, .aload_n 0, 1), (164, .ldc 124, 2), (166, .iload_n 1, 1), (167, .iload_n 2, 1), (168, .invokevirtual 106, 3), (171, .ifCond .eq 9, 3), (174, .sipush 10002, 3), (177, .goto 57, 3), (180, .aload_n 0, 1), (181, .ldc 126, 2), (183, .iload_n 1, 1), (184, .iload_n 2, 1), (185, .invokevirtual 106, 3), (188, .ifCond .eq 9, 3), (191, .sipush 10003, 3), (194, .goto 40, 3), (197, .aload_n 0, 1), (198, .ldc 128, 2), (200, .iload_n 1, 1), (201, .iload_n 2, 1), (202, .invokevirtual 106, 3), (205, .ifCond .eq 9, 3), (208, .sipush 10004, 3), (211, .goto 23, 3), (214, .aload_n 0, 1), (215, .ldc 130, 2), (217, .iload_n 1, 1), (218, .iload_n 2, 1), (219, .invokevirtual 106, 3), (222, .ifCond .eq 9, 3), (225, .sipush 10005, 3), (228, .goto 6, 3), (231, .sipush 10041, 3), (234, .ireturn, 1)]
set_option maxRecDepth 20000 in
theorem dtX3_wordAt : ∀ x ∈ tbX3_wordAt, decode cX3_wordAt x.1 = .ok x.2 := by decide +kernel
noncomputable def j3_wordAt_27  (x0 : Nat) (x1 : Int32) (x2 : Int32) (w : Wd) : Option (Int32 × Wd) :=
  ck (tg w x0 = 3) ((f3_isWord x0 (3 : Nat) x1 x2 w).bind fun z4 => (if z4.1 = (0 : Int32) then ((f3_isWord x0 (4 : Nat) x1 x2 z4.2).bind fun z8 => (if z8.1 = (0 : Int32) then ((f3_isWord x0 (5 : Nat) x1 x2 z8.2).bind fun z12 => (if z12.1 = (0 : Int32) then ((f3_isWord x0 (6 : Nat) x1 x2 z12.2).bind fun z16 => (if z16.1 = (0 : Int32) then ((f3_isWord x0 (7 : Nat) x1 x2 z16.2).bind fun z20 => (if z20.1 = (0 : Int32) then ((f3_isWord x0 (8 : Nat) x1 x2 z20.2).bind fun z24 => (if z24.1 = (0 : Int32) then ((f3_isWord x0 (9 : Nat) x1 x2 z24.2).bind fun z28 => (if z28.1 = (0 : Int32) then ((f3_isWord x0 (10 : Nat) x1 x2 z28.2).bind fun z32 => (if z32.1 = (0 : Int32) then ((f3_isWord x0 (11 : Nat) x1 x2 z32.2).bind fun z36 => (if z36.1 = (0 : Int32) then ((f3_isWord x0 (12 : Nat) x1 x2 z36.2).bind fun z40 => (if z40.1 = (0 : Int32) then ((f3_isWord x0 (13 : Nat) x1 x2 z40.2).bind fun z44 => (if z44.1 = (0 : Int32) then ((f3_isWord x0 (14 : Nat) x1 x2 z44.2).bind fun z48 => (if z48.1 = (0 : Int32) then (some ((10041 : Int32), z48.2)) else (some ((10005 : Int32), z48.2)))) else (some ((10004 : Int32), z44.2)))) else (some ((10003 : Int32), z40.2)))) else (some ((10002 : Int32), z36.2)))) else (some ((10001 : Int32), z32.2)))) else (some ((10000 : Int32), z28.2)))) else (some ((10012 : Int32), z24.2)))) else (some ((10011 : Int32), z20.2)))) else (some ((10010 : Int32), z16.2)))) else (some ((10032 : Int32), z12.2)))) else (some ((10031 : Int32), z8.2)))) else (some ((10030 : Int32), z4.2))))
theorem wpj3_wordAt_27 (X : CX) (w0 : Wd)  (x0 : Nat) (x1 : Int32) (x2 : Int32) (w : Wd) : WPe rtI X (mX3_wordAt, 6, 0, 0, w0) 0 0 (j3_wordAt_27  x0 x1 x2 w) 27 [(0, vR x0), (1, vI x1), (2, vI x2)] [] w := by
  unfold j3_wordAt_27
  refine WPe_aload_n (pc := 27) 0 (dd dtX3_wordAt 13 rfl) rfl ?_
  refine WPe_ldcS (pc := 28) 3 (dd dtX3_wordAt 14 rfl) (Nat.le_of_ble_eq_true rfl) (Nat.le_of_ble_eq_true rfl) rfl ?_
  refine WPe_iload_n (pc := 30) 1 (dd dtX3_wordAt 15 rfl) rfl ?_
  refine WPe_iload_n (pc := 31) 2 (dd dtX3_wordAt 16 rfl) rfl ?_
  refine WPe_ck fun h3 => ?_
  refine WPe_callV (pc := 32) (rtc := rtI) (Mc := mX3_isWord) (d' := 5) (mc' := 0) (ms' := 0) [vR (3 : Nat), vI x1, vI x2] [] rfl (dd dtX3_wordAt 17 rfl) (okf3_isWord x0 (3 : Nat) x1 x2 w) moX3_isWord miX3_isWord (bw_mem1 154 rfl rfl) (Or.inl ⟨_, _, _, _, (shE h3), rfl⟩) rfl (Nat.le_of_ble_eq_true rfl) ⟨(Nat.le_of_ble_eq_true rfl), (Nat.le_of_ble_eq_true rfl)⟩ ⟨(Nat.le_of_ble_eq_true rfl), (Nat.le_of_ble_eq_true rfl)⟩ (fun z4 h5 e6 => ?_)
  refine WPe_st (st2 := [vI z4.1]) rfl ?_
  refine WPe_if_eq (pc := 35) 44 (dd dtX3_wordAt 18 rfl) (by decide) (fun h7 => ?_) (fun h7 => ?_)
  · refine WPe_aload_n (pc := 44) 0 (dd dtX3_wordAt 21 rfl) rfl ?_
    refine WPe_ldcS (pc := 45) 4 (dd dtX3_wordAt 22 rfl) (Nat.le_of_ble_eq_true rfl) (Nat.le_of_ble_eq_true rfl) rfl ?_
    refine WPe_iload_n (pc := 47) 1 (dd dtX3_wordAt 23 rfl) rfl ?_
    refine WPe_iload_n (pc := 48) 2 (dd dtX3_wordAt 24 rfl) rfl ?_
    refine WPe_callV (pc := 49) (rtc := rtI) (Mc := mX3_isWord) (d' := 5) (mc' := 0) (ms' := 0) [vR (4 : Nat), vI x1, vI x2] [] rfl (dd dtX3_wordAt 25 rfl) (okf3_isWord x0 (4 : Nat) x1 x2 z4.2) moX3_isWord miX3_isWord (bw_mem1 154 rfl rfl) (Or.inl ⟨_, _, _, _, (e6.at (shE h3) (by decide)), rfl⟩) rfl (Nat.le_of_ble_eq_true rfl) ⟨(Nat.le_of_ble_eq_true rfl), (Nat.le_of_ble_eq_true rfl)⟩ ⟨(Nat.le_of_ble_eq_true rfl), (Nat.le_of_ble_eq_true rfl)⟩ (fun z8 h9 e10 => ?_)
    refine WPe_st (st2 := [vI z8.1]) rfl ?_
    refine WPe_if_eq (pc := 52) 61 (dd dtX3_wordAt 26 rfl) (by decide) (fun h11 => ?_) (fun h11 => ?_)
    · refine WPe_aload_n (pc := 61) 0 (dd dtX3_wordAt 29 rfl) rfl ?_
      refine WPe_ldcS (pc := 62) 5 (dd dtX3_wordAt 30 rfl) (Nat.le_of_ble_eq_true rfl) (Nat.le_of_ble_eq_true rfl) rfl ?_
      refine WPe_iload_n (pc := 64) 1 (dd dtX3_wordAt 31 rfl) rfl ?_
      refine WPe_iload_n (pc := 65) 2 (dd dtX3_wordAt 32 rfl) rfl ?_
      refine WPe_callV (pc := 66) (rtc := rtI) (Mc := mX3_isWord) (d' := 5) (mc' := 0) (ms' := 0) [vR (5 : Nat), vI x1, vI x2] [] rfl (dd dtX3_wordAt 33 rfl) (okf3_isWord x0 (5 : Nat) x1 x2 z8.2) moX3_isWord miX3_isWord (bw_mem1 154 rfl rfl) (Or.inl ⟨_, _, _, _, (e10.at (e6.at (shE h3) (by decide)) (by decide)), rfl⟩) rfl (Nat.le_of_ble_eq_true rfl) ⟨(Nat.le_of_ble_eq_true rfl), (Nat.le_of_ble_eq_true rfl)⟩ ⟨(Nat.le_of_ble_eq_true rfl), (Nat.le_of_ble_eq_true rfl)⟩ (fun z12 h13 e14 => ?_)
      refine WPe_st (st2 := [vI z12.1]) rfl ?_
      refine WPe_if_eq (pc := 69) 78 (dd dtX3_wordAt 34 rfl) (by decide) (fun h15 => ?_) (fun h15 => ?_)
      · refine WPe_aload_n (pc := 78) 0 (dd dtX3_wordAt 37 rfl) rfl ?_
        refine WPe_ldcS (pc := 79) 6 (dd dtX3_wordAt 38 rfl) (Nat.le_of_ble_eq_true rfl) (Nat.le_of_ble_eq_true rfl) rfl ?_
        refine WPe_iload_n (pc := 81) 1 (dd dtX3_wordAt 39 rfl) rfl ?_
        refine WPe_iload_n (pc := 82) 2 (dd dtX3_wordAt 40 rfl) rfl ?_
        refine WPe_callV (pc := 83) (rtc := rtI) (Mc := mX3_isWord) (d' := 5) (mc' := 0) (ms' := 0) [vR (6 : Nat), vI x1, vI x2] [] rfl (dd dtX3_wordAt 41 rfl) (okf3_isWord x0 (6 : Nat) x1 x2 z12.2) moX3_isWord miX3_isWord (bw_mem1 154 rfl rfl) (Or.inl ⟨_, _, _, _, (e14.at (e10.at (e6.at (shE h3) (by decide)) (by decide)) (by decide)), rfl⟩) rfl (Nat.le_of_ble_eq_true rfl) ⟨(Nat.le_of_ble_eq_true rfl), (Nat.le_of_ble_eq_true rfl)⟩ ⟨(Nat.le_of_ble_eq_true rfl), (Nat.le_of_ble_eq_true rfl)⟩ (fun z16 h17 e18 => ?_)
        refine WPe_st (st2 := [vI z16.1]) rfl ?_
        refine WPe_if_eq (pc := 86) 95 (dd dtX3_wordAt 42 rfl) (by decide) (fun h19 => ?_) (fun h19 => ?_)
        · refine WPe_aload_n (pc := 95) 0 (dd dtX3_wordAt 45 rfl) rfl ?_
          refine WPe_ldcS (pc := 96) 7 (dd dtX3_wordAt 46 rfl) (Nat.le_of_ble_eq_true rfl) (Nat.le_of_ble_eq_true rfl) rfl ?_
          refine WPe_iload_n (pc := 98) 1 (dd dtX3_wordAt 47 rfl) rfl ?_
          refine WPe_iload_n (pc := 99) 2 (dd dtX3_wordAt 48 rfl) rfl ?_
          refine WPe_callV (pc := 100) (rtc := rtI) (Mc := mX3_isWord) (d' := 5) (mc' := 0) (ms' := 0) [vR (7 : Nat), vI x1, vI x2] [] rfl (dd dtX3_wordAt 49 rfl) (okf3_isWord x0 (7 : Nat) x1 x2 z16.2) moX3_isWord miX3_isWord (bw_mem1 154 rfl rfl) (Or.inl ⟨_, _, _, _, (e18.at (e14.at (e10.at (e6.at (shE h3) (by decide)) (by decide)) (by decide)) (by decide)), rfl⟩) rfl (Nat.le_of_ble_eq_true rfl) ⟨(Nat.le_of_ble_eq_true rfl), (Nat.le_of_ble_eq_true rfl)⟩ ⟨(Nat.le_of_ble_eq_true rfl), (Nat.le_of_ble_eq_true rfl)⟩ (fun z20 h21 e22 => ?_)
          refine WPe_st (st2 := [vI z20.1]) rfl ?_
          refine WPe_if_eq (pc := 103) 112 (dd dtX3_wordAt 50 rfl) (by decide) (fun h23 => ?_) (fun h23 => ?_)
          · refine WPe_aload_n (pc := 112) 0 (dd dtX3_wordAt 53 rfl) rfl ?_
            refine WPe_ldcS (pc := 113) 8 (dd dtX3_wordAt 54 rfl) (Nat.le_of_ble_eq_true rfl) (Nat.le_of_ble_eq_true rfl) rfl ?_
            refine WPe_iload_n (pc := 115) 1 (dd dtX3_wordAt 55 rfl) rfl ?_
            refine WPe_iload_n (pc := 116) 2 (dd dtX3_wordAt 56 rfl) rfl ?_
            refine WPe_callV (pc := 117) (rtc := rtI) (Mc := mX3_isWord) (d' := 5) (mc' := 0) (ms' := 0) [vR (8 : Nat), vI x1, vI x2] [] rfl (dd dtX3_wordAt 57 rfl) (okf3_isWord x0 (8 : Nat) x1 x2 z20.2) moX3_isWord miX3_isWord (bw_mem1 154 rfl rfl) (Or.inl ⟨_, _, _, _, (e22.at (e18.at (e14.at (e10.at (e6.at (shE h3) (by decide)) (by decide)) (by decide)) (by decide)) (by decide)), rfl⟩) rfl (Nat.le_of_ble_eq_true rfl) ⟨(Nat.le_of_ble_eq_true rfl), (Nat.le_of_ble_eq_true rfl)⟩ ⟨(Nat.le_of_ble_eq_true rfl), (Nat.le_of_ble_eq_true rfl)⟩ (fun z24 h25 e26 => ?_)
            refine WPe_st (st2 := [vI z24.1]) rfl ?_
            refine WPe_if_eq (pc := 120) 129 (dd dtX3_wordAt 58 rfl) (by decide) (fun h27 => ?_) (fun h27 => ?_)
            · refine WPe_aload_n (pc := 129) 0 (dd dtX3_wordAt 61 rfl) rfl ?_
              refine WPe_ldcS (pc := 130) 9 (dd dtX3_wordAt 62 rfl) (Nat.le_of_ble_eq_true rfl) (Nat.le_of_ble_eq_true rfl) rfl ?_
              refine WPe_iload_n (pc := 132) 1 (dd dtX3_wordAt 63 rfl) rfl ?_
              refine WPe_iload_n (pc := 133) 2 (dd dtX3_wordAt 64 rfl) rfl ?_
              refine WPe_callV (pc := 134) (rtc := rtI) (Mc := mX3_isWord) (d' := 5) (mc' := 0) (ms' := 0) [vR (9 : Nat), vI x1, vI x2] [] rfl (dd dtX3_wordAt 65 rfl) (okf3_isWord x0 (9 : Nat) x1 x2 z24.2) moX3_isWord miX3_isWord (bw_mem1 154 rfl rfl) (Or.inl ⟨_, _, _, _, (e26.at (e22.at (e18.at (e14.at (e10.at (e6.at (shE h3) (by decide)) (by decide)) (by decide)) (by decide)) (by decide)) (by decide)), rfl⟩) rfl (Nat.le_of_ble_eq_true rfl) ⟨(Nat.le_of_ble_eq_true rfl), (Nat.le_of_ble_eq_true rfl)⟩ ⟨(Nat.le_of_ble_eq_true rfl), (Nat.le_of_ble_eq_true rfl)⟩ (fun z28 h29 e30 => ?_)
              refine WPe_st (st2 := [vI z28.1]) rfl ?_
              refine WPe_if_eq (pc := 137) 146 (dd dtX3_wordAt 66 rfl) (by decide) (fun h31 => ?_) (fun h31 => ?_)
              · refine WPe_aload_n (pc := 146) 0 (dd dtX3_wordAt 69 rfl) rfl ?_
                refine WPe_ldcS (pc := 147) 10 (dd dtX3_wordAt 70 rfl) (Nat.le_of_ble_eq_true rfl) (Nat.le_of_ble_eq_true rfl) rfl ?_
                refine WPe_iload_n (pc := 149) 1 (dd dtX3_wordAt 71 rfl) rfl ?_
                refine WPe_iload_n (pc := 150) 2 (dd dtX3_wordAt 72 rfl) rfl ?_
                refine WPe_callV (pc := 151) (rtc := rtI) (Mc := mX3_isWord) (d' := 5) (mc' := 0) (ms' := 0) [vR (10 : Nat), vI x1, vI x2] [] rfl (dd dtX3_wordAt 73 rfl) (okf3_isWord x0 (10 : Nat) x1 x2 z28.2) moX3_isWord miX3_isWord (bw_mem1 154 rfl rfl) (Or.inl ⟨_, _, _, _, (e30.at (e26.at (e22.at (e18.at (e14.at (e10.at (e6.at (shE h3) (by decide)) (by decide)) (by decide)) (by decide)) (by decide)) (by decide)) (by decide)), rfl⟩) rfl (Nat.le_of_ble_eq_true rfl) ⟨(Nat.le_of_ble_eq_true rfl), (Nat.le_of_ble_eq_true rfl)⟩ ⟨(Nat.le_of_ble_eq_true rfl), (Nat.le_of_ble_eq_true rfl)⟩ (fun z32 h33 e34 => ?_)
                refine WPe_st (st2 := [vI z32.1]) rfl ?_
                refine WPe_if_eq (pc := 154) 163 (dd dtX3_wordAt 74 rfl) (by decide) (fun h35 => ?_) (fun h35 => ?_)
                · refine WPe_aload_n (pc := 163) 0 (dd dtX3_wordAt 77 rfl) rfl ?_
                  refine WPe_ldcS (pc := 164) 11 (dd dtX3_wordAt 78 rfl) (Nat.le_of_ble_eq_true rfl) (Nat.le_of_ble_eq_true rfl) rfl ?_
                  refine WPe_iload_n (pc := 166) 1 (dd dtX3_wordAt 79 rfl) rfl ?_
                  refine WPe_iload_n (pc := 167) 2 (dd dtX3_wordAt 80 rfl) rfl ?_
                  refine WPe_callV (pc := 168) (rtc := rtI) (Mc := mX3_isWord) (d' := 5) (mc' := 0) (ms' := 0) [vR (11 : Nat), vI x1, vI x2] [] rfl (dd dtX3_wordAt 81 rfl) (okf3_isWord x0 (11 : Nat) x1 x2 z32.2) moX3_isWord miX3_isWord (bw_mem1 154 rfl rfl) (Or.inl ⟨_, _, _, _, (e34.at (e30.at (e26.at (e22.at (e18.at (e14.at (e10.at (e6.at (shE h3) (by decide)) (by decide)) (by decide)) (by decide)) (by decide)) (by decide)) (by decide)) (by decide)), rfl⟩) rfl (Nat.le_of_ble_eq_true rfl) ⟨(Nat.le_of_ble_eq_true rfl), (Nat.le_of_ble_eq_true rfl)⟩ ⟨(Nat.le_of_ble_eq_true rfl), (Nat.le_of_ble_eq_true rfl)⟩ (fun z36 h37 e38 => ?_)
                  refine WPe_st (st2 := [vI z36.1]) rfl ?_
                  refine WPe_if_eq (pc := 171) 180 (dd dtX3_wordAt 82 rfl) (by decide) (fun h39 => ?_) (fun h39 => ?_)
                  · refine WPe_aload_n (pc := 180) 0 (dd dtX3_wordAt 85 rfl) rfl ?_
                    refine WPe_ldcS (pc := 181) 12 (dd dtX3_wordAt 86 rfl) (Nat.le_of_ble_eq_true rfl) (Nat.le_of_ble_eq_true rfl) rfl ?_
                    refine WPe_iload_n (pc := 183) 1 (dd dtX3_wordAt 87 rfl) rfl ?_
                    refine WPe_iload_n (pc := 184) 2 (dd dtX3_wordAt 88 rfl) rfl ?_
                    refine WPe_callV (pc := 185) (rtc := rtI) (Mc := mX3_isWord) (d' := 5) (mc' := 0) (ms' := 0) [vR (12 : Nat), vI x1, vI x2] [] rfl (dd dtX3_wordAt 89 rfl) (okf3_isWord x0 (12 : Nat) x1 x2 z36.2) moX3_isWord miX3_isWord (bw_mem1 154 rfl rfl) (Or.inl ⟨_, _, _, _, (e38.at (e34.at (e30.at (e26.at (e22.at (e18.at (e14.at (e10.at (e6.at (shE h3) (by decide)) (by decide)) (by decide)) (by decide)) (by decide)) (by decide)) (by decide)) (by decide)) (by decide)), rfl⟩) rfl (Nat.le_of_ble_eq_true rfl) ⟨(Nat.le_of_ble_eq_true rfl), (Nat.le_of_ble_eq_true rfl)⟩ ⟨(Nat.le_of_ble_eq_true rfl), (Nat.le_of_ble_eq_true rfl)⟩ (fun z40 h41 e42 => ?_)
                    refine WPe_st (st2 := [vI z40.1]) rfl ?_
                    refine WPe_if_eq (pc := 188) 197 (dd dtX3_wordAt 90 rfl) (by decide) (fun h43 => ?_) (fun h43 => ?_)
                    · refine WPe_aload_n (pc := 197) 0 (dd dtX3_wordAt 93 rfl) rfl ?_
                      refine WPe_ldcS (pc := 198) 13 (dd dtX3_wordAt 94 rfl) (Nat.le_of_ble_eq_true rfl) (Nat.le_of_ble_eq_true rfl) rfl ?_
                      refine WPe_iload_n (pc := 200) 1 (dd dtX3_wordAt 95 rfl) rfl ?_
                      refine WPe_iload_n (pc := 201) 2 (dd dtX3_wordAt 96 rfl) rfl ?_
                      refine WPe_callV (pc := 202) (rtc := rtI) (Mc := mX3_isWord) (d' := 5) (mc' := 0) (ms' := 0) [vR (13 : Nat), vI x1, vI x2] [] rfl (dd dtX3_wordAt 97 rfl) (okf3_isWord x0 (13 : Nat) x1 x2 z40.2) moX3_isWord miX3_isWord (bw_mem1 154 rfl rfl) (Or.inl ⟨_, _, _, _, (e42.at (e38.at (e34.at (e30.at (e26.at (e22.at (e18.at (e14.at (e10.at (e6.at (shE h3) (by decide)) (by decide)) (by decide)) (by decide)) (by decide)) (by decide)) (by decide)) (by decide)) (by decide)) (by decide)), rfl⟩) rfl (Nat.le_of_ble_eq_true rfl) ⟨(Nat.le_of_ble_eq_true rfl), (Nat.le_of_ble_eq_true rfl)⟩ ⟨(Nat.le_of_ble_eq_true rfl), (Nat.le_of_ble_eq_true rfl)⟩ (fun z44 h45 e46 => ?_)
                      refine WPe_st (st2 := [vI z44.1]) rfl ?_
                      refine WPe_if_eq (pc := 205) 214 (dd dtX3_wordAt 98 rfl) (by decide) (fun h47 => ?_) (fun h47 => ?_)
                      · refine WPe_aload_n (pc := 214) 0 (dd dtX3_wordAt 101 rfl) rfl ?_
                        refine WPe_ldcS (pc := 215) 14 (dd dtX3_wordAt 102 rfl) (Nat.le_of_ble_eq_true rfl) (Nat.le_of_ble_eq_true rfl) rfl ?_
                        refine WPe_iload_n (pc := 217) 1 (dd dtX3_wordAt 103 rfl) rfl ?_
                        refine WPe_iload_n (pc := 218) 2 (dd dtX3_wordAt 104 rfl) rfl ?_
                        refine WPe_callV (pc := 219) (rtc := rtI) (Mc := mX3_isWord) (d' := 5) (mc' := 0) (ms' := 0) [vR (14 : Nat), vI x1, vI x2] [] rfl (dd dtX3_wordAt 105 rfl) (okf3_isWord x0 (14 : Nat) x1 x2 z44.2) moX3_isWord miX3_isWord (bw_mem1 154 rfl rfl) (Or.inl ⟨_, _, _, _, (e46.at (e42.at (e38.at (e34.at (e30.at (e26.at (e22.at (e18.at (e14.at (e10.at (e6.at (shE h3) (by decide)) (by decide)) (by decide)) (by decide)) (by decide)) (by decide)) (by decide)) (by decide)) (by decide)) (by decide)) (by decide)), rfl⟩) rfl (Nat.le_of_ble_eq_true rfl) ⟨(Nat.le_of_ble_eq_true rfl), (Nat.le_of_ble_eq_true rfl)⟩ ⟨(Nat.le_of_ble_eq_true rfl), (Nat.le_of_ble_eq_true rfl)⟩ (fun z48 h49 e50 => ?_)
                        refine WPe_st (st2 := [vI z48.1]) rfl ?_
                        refine WPe_if_eq (pc := 222) 231 (dd dtX3_wordAt 106 rfl) (by decide) (fun h51 => ?_) (fun h51 => ?_)
                        · refine WPe_sipush (pc := 231) (10041 : Int32) (dd dtX3_wordAt 109 rfl) (by decide) ?_
                          exact WPe_ireturn (pc := 234) (dd dtX3_wordAt 110 rfl) rfl rfl ⟨(Nat.le_of_ble_eq_true rfl), (Nat.le_of_ble_eq_true rfl)⟩
                        · refine WPe_sipush (pc := 225) (10005 : Int32) (dd dtX3_wordAt 107 rfl) (by decide) ?_
                          refine WPe_goto (pc := 228) 234 (dd dtX3_wordAt 108 rfl) (by decide) ?_
                          exact WPe_ireturn (pc := 234) (dd dtX3_wordAt 110 rfl) rfl rfl ⟨(Nat.le_of_ble_eq_true rfl), (Nat.le_of_ble_eq_true rfl)⟩
                      · refine WPe_sipush (pc := 208) (10004 : Int32) (dd dtX3_wordAt 99 rfl) (by decide) ?_
                        refine WPe_goto (pc := 211) 234 (dd dtX3_wordAt 100 rfl) (by decide) ?_
                        exact WPe_ireturn (pc := 234) (dd dtX3_wordAt 110 rfl) rfl rfl ⟨(Nat.le_of_ble_eq_true rfl), (Nat.le_of_ble_eq_true rfl)⟩
                    · refine WPe_sipush (pc := 191) (10003 : Int32) (dd dtX3_wordAt 91 rfl) (by decide) ?_
                      refine WPe_goto (pc := 194) 234 (dd dtX3_wordAt 92 rfl) (by decide) ?_
                      exact WPe_ireturn (pc := 234) (dd dtX3_wordAt 110 rfl) rfl rfl ⟨(Nat.le_of_ble_eq_true rfl), (Nat.le_of_ble_eq_true rfl)⟩
                  · refine WPe_sipush (pc := 174) (10002 : Int32) (dd dtX3_wordAt 83 rfl) (by decide) ?_
                    refine WPe_goto (pc := 177) 234 (dd dtX3_wordAt 84 rfl) (by decide) ?_
                    exact WPe_ireturn (pc := 234) (dd dtX3_wordAt 110 rfl) rfl rfl ⟨(Nat.le_of_ble_eq_true rfl), (Nat.le_of_ble_eq_true rfl)⟩
                · refine WPe_sipush (pc := 157) (10001 : Int32) (dd dtX3_wordAt 75 rfl) (by decide) ?_
                  refine WPe_goto (pc := 160) 234 (dd dtX3_wordAt 76 rfl) (by decide) ?_
                  exact WPe_ireturn (pc := 234) (dd dtX3_wordAt 110 rfl) rfl rfl ⟨(Nat.le_of_ble_eq_true rfl), (Nat.le_of_ble_eq_true rfl)⟩
              · refine WPe_sipush (pc := 140) (10000 : Int32) (dd dtX3_wordAt 67 rfl) (by decide) ?_
                refine WPe_goto (pc := 143) 234 (dd dtX3_wordAt 68 rfl) (by decide) ?_
                exact WPe_ireturn (pc := 234) (dd dtX3_wordAt 110 rfl) rfl rfl ⟨(Nat.le_of_ble_eq_true rfl), (Nat.le_of_ble_eq_true rfl)⟩
            · refine WPe_sipush (pc := 123) (10012 : Int32) (dd dtX3_wordAt 59 rfl) (by decide) ?_
              refine WPe_goto (pc := 126) 234 (dd dtX3_wordAt 60 rfl) (by decide) ?_
              exact WPe_ireturn (pc := 234) (dd dtX3_wordAt 110 rfl) rfl rfl ⟨(Nat.le_of_ble_eq_true rfl), (Nat.le_of_ble_eq_true rfl)⟩
          · refine WPe_sipush (pc := 106) (10011 : Int32) (dd dtX3_wordAt 51 rfl) (by decide) ?_
            refine WPe_goto (pc := 109) 234 (dd dtX3_wordAt 52 rfl) (by decide) ?_
            exact WPe_ireturn (pc := 234) (dd dtX3_wordAt 110 rfl) rfl rfl ⟨(Nat.le_of_ble_eq_true rfl), (Nat.le_of_ble_eq_true rfl)⟩
        · refine WPe_sipush (pc := 89) (10010 : Int32) (dd dtX3_wordAt 43 rfl) (by decide) ?_
          refine WPe_goto (pc := 92) 234 (dd dtX3_wordAt 44 rfl) (by decide) ?_
          exact WPe_ireturn (pc := 234) (dd dtX3_wordAt 110 rfl) rfl rfl ⟨(Nat.le_of_ble_eq_true rfl), (Nat.le_of_ble_eq_true rfl)⟩
      · refine WPe_sipush (pc := 72) (10032 : Int32) (dd dtX3_wordAt 35 rfl) (by decide) ?_
        refine WPe_goto (pc := 75) 234 (dd dtX3_wordAt 36 rfl) (by decide) ?_
        exact WPe_ireturn (pc := 234) (dd dtX3_wordAt 110 rfl) rfl rfl ⟨(Nat.le_of_ble_eq_true rfl), (Nat.le_of_ble_eq_true rfl)⟩
    · refine WPe_sipush (pc := 55) (10031 : Int32) (dd dtX3_wordAt 27 rfl) (by decide) ?_
      refine WPe_goto (pc := 58) 234 (dd dtX3_wordAt 28 rfl) (by decide) ?_
      exact WPe_ireturn (pc := 234) (dd dtX3_wordAt 110 rfl) rfl rfl ⟨(Nat.le_of_ble_eq_true rfl), (Nat.le_of_ble_eq_true rfl)⟩
  · refine WPe_sipush (pc := 38) (10030 : Int32) (dd dtX3_wordAt 19 rfl) (by decide) ?_
    refine WPe_goto (pc := 41) 234 (dd dtX3_wordAt 20 rfl) (by decide) ?_
    exact WPe_ireturn (pc := 234) (dd dtX3_wordAt 110 rfl) rfl rfl ⟨(Nat.le_of_ble_eq_true rfl), (Nat.le_of_ble_eq_true rfl)⟩
noncomputable def b3_wordAt_2 (k2 : Nat × Int32 × Int32 → Wd → Option (Int32 × Wd)) (v : Nat × Int32 × Int32) (w : Wd) : Option (Int32 × Wd) :=
  ck (tg w v.1 = 3) (if (wi w v.1 1) ≤ v.2.2 then (j3_wordAt_27 v.1 v.2.1 v.2.2 w) else ((f3_byteAt v.1 v.2.2 w).bind fun z52 => ((f3_isLetter z52.1 z52.2).bind fun z55 => (if z55.1 = (0 : Int32) then (j3_wordAt_27 v.1 v.2.1 v.2.2 z55.2) else (k2 (v.1, v.2.1, (v.2.2 + (1 : Int32))) z55.2)))))
theorem wpb3_wordAt_2 (X : CX) (w0 : Wd) (k2 : Nat × Int32 × Int32 → Wd → Option (Int32 × Wd)) (hk2 : ∀ (v : Nat × Int32 × Int32) (w : Wd), WPe rtI X (mX3_wordAt, 6, 0, 0, w0) 0 0 (k2 v w) 2 [(0, vR v.1), (1, vI v.2.1), (2, vI v.2.2)] [] w) (v : Nat × Int32 × Int32) (w : Wd) : WPe rtI X (mX3_wordAt, 6, 0, 0, w0) 0 0 (b3_wordAt_2 k2 v w) 2 [(0, vR v.1), (1, vI v.2.1), (2, vI v.2.2)] [] w := by
  unfold b3_wordAt_2
  refine WPe_iload_n (pc := 2) 2 (dd dtX3_wordAt 2 rfl) rfl ?_
  refine WPe_aload_n (pc := 3) 0 (dd dtX3_wordAt 3 rfl) rfl ?_
  refine WPe_ck fun h1 => ?_
  refine WPe_getI (pc := 4) (t := 3) (C := RX3) (T := TX3) 1 (dd dtX3_wordAt 4 rfl) (shE h1) rfl (Nat.le_of_ble_eq_true rfl) rfl (bw_mem1 31 rfl rfl) ?_
  refine WPe_icmp_ge (pc := 7) 27 (dd dtX3_wordAt 5 rfl) (by decide) (fun h2 => ?_) (fun h2 => ?_)
  · refine WPe_sub [0, 1, 2] rfl ?_
    exact wpj3_wordAt_27 X w0  v.1 v.2.1 v.2.2 w
  · refine WPe_aload_n (pc := 10) 0 (dd dtX3_wordAt 6 rfl) rfl ?_
    refine WPe_iload_n (pc := 11) 2 (dd dtX3_wordAt 7 rfl) rfl ?_
    refine WPe_callV (pc := 12) (rtc := rtI) (Mc := mX3_byteAt) (d' := 1) (mc' := 0) (ms' := 0) [vI v.2.2] [] rfl (dd dtX3_wordAt 8 rfl) (okf3_byteAt v.1 v.2.2 w) moX3_byteAt miX3_byteAt (bw_mem1 135 rfl rfl) (Or.inl ⟨_, _, _, _, (shE h1), rfl⟩) rfl (Nat.le_of_ble_eq_true rfl) ⟨(Nat.le_of_ble_eq_true rfl), (Nat.le_of_ble_eq_true rfl)⟩ ⟨(Nat.le_of_ble_eq_true rfl), (Nat.le_of_ble_eq_true rfl)⟩ (fun z52 h53 e54 => ?_)
    refine WPe_st (st2 := [vI z52.1]) rfl ?_
    refine WPe_callS (pc := 15) (rtc := rtI) (Mc := mX3_isLetter) (d' := 1) (mc' := 0) (ms' := 0) [vI z52.1] [] rfl (dd dtX3_wordAt 9 rfl) (okf3_isLetter z52.1 z52.2) moX3_isLetter msX3_isLetter (bw_mem1 139 rfl rfl) rfl (Nat.le_of_ble_eq_true rfl) ⟨(Nat.le_of_ble_eq_true rfl), (Nat.le_of_ble_eq_true rfl)⟩ ⟨(Nat.le_of_ble_eq_true rfl), (Nat.le_of_ble_eq_true rfl)⟩ (fun z55 h56 e57 => ?_)
    refine WPe_st (st2 := [vI z55.1]) rfl ?_
    refine WPe_if_eq (pc := 18) 27 (dd dtX3_wordAt 10 rfl) (by decide) (fun h58 => ?_) (fun h58 => ?_)
    · refine WPe_sub [0, 1, 2] rfl ?_
      exact wpj3_wordAt_27 X w0  v.1 v.2.1 v.2.2 z55.2
    · refine WPe_iinc (pc := 21) (ls' := [(2, vI (v.2.2 + (1 : Int32))), (0, vR v.1), (1, vI v.2.1)]) 2 (v.2.2 + (1 : Int32)) (dd dtX3_wordAt 11 rfl) rfl (congrArg (HAdd.hAdd _) (by decide : Int32.ofInt (1) = (1 : Int32))) (Nat.le_of_ble_eq_true rfl) rfl ?_
      refine WPe_goto (pc := 24) 2 (dd dtX3_wordAt 12 rfl) (by decide) ?_
      refine WPe_sub [1, 2, 0] rfl ?_
      exact hk2 (v.1, v.2.1, (v.2.2 + (1 : Int32))) z55.2
theorem wplb3_wordAt_2 (X : CX) (w0 : Wd)  : ∀ (n9 : Nat) (v : Nat × Int32 × Int32) (w : Wd), WPe rtI X (mX3_wordAt, 6, 0, 0, w0) 0 0 (loopF (b3_wordAt_2 ) n9 v w) 2 [(0, vR v.1), (1, vI v.2.1), (2, vI v.2.2)] [] w :=
  WPe_loop (rt := rtI) (X := X) (M := (mX3_wordAt, 6, 0, 0, w0)) (fun v : Nat × Int32 × Int32 => [(0, vR v.1), (1, vI v.2.1), (2, vI v.2.2)]) (fun k hk v w => wpb3_wordAt_2 X w0  k hk v w)
noncomputable def f3_wordAt (x0 : Nat) (x1 : Int32) (w : Wd) : Option (Int32 × Wd) :=
  loopF (b3_wordAt_2) FU (x0, x1, x1) w
theorem wpf3_wordAt (X : CX) (w0 : Wd) (x0 : Nat) (x1 : Int32) (w : Wd) : WPe rtI X (mX3_wordAt, 6, 0, 0, w0) 0 0 (f3_wordAt x0 x1 w) 0 [(0, vR x0), (1, vI x1)] [] w := by
  unfold f3_wordAt
  refine WPe_iload_n (pc := 0) 1 (dd dtX3_wordAt 0 rfl) rfl ?_
  refine WPe_istore_n (pc := 1) (ls' := [(2, vI x1), (0, vR x0), (1, vI x1)]) (dd dtX3_wordAt 1 rfl) (Nat.le_of_ble_eq_true rfl) rfl ?_
  refine WPe_sub [1, 2, 0] rfl ?_
  exact wplb3_wordAt_2 X w0  FU _ _
theorem okf3_wordAt (x0 : Nat) (x1 : Int32) (w : Wd) : ∀ z, f3_wordAt x0 x1 w = some z → OkM mX3_wordAt 6 0 0 [vR x0, vI x1] w (rtI z.1) z.2 :=
  OkM.of (rt := rtI) moX3_wordAt (Nat.le_of_ble_eq_true rfl) (fun X => wpf3_wordAt X w x0 x1 w)
def tbX3_numberAt : List (Nat × Instr × Nat) := [(0, .iconst 0, 1), (1, .istore_n 2, 1), (2, .iload_n 1, 1), (3, .istore_n 3, 1), (4, .iload_n 3, 1), (5, .aload_n 0, 1), (6, .getfield 24, 3), (9, .if_icmp .ge 34, 3), (12, .aload_n 0, 1), (13, .iload_n 3, 1), (14, .invokevirtual 86, 3), (17, .invokestatic 92, 3), (20, .ifCond .eq 23, 3), (23, .iload_n 2, 1), (24, .bipush 10, 2), (26, .imul, 1), (27, .aload_n 0, 1), (28, .iload_n 3, 1), (29, .invokevirtual 86, 3), (32, .iadd, 1), (33, .bipush 48, 2), (35, .isub, 1), (36, .istore_n 2, 1), (37, .iinc 3 1, 3), (40, .goto (-36), 3), (43, .iload_n 3, 1), (44, .iload_n 1, 1), (45, .isub, 1), (46, .iconst 4, 1), (47, .if_icmp .le 9, 3), (50, .sipush 10041, 3), (53, .goto 4, 3), (56, .iload_n 2, 1), (57, .ireturn, 1)]
set_option maxRecDepth 20000 in
theorem dtX3_numberAt : ∀ x ∈ tbX3_numberAt, decode cX3_numberAt x.1 = .ok x.2 := by decide +kernel
noncomputable def j3_numberAt_43  (x1 : Int32) (x2 : Int32) (x3 : Int32) (w : Wd) : Option (Int32 × Wd) :=
  if (x3 - x1) ≤ (4 : Int32) then (some (x2, w)) else (some ((10041 : Int32), w))
theorem wpj3_numberAt_43 (X : CX) (w0 : Wd)  (x1 : Int32) (x2 : Int32) (x3 : Int32) (w : Wd) : WPe rtI X (mX3_numberAt, 2, 0, 0, w0) 0 0 (j3_numberAt_43  x1 x2 x3 w) 43 [(1, vI x1), (2, vI x2), (3, vI x3)] [] w := by
  unfold j3_numberAt_43
  refine WPe_iload_n (pc := 43) 2 (dd dtX3_numberAt 25 rfl) rfl ?_
  refine WPe_iload_n (pc := 44) 0 (dd dtX3_numberAt 26 rfl) rfl ?_
  refine WPe_isub (pc := 45) (dd dtX3_numberAt 27 rfl) ?_
  refine WPe_iconst (pc := 46) (4 : Int32) (dd dtX3_numberAt 28 rfl) (by decide) ?_
  refine WPe_icmp_le (pc := 47) 56 (dd dtX3_numberAt 29 rfl) (by decide) (fun h3 => ?_) (fun h3 => ?_)
  · refine WPe_iload_n (pc := 56) 1 (dd dtX3_numberAt 32 rfl) rfl ?_
    exact WPe_ireturn (pc := 57) (dd dtX3_numberAt 33 rfl) rfl rfl ⟨(Nat.le_of_ble_eq_true rfl), (Nat.le_of_ble_eq_true rfl)⟩
  · refine WPe_sipush (pc := 50) (10041 : Int32) (dd dtX3_numberAt 30 rfl) (by decide) ?_
    refine WPe_goto (pc := 53) 57 (dd dtX3_numberAt 31 rfl) (by decide) ?_
    exact WPe_ireturn (pc := 57) (dd dtX3_numberAt 33 rfl) rfl rfl ⟨(Nat.le_of_ble_eq_true rfl), (Nat.le_of_ble_eq_true rfl)⟩
noncomputable def b3_numberAt_4 (k4 : Nat × Int32 × Int32 × Int32 → Wd → Option (Int32 × Wd)) (v : Nat × Int32 × Int32 × Int32) (w : Wd) : Option (Int32 × Wd) :=
  ck (tg w v.1 = 3) (if (wi w v.1 1) ≤ v.2.2.2 then (j3_numberAt_43 v.2.1 v.2.2.1 v.2.2.2 w) else ((f3_byteAt v.1 v.2.2.2 w).bind fun z4 => ((f3_isDigit z4.1 z4.2).bind fun z7 => (if z7.1 = (0 : Int32) then (j3_numberAt_43 v.2.1 v.2.2.1 v.2.2.2 z7.2) else ((f3_byteAt v.1 v.2.2.2 z7.2).bind fun z11 => (k4 (v.1, v.2.1, (((v.2.2.1 * (10 : Int32)) + z11.1) - (48 : Int32)), (v.2.2.2 + (1 : Int32))) z11.2))))))
theorem wpb3_numberAt_4 (X : CX) (w0 : Wd) (k4 : Nat × Int32 × Int32 × Int32 → Wd → Option (Int32 × Wd)) (hk4 : ∀ (v : Nat × Int32 × Int32 × Int32) (w : Wd), WPe rtI X (mX3_numberAt, 2, 0, 0, w0) 0 0 (k4 v w) 4 [(0, vR v.1), (1, vI v.2.1), (2, vI v.2.2.1), (3, vI v.2.2.2)] [] w) (v : Nat × Int32 × Int32 × Int32) (w : Wd) : WPe rtI X (mX3_numberAt, 2, 0, 0, w0) 0 0 (b3_numberAt_4 k4 v w) 4 [(0, vR v.1), (1, vI v.2.1), (2, vI v.2.2.1), (3, vI v.2.2.2)] [] w := by
  unfold b3_numberAt_4
  refine WPe_iload_n (pc := 4) 3 (dd dtX3_numberAt 4 rfl) rfl ?_
  refine WPe_aload_n (pc := 5) 0 (dd dtX3_numberAt 5 rfl) rfl ?_
  refine WPe_ck fun h1 => ?_
  refine WPe_getI (pc := 6) (t := 3) (C := RX3) (T := TX3) 1 (dd dtX3_numberAt 6 rfl) (shE h1) rfl (Nat.le_of_ble_eq_true rfl) rfl (bw_mem1 31 rfl rfl) ?_
  refine WPe_icmp_ge (pc := 9) 43 (dd dtX3_numberAt 7 rfl) (by decide) (fun h2 => ?_) (fun h2 => ?_)
  · refine WPe_sub [1, 2, 3] rfl ?_
    exact wpj3_numberAt_43 X w0  v.2.1 v.2.2.1 v.2.2.2 w
  · refine WPe_aload_n (pc := 12) 0 (dd dtX3_numberAt 8 rfl) rfl ?_
    refine WPe_iload_n (pc := 13) 3 (dd dtX3_numberAt 9 rfl) rfl ?_
    refine WPe_callV (pc := 14) (rtc := rtI) (Mc := mX3_byteAt) (d' := 1) (mc' := 0) (ms' := 0) [vI v.2.2.2] [] rfl (dd dtX3_numberAt 10 rfl) (okf3_byteAt v.1 v.2.2.2 w) moX3_byteAt miX3_byteAt (bw_mem1 135 rfl rfl) (Or.inl ⟨_, _, _, _, (shE h1), rfl⟩) rfl (Nat.le_of_ble_eq_true rfl) ⟨(Nat.le_of_ble_eq_true rfl), (Nat.le_of_ble_eq_true rfl)⟩ ⟨(Nat.le_of_ble_eq_true rfl), (Nat.le_of_ble_eq_true rfl)⟩ (fun z4 h5 e6 => ?_)
    refine WPe_st (st2 := [vI z4.1]) rfl ?_
    refine WPe_callS (pc := 17) (rtc := rtI) (Mc := mX3_isDigit) (d' := 1) (mc' := 0) (ms' := 0) [vI z4.1] [] rfl (dd dtX3_numberAt 11 rfl) (okf3_isDigit z4.1 z4.2) moX3_isDigit msX3_isDigit (bw_mem1 142 rfl rfl) rfl (Nat.le_of_ble_eq_true rfl) ⟨(Nat.le_of_ble_eq_true rfl), (Nat.le_of_ble_eq_true rfl)⟩ ⟨(Nat.le_of_ble_eq_true rfl), (Nat.le_of_ble_eq_true rfl)⟩ (fun z7 h8 e9 => ?_)
    refine WPe_st (st2 := [vI z7.1]) rfl ?_
    refine WPe_if_eq (pc := 20) 43 (dd dtX3_numberAt 12 rfl) (by decide) (fun h10 => ?_) (fun h10 => ?_)
    · refine WPe_sub [1, 2, 3] rfl ?_
      exact wpj3_numberAt_43 X w0  v.2.1 v.2.2.1 v.2.2.2 z7.2
    · refine WPe_iload_n (pc := 23) 2 (dd dtX3_numberAt 13 rfl) rfl ?_
      refine WPe_bipush (pc := 24) (10 : Int32) (dd dtX3_numberAt 14 rfl) (by decide) ?_
      refine WPe_imul (pc := 26) (dd dtX3_numberAt 15 rfl) ?_
      refine WPe_aload_n (pc := 27) 0 (dd dtX3_numberAt 16 rfl) rfl ?_
      refine WPe_iload_n (pc := 28) 3 (dd dtX3_numberAt 17 rfl) rfl ?_
      refine WPe_callV (pc := 29) (rtc := rtI) (Mc := mX3_byteAt) (d' := 1) (mc' := 0) (ms' := 0) [vI v.2.2.2] [vI (v.2.2.1 * (10 : Int32))] rfl (dd dtX3_numberAt 18 rfl) (okf3_byteAt v.1 v.2.2.2 z7.2) moX3_byteAt miX3_byteAt (bw_mem1 135 rfl rfl) (Or.inl ⟨_, _, _, _, (e9.at (e6.at (shE h1) (by decide)) (by decide)), rfl⟩) rfl (Nat.le_of_ble_eq_true rfl) ⟨(Nat.le_of_ble_eq_true rfl), (Nat.le_of_ble_eq_true rfl)⟩ ⟨(Nat.le_of_ble_eq_true rfl), (Nat.le_of_ble_eq_true rfl)⟩ (fun z11 h12 e13 => ?_)
      refine WPe_st (st2 := [vI z11.1, vI (v.2.2.1 * (10 : Int32))]) rfl ?_
      refine WPe_iadd (pc := 32) (dd dtX3_numberAt 19 rfl) ?_
      refine WPe_bipush (pc := 33) (48 : Int32) (dd dtX3_numberAt 20 rfl) (by decide) ?_
      refine WPe_isub (pc := 35) (dd dtX3_numberAt 21 rfl) ?_
      refine WPe_istore_n (pc := 36) (ls' := [(2, vI (((v.2.2.1 * (10 : Int32)) + z11.1) - (48 : Int32))), (0, vR v.1), (1, vI v.2.1), (3, vI v.2.2.2)]) (dd dtX3_numberAt 22 rfl) (Nat.le_of_ble_eq_true rfl) rfl ?_
      refine WPe_iinc (pc := 37) (ls' := [(3, vI (v.2.2.2 + (1 : Int32))), (2, vI (((v.2.2.1 * (10 : Int32)) + z11.1) - (48 : Int32))), (0, vR v.1), (1, vI v.2.1)]) 3 (v.2.2.2 + (1 : Int32)) (dd dtX3_numberAt 23 rfl) rfl (congrArg (HAdd.hAdd _) (by decide : Int32.ofInt (1) = (1 : Int32))) (Nat.le_of_ble_eq_true rfl) rfl ?_
      refine WPe_goto (pc := 40) 4 (dd dtX3_numberAt 24 rfl) (by decide) ?_
      refine WPe_sub [2, 3, 1, 0] rfl ?_
      exact hk4 (v.1, v.2.1, (((v.2.2.1 * (10 : Int32)) + z11.1) - (48 : Int32)), (v.2.2.2 + (1 : Int32))) z11.2
theorem wplb3_numberAt_4 (X : CX) (w0 : Wd)  : ∀ (n9 : Nat) (v : Nat × Int32 × Int32 × Int32) (w : Wd), WPe rtI X (mX3_numberAt, 2, 0, 0, w0) 0 0 (loopF (b3_numberAt_4 ) n9 v w) 4 [(0, vR v.1), (1, vI v.2.1), (2, vI v.2.2.1), (3, vI v.2.2.2)] [] w :=
  WPe_loop (rt := rtI) (X := X) (M := (mX3_numberAt, 2, 0, 0, w0)) (fun v : Nat × Int32 × Int32 × Int32 => [(0, vR v.1), (1, vI v.2.1), (2, vI v.2.2.1), (3, vI v.2.2.2)]) (fun k hk v w => wpb3_numberAt_4 X w0  k hk v w)
noncomputable def f3_numberAt (x0 : Nat) (x1 : Int32) (w : Wd) : Option (Int32 × Wd) :=
  loopF (b3_numberAt_4) FU (x0, x1, (0 : Int32), x1) w
theorem wpf3_numberAt (X : CX) (w0 : Wd) (x0 : Nat) (x1 : Int32) (w : Wd) : WPe rtI X (mX3_numberAt, 2, 0, 0, w0) 0 0 (f3_numberAt x0 x1 w) 0 [(0, vR x0), (1, vI x1)] [] w := by
  unfold f3_numberAt
  refine WPe_iconst (pc := 0) (0 : Int32) (dd dtX3_numberAt 0 rfl) (by decide) ?_
  refine WPe_istore_n (pc := 1) (ls' := [(2, vI (0 : Int32)), (0, vR x0), (1, vI x1)]) (dd dtX3_numberAt 1 rfl) (Nat.le_of_ble_eq_true rfl) rfl ?_
  refine WPe_iload_n (pc := 2) 2 (dd dtX3_numberAt 2 rfl) rfl ?_
  refine WPe_istore_n (pc := 3) (ls' := [(3, vI x1), (2, vI (0 : Int32)), (0, vR x0), (1, vI x1)]) (dd dtX3_numberAt 3 rfl) (Nat.le_of_ble_eq_true rfl) rfl ?_
  refine WPe_sub [2, 3, 1, 0] rfl ?_
  exact wplb3_numberAt_4 X w0  FU _ _
theorem okf3_numberAt (x0 : Nat) (x1 : Int32) (w : Wd) : ∀ z, f3_numberAt x0 x1 w = some z → OkM mX3_numberAt 2 0 0 [vR x0, vI x1] w (rtI z.1) z.2 :=
  OkM.of (rt := rtI) moX3_numberAt (Nat.le_of_ble_eq_true rfl) (fun X => wpf3_numberAt X w x0 x1 w)
def tbX3_signOf : List (Nat × Instr × Nat) := [(0, .iload_n 0, 1), (1, .tableswitch 135 40 61 #[103, 107, 123, 115, 135, 119, 135, 135, 135, 135, 135, 135, 135, 135, 135, 135, 135, 135, 135, 111, 127, 131], 103), (104, .sipush 10020, 3), (107, .ireturn, 1), (108, .sipush 10021, 3), (111, .ireturn, 1), (112, .sipush 10022, 3), (115, .ireturn, 1), (116, .sipush 10016, 3), (119, .ireturn, 1), (120, .sipush 10017, 3), (123, .ireturn, 1), (124, .sipush 10018, 3), (127, .ireturn, 1), (128, .sipush 10014, 3), (131, .ireturn, 1), (132, .sipush 10015, 3), (135, .ireturn, 1), (136, .sipush 10041, 3), (139, .ireturn, 1)]
set_option maxRecDepth 20000 in
theorem dtX3_signOf : ∀ x ∈ tbX3_signOf, decode cX3_signOf x.1 = .ok x.2 := by decide +kernel
noncomputable def f3_signOf (x0 : Int32) (w : Wd) : Option (Int32 × Wd) :=
  if x0 = (40 : Int32) then (some ((10020 : Int32), w)) else (if x0 = (41 : Int32) then (some ((10021 : Int32), w)) else (if x0 = (42 : Int32) then (some ((10018 : Int32), w)) else (if x0 = (43 : Int32) then (some ((10016 : Int32), w)) else (if x0 = (45 : Int32) then (some ((10017 : Int32), w)) else (if x0 = (59 : Int32) then (some ((10022 : Int32), w)) else (if x0 = (60 : Int32) then (some ((10014 : Int32), w)) else (if x0 = (61 : Int32) then (some ((10015 : Int32), w)) else (some ((10041 : Int32), w)))))))))
theorem wpf3_signOf (X : CX) (w0 : Wd) (x0 : Int32) (w : Wd) : WPe rtI X (mX3_signOf, 1, 0, 0, w0) 0 0 (f3_signOf x0 w) 0 [(0, vI x0)] [] w := by
  unfold f3_signOf
  refine WPe_iload_n (pc := 0) 0 (dd dtX3_signOf 0 rfl) rfl ?_
  refine WPe_ite (fun h1 => ?_) (fun h1 => ?_)
  · refine WPe_tabIn (pc := 1) (40 : Int32) 104 (dd dtX3_signOf 1 rfl) h1 (by decide) (by decide) rfl (by decide) ?_
    refine WPe_sipush (pc := 104) (10020 : Int32) (dd dtX3_signOf 2 rfl) (by decide) ?_
    exact WPe_ireturn (pc := 107) (dd dtX3_signOf 3 rfl) rfl rfl ⟨(Nat.le_of_ble_eq_true rfl), (Nat.le_of_ble_eq_true rfl)⟩
  · refine WPe_ite (fun h2 => ?_) (fun h2 => ?_)
    · refine WPe_tabIn (pc := 1) (41 : Int32) 108 (dd dtX3_signOf 1 rfl) h2 (by decide) (by decide) rfl (by decide) ?_
      refine WPe_sipush (pc := 108) (10021 : Int32) (dd dtX3_signOf 4 rfl) (by decide) ?_
      exact WPe_ireturn (pc := 111) (dd dtX3_signOf 5 rfl) rfl rfl ⟨(Nat.le_of_ble_eq_true rfl), (Nat.le_of_ble_eq_true rfl)⟩
    · refine WPe_ite (fun h3 => ?_) (fun h3 => ?_)
      · refine WPe_tabIn (pc := 1) (42 : Int32) 124 (dd dtX3_signOf 1 rfl) h3 (by decide) (by decide) rfl (by decide) ?_
        refine WPe_sipush (pc := 124) (10018 : Int32) (dd dtX3_signOf 12 rfl) (by decide) ?_
        exact WPe_ireturn (pc := 127) (dd dtX3_signOf 13 rfl) rfl rfl ⟨(Nat.le_of_ble_eq_true rfl), (Nat.le_of_ble_eq_true rfl)⟩
      · refine WPe_ite (fun h4 => ?_) (fun h4 => ?_)
        · refine WPe_tabIn (pc := 1) (43 : Int32) 116 (dd dtX3_signOf 1 rfl) h4 (by decide) (by decide) rfl (by decide) ?_
          refine WPe_sipush (pc := 116) (10016 : Int32) (dd dtX3_signOf 8 rfl) (by decide) ?_
          exact WPe_ireturn (pc := 119) (dd dtX3_signOf 9 rfl) rfl rfl ⟨(Nat.le_of_ble_eq_true rfl), (Nat.le_of_ble_eq_true rfl)⟩
        · refine WPe_ite (fun h5 => ?_) (fun h5 => ?_)
          · refine WPe_tabIn (pc := 1) (45 : Int32) 120 (dd dtX3_signOf 1 rfl) h5 (by decide) (by decide) rfl (by decide) ?_
            refine WPe_sipush (pc := 120) (10017 : Int32) (dd dtX3_signOf 10 rfl) (by decide) ?_
            exact WPe_ireturn (pc := 123) (dd dtX3_signOf 11 rfl) rfl rfl ⟨(Nat.le_of_ble_eq_true rfl), (Nat.le_of_ble_eq_true rfl)⟩
          · refine WPe_ite (fun h6 => ?_) (fun h6 => ?_)
            · refine WPe_tabIn (pc := 1) (59 : Int32) 112 (dd dtX3_signOf 1 rfl) h6 (by decide) (by decide) rfl (by decide) ?_
              refine WPe_sipush (pc := 112) (10022 : Int32) (dd dtX3_signOf 6 rfl) (by decide) ?_
              exact WPe_ireturn (pc := 115) (dd dtX3_signOf 7 rfl) rfl rfl ⟨(Nat.le_of_ble_eq_true rfl), (Nat.le_of_ble_eq_true rfl)⟩
            · refine WPe_ite (fun h7 => ?_) (fun h7 => ?_)
              · refine WPe_tabIn (pc := 1) (60 : Int32) 128 (dd dtX3_signOf 1 rfl) h7 (by decide) (by decide) rfl (by decide) ?_
                refine WPe_sipush (pc := 128) (10014 : Int32) (dd dtX3_signOf 14 rfl) (by decide) ?_
                exact WPe_ireturn (pc := 131) (dd dtX3_signOf 15 rfl) rfl rfl ⟨(Nat.le_of_ble_eq_true rfl), (Nat.le_of_ble_eq_true rfl)⟩
              · refine WPe_ite (fun h8 => ?_) (fun h8 => ?_)
                · refine WPe_tabIn (pc := 1) (61 : Int32) 132 (dd dtX3_signOf 1 rfl) h8 (by decide) (by decide) rfl (by decide) ?_
                  refine WPe_sipush (pc := 132) (10015 : Int32) (dd dtX3_signOf 16 rfl) (by decide) ?_
                  exact WPe_ireturn (pc := 135) (dd dtX3_signOf 17 rfl) rfl rfl ⟨(Nat.le_of_ble_eq_true rfl), (Nat.le_of_ble_eq_true rfl)⟩
                · refine WPe_tabOut (pc := 1) 136 (dd dtX3_signOf 1 rfl) (fun j hj => ?_) (by decide) ?_
                  · match j, hj with
                    | 0, _ => exact Or.inr (tneq h1 (by decide))
                    | 1, _ => exact Or.inr (tneq h2 (by decide))
                    | 2, _ => exact Or.inr (tneq h3 (by decide))
                    | 3, _ => exact Or.inr (tneq h4 (by decide))
                    | 4, _ => exact Or.inl rfl
                    | 5, _ => exact Or.inr (tneq h5 (by decide))
                    | 6, _ => exact Or.inl rfl
                    | 7, _ => exact Or.inl rfl
                    | 8, _ => exact Or.inl rfl
                    | 9, _ => exact Or.inl rfl
                    | 10, _ => exact Or.inl rfl
                    | 11, _ => exact Or.inl rfl
                    | 12, _ => exact Or.inl rfl
                    | 13, _ => exact Or.inl rfl
                    | 14, _ => exact Or.inl rfl
                    | 15, _ => exact Or.inl rfl
                    | 16, _ => exact Or.inl rfl
                    | 17, _ => exact Or.inl rfl
                    | 18, _ => exact Or.inl rfl
                    | 19, _ => exact Or.inr (tneq h6 (by decide))
                    | 20, _ => exact Or.inr (tneq h7 (by decide))
                    | 21, _ => exact Or.inr (tneq h8 (by decide))
                    | j + 22, h => exact absurd h (by omega)
                  refine WPe_sipush (pc := 136) (10041 : Int32) (dd dtX3_signOf 18 rfl) (by decide) ?_
                  exact WPe_ireturn (pc := 139) (dd dtX3_signOf 19 rfl) rfl rfl ⟨(Nat.le_of_ble_eq_true rfl), (Nat.le_of_ble_eq_true rfl)⟩
theorem okf3_signOf (x0 : Int32) (w : Wd) : ∀ z, f3_signOf x0 w = some z → OkM mX3_signOf 1 0 0 [vI x0] w (rtI z.1) z.2 :=
  OkM.of (rt := rtI) moX3_signOf (Nat.le_of_ble_eq_true rfl) (fun X => wpf3_signOf X w x0 w)
def tbX3_tokenAt : List (Nat × Instr × Nat) := [(0, .aload_n 0, 1), (1, .iload_n 1, 1), (2, .invokevirtual 86, 3), (5, .istore_n 2, 1), (6, .iload_n 2, 1), (7, .invokestatic 89, 3), (10, .ifCond .eq 11, 3), (13, .aload_n 0, 1), (14, .iload_n 1, 1), (15, .invokevirtual 95, 3), (18, .goto 22, 3), (21, .iload_n 2, 1), (22, .invokestatic 92, 3), (25, .ifCond .eq 11, 3), (28, .aload_n 0, 1), (29, .iload_n 1, 1), (30, .invokevirtual 98, 3), (33, .goto 7, 3), (36, .iload_n 2, 1), (37, .invokestatic 101, 3), (40, .ireturn, 1)]
set_option maxRecDepth 20000 in
theorem dtX3_tokenAt : ∀ x ∈ tbX3_tokenAt, decode cX3_tokenAt x.1 = .ok x.2 := by decide +kernel
noncomputable def f3_tokenAt (x0 : Nat) (x1 : Int32) (w : Wd) : Option (Int32 × Wd) :=
  ck (tg w x0 = 3) ((f3_byteAt x0 x1 w).bind fun z2 => ((f3_isLetter z2.1 z2.2).bind fun z5 => (if z5.1 = (0 : Int32) then ((f3_isDigit z2.1 z5.2).bind fun z9 => (if z9.1 = (0 : Int32) then ((f3_signOf z2.1 z9.2).bind fun z13 => (some (z13.1, z13.2))) else ((f3_numberAt x0 x1 z9.2).bind fun z16 => (some (z16.1, z16.2))))) else ((f3_wordAt x0 x1 z5.2).bind fun z19 => (some (z19.1, z19.2))))))
theorem wpf3_tokenAt (X : CX) (w0 : Wd) (x0 : Nat) (x1 : Int32) (w : Wd) : WPe rtI X (mX3_tokenAt, 7, 0, 0, w0) 0 0 (f3_tokenAt x0 x1 w) 0 [(0, vR x0), (1, vI x1)] [] w := by
  unfold f3_tokenAt
  refine WPe_aload_n (pc := 0) 0 (dd dtX3_tokenAt 0 rfl) rfl ?_
  refine WPe_iload_n (pc := 1) 1 (dd dtX3_tokenAt 1 rfl) rfl ?_
  refine WPe_ck fun h1 => ?_
  refine WPe_callV (pc := 2) (rtc := rtI) (Mc := mX3_byteAt) (d' := 1) (mc' := 0) (ms' := 0) [vI x1] [] rfl (dd dtX3_tokenAt 2 rfl) (okf3_byteAt x0 x1 w) moX3_byteAt miX3_byteAt (bw_mem1 135 rfl rfl) (Or.inl ⟨_, _, _, _, (shE h1), rfl⟩) rfl (Nat.le_of_ble_eq_true rfl) ⟨(Nat.le_of_ble_eq_true rfl), (Nat.le_of_ble_eq_true rfl)⟩ ⟨(Nat.le_of_ble_eq_true rfl), (Nat.le_of_ble_eq_true rfl)⟩ (fun z2 h3 e4 => ?_)
  refine WPe_st (st2 := [vI z2.1]) rfl ?_
  refine WPe_istore_n (pc := 5) (ls' := [(2, vI z2.1), (0, vR x0), (1, vI x1)]) (dd dtX3_tokenAt 3 rfl) (Nat.le_of_ble_eq_true rfl) rfl ?_
  refine WPe_iload_n (pc := 6) 0 (dd dtX3_tokenAt 4 rfl) rfl ?_
  refine WPe_callS (pc := 7) (rtc := rtI) (Mc := mX3_isLetter) (d' := 1) (mc' := 0) (ms' := 0) [vI z2.1] [] rfl (dd dtX3_tokenAt 5 rfl) (okf3_isLetter z2.1 z2.2) moX3_isLetter msX3_isLetter (bw_mem1 139 rfl rfl) rfl (Nat.le_of_ble_eq_true rfl) ⟨(Nat.le_of_ble_eq_true rfl), (Nat.le_of_ble_eq_true rfl)⟩ ⟨(Nat.le_of_ble_eq_true rfl), (Nat.le_of_ble_eq_true rfl)⟩ (fun z5 h6 e7 => ?_)
  refine WPe_st (st2 := [vI z5.1]) rfl ?_
  refine WPe_if_eq (pc := 10) 21 (dd dtX3_tokenAt 6 rfl) (by decide) (fun h8 => ?_) (fun h8 => ?_)
  · refine WPe_iload_n (pc := 21) 0 (dd dtX3_tokenAt 11 rfl) rfl ?_
    refine WPe_callS (pc := 22) (rtc := rtI) (Mc := mX3_isDigit) (d' := 1) (mc' := 0) (ms' := 0) [vI z2.1] [] rfl (dd dtX3_tokenAt 12 rfl) (okf3_isDigit z2.1 z5.2) moX3_isDigit msX3_isDigit (bw_mem1 142 rfl rfl) rfl (Nat.le_of_ble_eq_true rfl) ⟨(Nat.le_of_ble_eq_true rfl), (Nat.le_of_ble_eq_true rfl)⟩ ⟨(Nat.le_of_ble_eq_true rfl), (Nat.le_of_ble_eq_true rfl)⟩ (fun z9 h10 e11 => ?_)
    refine WPe_st (st2 := [vI z9.1]) rfl ?_
    refine WPe_if_eq (pc := 25) 36 (dd dtX3_tokenAt 13 rfl) (by decide) (fun h12 => ?_) (fun h12 => ?_)
    · refine WPe_iload_n (pc := 36) 0 (dd dtX3_tokenAt 18 rfl) rfl ?_
      refine WPe_callS (pc := 37) (rtc := rtI) (Mc := mX3_signOf) (d' := 1) (mc' := 0) (ms' := 0) [vI z2.1] [] rfl (dd dtX3_tokenAt 19 rfl) (okf3_signOf z2.1 z9.2) moX3_signOf msX3_signOf (bw_mem1 173 rfl rfl) rfl (Nat.le_of_ble_eq_true rfl) ⟨(Nat.le_of_ble_eq_true rfl), (Nat.le_of_ble_eq_true rfl)⟩ ⟨(Nat.le_of_ble_eq_true rfl), (Nat.le_of_ble_eq_true rfl)⟩ (fun z13 h14 e15 => ?_)
      refine WPe_st (st2 := [vI z13.1]) rfl ?_
      exact WPe_ireturn (pc := 40) (dd dtX3_tokenAt 20 rfl) rfl rfl ⟨(Nat.le_of_ble_eq_true rfl), (Nat.le_of_ble_eq_true rfl)⟩
    · refine WPe_aload_n (pc := 28) 1 (dd dtX3_tokenAt 14 rfl) rfl ?_
      refine WPe_iload_n (pc := 29) 2 (dd dtX3_tokenAt 15 rfl) rfl ?_
      refine WPe_callV (pc := 30) (rtc := rtI) (Mc := mX3_numberAt) (d' := 2) (mc' := 0) (ms' := 0) [vI x1] [] rfl (dd dtX3_tokenAt 16 rfl) (okf3_numberAt x0 x1 z9.2) moX3_numberAt miX3_numberAt (bw_mem1 169 rfl rfl) (Or.inl ⟨_, _, _, _, (e11.at (e7.at (e4.at (shE h1) (by decide)) (by decide)) (by decide)), rfl⟩) rfl (Nat.le_of_ble_eq_true rfl) ⟨(Nat.le_of_ble_eq_true rfl), (Nat.le_of_ble_eq_true rfl)⟩ ⟨(Nat.le_of_ble_eq_true rfl), (Nat.le_of_ble_eq_true rfl)⟩ (fun z16 h17 e18 => ?_)
      refine WPe_st (st2 := [vI z16.1]) rfl ?_
      refine WPe_goto (pc := 33) 40 (dd dtX3_tokenAt 17 rfl) (by decide) ?_
      exact WPe_ireturn (pc := 40) (dd dtX3_tokenAt 20 rfl) rfl rfl ⟨(Nat.le_of_ble_eq_true rfl), (Nat.le_of_ble_eq_true rfl)⟩
  · refine WPe_aload_n (pc := 13) 1 (dd dtX3_tokenAt 7 rfl) rfl ?_
    refine WPe_iload_n (pc := 14) 2 (dd dtX3_tokenAt 8 rfl) rfl ?_
    refine WPe_callV (pc := 15) (rtc := rtI) (Mc := mX3_wordAt) (d' := 6) (mc' := 0) (ms' := 0) [vI x1] [] rfl (dd dtX3_tokenAt 9 rfl) (okf3_wordAt x0 x1 z5.2) moX3_wordAt miX3_wordAt (bw_mem1 149 rfl rfl) (Or.inl ⟨_, _, _, _, (e7.at (e4.at (shE h1) (by decide)) (by decide)), rfl⟩) rfl (Nat.le_of_ble_eq_true rfl) ⟨(Nat.le_of_ble_eq_true rfl), (Nat.le_of_ble_eq_true rfl)⟩ ⟨(Nat.le_of_ble_eq_true rfl), (Nat.le_of_ble_eq_true rfl)⟩ (fun z19 h20 e21 => ?_)
    refine WPe_st (st2 := [vI z19.1]) rfl ?_
    refine WPe_goto (pc := 18) 40 (dd dtX3_tokenAt 10 rfl) (by decide) ?_
    exact WPe_ireturn (pc := 40) (dd dtX3_tokenAt 20 rfl) rfl rfl ⟨(Nat.le_of_ble_eq_true rfl), (Nat.le_of_ble_eq_true rfl)⟩
theorem okf3_tokenAt (x0 : Nat) (x1 : Int32) (w : Wd) : ∀ z, f3_tokenAt x0 x1 w = some z → OkM mX3_tokenAt 7 0 0 [vR x0, vI x1] w (rtI z.1) z.2 :=
  OkM.of (rt := rtI) moX3_tokenAt (Nat.le_of_ble_eq_true rfl) (fun X => wpf3_tokenAt X w x0 x1 w)
def tbX3_scan : List (Nat × Instr × Nat) := [(0, .aload_n 0, 1), (1, .iconst 0, 1), (2, .putfield 59, 3), (5, .iconst 0, 1), (6, .istore_n 1, 1), (7, .iload_n 1, 1), (8, .aload_n 0, 1), (9, .getfield 24, 3), (12, .if_icmp .ge 63, 3), (15, .aload_n 0, 1), (16, .iload_n 1, 1), (17, .invokevirtual 79, 3), (20, .ifCond .eq 49, 3), (23, .aload_n 0, 1), (24, .getfield 59, 3), (27, .aload_n 0, 1), (28, .getfield 15, 3), (31, .arraylength, 1), (32, .if_icmp .ge 37, 3), (35, .aload_n 0, 1), (36, .getfield 15, 3), (39, .aload_n 0, 1), (40, .getfield 59, 3), (43, .aload_n 0, 1), (44, .iload_n 1, 1), (45, .invokevirtual 82, 3), (48, .iastore, 1), (49, .aload_n 0, 1), (50, .getfield 18, 3), (53, .aload_n 0, 1), (54, .getfield 59, 3), (57, .iload_n 1, 1), (58, .iastore, 1), (59, .aload_n 0, 1), (60, .dup, 1), (61, .getfield 59, 3), (64, .iconst 1, 1), (65, .iadd, 1), (66, .putfield 59, 3), (69, .iinc 1 1, 3), (72, .goto (-65), 3), (75, .return_, 1)]
set_option maxRecDepth 20000 in
theorem dtX3_scan : ∀ x ∈ tbX3_scan, decode cX3_scan x.1 = .ok x.2 := by decide +kernel
noncomputable def j3_scan_69 (k7 : Nat × Int32 → Wd → Option (Unit × Wd)) (x0 : Nat) (x1 : Int32) (w : Wd) : Option (Unit × Wd) :=
  k7 (x0, (x1 + (1 : Int32))) w
theorem wpj3_scan_69 (X : CX) (w0 : Wd) (k7 : Nat × Int32 → Wd → Option (Unit × Wd)) (hk7 : ∀ (v : Nat × Int32) (w : Wd), WPe rtV X (mX3_scan, 8, 0, 0, w0) 0 0 (k7 v w) 7 [(0, vR v.1), (1, vI v.2)] [] w) (x0 : Nat) (x1 : Int32) (w : Wd) : WPe rtV X (mX3_scan, 8, 0, 0, w0) 0 0 (j3_scan_69 k7 x0 x1 w) 69 [(0, vR x0), (1, vI x1)] [] w := by
  unfold j3_scan_69
  refine WPe_iinc (pc := 69) (ls' := [(1, vI (x1 + (1 : Int32))), (0, vR x0)]) 1 (x1 + (1 : Int32)) (dd dtX3_scan 39 rfl) rfl (congrArg (HAdd.hAdd _) (by decide : Int32.ofInt (1) = (1 : Int32))) (Nat.le_of_ble_eq_true rfl) rfl ?_
  refine WPe_goto (pc := 72) 7 (dd dtX3_scan 40 rfl) (by decide) ?_
  refine WPe_sub [1, 0] rfl ?_
  exact hk7 (x0, (x1 + (1 : Int32))) w
noncomputable def b3_scan_7 (k7 : Nat × Int32 → Wd → Option (Unit × Wd)) (v : Nat × Int32) (w : Wd) : Option (Unit × Wd) :=
  ck (tg w v.1 = 3) (if (wi w v.1 1) ≤ v.2 then (some ((), w)) else ((f3_beginsToken v.1 v.2 w).bind fun z6 => (if z6.1 = (0 : Int32) then (j3_scan_69 k7 v.1 v.2 z6.2) else (ck (tg z6.2 (wr z6.2 v.1 2) = 20) (if (Int32.ofNat (ln z6.2 (wr z6.2 v.1 2))) ≤ (wi z6.2 v.1 4) then (j3_scan_69 k7 v.1 v.2 z6.2) else ((f3_tokenAt v.1 v.2 z6.2).bind fun z12 => (ck (vp_in (wi z6.2 v.1 4) (ln z12.2 (wr z6.2 v.1 2))) (lw (sI z12.2 (wr z6.2 v.1 2) ((wi z6.2 v.1 4)).toNatClampNeg z12.1) fun w16 => (ck (tg w16 (wr w16 v.1 3) = 20 ∧ vp_in (wi w16 v.1 4) (ln w16 (wr w16 v.1 3))) (lw (sI w16 (wr w16 v.1 3) ((wi w16 v.1 4)).toNatClampNeg v.2) fun w19 => (lw (sI w19 v.1 4 ((wi w19 v.1 4) + (1 : Int32))) fun w21 => (j3_scan_69 k7 v.1 v.2 w21))))))))))))
theorem wpb3_scan_7 (X : CX) (w0 : Wd) (k7 : Nat × Int32 → Wd → Option (Unit × Wd)) (hk7 : ∀ (v : Nat × Int32) (w : Wd), WPe rtV X (mX3_scan, 8, 0, 0, w0) 0 0 (k7 v w) 7 [(0, vR v.1), (1, vI v.2)] [] w) (v : Nat × Int32) (w : Wd) : WPe rtV X (mX3_scan, 8, 0, 0, w0) 0 0 (b3_scan_7 k7 v w) 7 [(0, vR v.1), (1, vI v.2)] [] w := by
  unfold b3_scan_7
  refine WPe_iload_n (pc := 7) 1 (dd dtX3_scan 5 rfl) rfl ?_
  refine WPe_aload_n (pc := 8) 0 (dd dtX3_scan 6 rfl) rfl ?_
  refine WPe_ck fun h4 => ?_
  refine WPe_getI (pc := 9) (t := 3) (C := RX3) (T := TX3) 1 (dd dtX3_scan 7 rfl) (shE h4) rfl (Nat.le_of_ble_eq_true rfl) rfl (bw_mem1 31 rfl rfl) ?_
  refine WPe_icmp_ge (pc := 12) 75 (dd dtX3_scan 8 rfl) (by decide) (fun h5 => ?_) (fun h5 => ?_)
  · exact WPe_return (pc := 75) (dd dtX3_scan 41 rfl) rfl rfl ⟨(Nat.le_of_ble_eq_true rfl), (Nat.le_of_ble_eq_true rfl)⟩
  · refine WPe_aload_n (pc := 15) 0 (dd dtX3_scan 9 rfl) rfl ?_
    refine WPe_iload_n (pc := 16) 1 (dd dtX3_scan 10 rfl) rfl ?_
    refine WPe_callV (pc := 17) (rtc := rtI) (Mc := mX3_beginsToken) (d' := 2) (mc' := 0) (ms' := 0) [vI v.2] [] rfl (dd dtX3_scan 11 rfl) (okf3_beginsToken v.1 v.2 w) moX3_beginsToken miX3_beginsToken (bw_mem1 131 rfl rfl) (Or.inl ⟨_, _, _, _, (shE h4), rfl⟩) rfl (Nat.le_of_ble_eq_true rfl) ⟨(Nat.le_of_ble_eq_true rfl), (Nat.le_of_ble_eq_true rfl)⟩ ⟨(Nat.le_of_ble_eq_true rfl), (Nat.le_of_ble_eq_true rfl)⟩ (fun z6 h7 e8 => ?_)
    refine WPe_st (st2 := [vI z6.1]) rfl ?_
    refine WPe_if_eq (pc := 20) 69 (dd dtX3_scan 12 rfl) (by decide) (fun h9 => ?_) (fun h9 => ?_)
    · refine WPe_sub [0, 1] rfl ?_
      exact wpj3_scan_69 X w0 k7 hk7 v.1 v.2 z6.2
    · refine WPe_aload_n (pc := 23) 0 (dd dtX3_scan 13 rfl) rfl ?_
      refine WPe_getI (pc := 24) (t := 3) (C := RX3) (T := TX3) 4 (dd dtX3_scan 14 rfl) (e8.at (shE h4) (by decide)) rfl (Nat.le_of_ble_eq_true rfl) rfl (bw_mem1 34 rfl rfl) ?_
      refine WPe_aload_n (pc := 27) 0 (dd dtX3_scan 15 rfl) rfl ?_
      refine WPe_getR (pc := 28) (t := 3) (C := RX3) (T := TX3) 2 (dd dtX3_scan 16 rfl) (e8.at (shE h4) (by decide)) rfl (Nat.le_of_ble_eq_true rfl) rfl (bw_mem1 32 rfl rfl) ?_
      refine WPe_ck fun h10 => ?_
      refine WPe_alen (pc := 31) (dd dtX3_scan 17 rfl) (shL (shE h10)) ⟨(Nat.le_of_ble_eq_true rfl), (Nat.le_of_ble_eq_true rfl)⟩ ?_
      refine WPe_icmp_ge (pc := 32) 69 (dd dtX3_scan 18 rfl) (by decide) (fun h11 => ?_) (fun h11 => ?_)
      · refine WPe_sub [0, 1] rfl ?_
        exact wpj3_scan_69 X w0 k7 hk7 v.1 v.2 z6.2
      · refine WPe_aload_n (pc := 35) 0 (dd dtX3_scan 19 rfl) rfl ?_
        refine WPe_getR (pc := 36) (t := 3) (C := RX3) (T := TX3) 2 (dd dtX3_scan 20 rfl) (e8.at (shE h4) (by decide)) rfl (Nat.le_of_ble_eq_true rfl) rfl (bw_mem1 32 rfl rfl) ?_
        refine WPe_aload_n (pc := 39) 0 (dd dtX3_scan 21 rfl) rfl ?_
        refine WPe_getI (pc := 40) (t := 3) (C := RX3) (T := TX3) 4 (dd dtX3_scan 22 rfl) (e8.at (shE h4) (by decide)) rfl (Nat.le_of_ble_eq_true rfl) rfl (bw_mem1 34 rfl rfl) ?_
        refine WPe_aload_n (pc := 43) 0 (dd dtX3_scan 23 rfl) rfl ?_
        refine WPe_iload_n (pc := 44) 1 (dd dtX3_scan 24 rfl) rfl ?_
        refine WPe_callV (pc := 45) (rtc := rtI) (Mc := mX3_tokenAt) (d' := 7) (mc' := 0) (ms' := 0) [vI v.2] [vI (wi z6.2 v.1 4), vR (wr z6.2 v.1 2)] rfl (dd dtX3_scan 25 rfl) (okf3_tokenAt v.1 v.2 z6.2) moX3_tokenAt miX3_tokenAt (bw_mem1 145 rfl rfl) (Or.inl ⟨_, _, _, _, (e8.at (shE h4) (by decide)), rfl⟩) rfl (Nat.le_of_ble_eq_true rfl) ⟨(Nat.le_of_ble_eq_true rfl), (Nat.le_of_ble_eq_true rfl)⟩ ⟨(Nat.le_of_ble_eq_true rfl), (Nat.le_of_ble_eq_true rfl)⟩ (fun z12 h13 e14 => ?_)
        refine WPe_st (st2 := [vI z12.1, vI (wi z6.2 v.1 4), vR (wr z6.2 v.1 2)]) rfl ?_
        refine WPe_ck fun h15 => ?_
        refine WPe_iast (pc := 48) (dd dtX3_scan 26 rfl) (shL (e14.at (shE h10) (by decide))) h15 ?_
        refine WPe_lw fun w16 e17 => ?_
        refine WPe_aload_n (pc := 49) 0 (dd dtX3_scan 27 rfl) rfl ?_
        refine WPe_getR (pc := 50) (t := 3) (C := RX3) (T := TX3) 3 (dd dtX3_scan 28 rfl) (shI e17 (e14.at (e8.at (shE h4) (by decide)) (by decide))) rfl (Nat.le_of_ble_eq_true rfl) rfl (bw_mem1 33 rfl rfl) ?_
        refine WPe_aload_n (pc := 53) 0 (dd dtX3_scan 29 rfl) rfl ?_
        refine WPe_getI (pc := 54) (t := 3) (C := RX3) (T := TX3) 4 (dd dtX3_scan 30 rfl) (shI e17 (e14.at (e8.at (shE h4) (by decide)) (by decide))) rfl (Nat.le_of_ble_eq_true rfl) rfl (bw_mem1 34 rfl rfl) ?_
        refine WPe_iload_n (pc := 57) 1 (dd dtX3_scan 31 rfl) rfl ?_
        refine WPe_ck fun h18 => ?_
        refine WPe_iast (pc := 58) (dd dtX3_scan 32 rfl) (shE h18.1) h18.2 ?_
        refine WPe_lw fun w19 e20 => ?_
        refine WPe_aload_n (pc := 59) 0 (dd dtX3_scan 33 rfl) rfl ?_
        refine WPe_dup (pc := 60) (dd dtX3_scan 34 rfl) rfl ?_
        refine WPe_getI (pc := 61) (t := 3) (C := RX3) (T := TX3) 4 (dd dtX3_scan 35 rfl) (shI e20 (shI e17 (e14.at (e8.at (shE h4) (by decide)) (by decide)))) rfl (Nat.le_of_ble_eq_true rfl) rfl (bw_mem1 34 rfl rfl) ?_
        refine WPe_iconst (pc := 64) (1 : Int32) (dd dtX3_scan 36 rfl) (by decide) ?_
        refine WPe_iadd (pc := 65) (dd dtX3_scan 37 rfl) ?_
        refine WPe_putI (pc := 66) (t := 3) (C := RX3) (T := TX3) 4 (dd dtX3_scan 38 rfl) (shI e20 (shI e17 (e14.at (e8.at (shE h4) (by decide)) (by decide)))) rfl (Nat.le_of_ble_eq_true rfl) (bw_mem1 34 rfl rfl) (Or.inl rfl) rfl rfl rfl ?_
        refine WPe_lw fun w21 e22 => ?_
        refine WPe_sub [0, 1] rfl ?_
        exact wpj3_scan_69 X w0 k7 hk7 v.1 v.2 w21
theorem wplb3_scan_7 (X : CX) (w0 : Wd)  : ∀ (n9 : Nat) (v : Nat × Int32) (w : Wd), WPe rtV X (mX3_scan, 8, 0, 0, w0) 0 0 (loopF (b3_scan_7 ) n9 v w) 7 [(0, vR v.1), (1, vI v.2)] [] w :=
  WPe_loop (rt := rtV) (X := X) (M := (mX3_scan, 8, 0, 0, w0)) (fun v : Nat × Int32 => [(0, vR v.1), (1, vI v.2)]) (fun k hk v w => wpb3_scan_7 X w0  k hk v w)
noncomputable def f3_scan (x0 : Nat) (w : Wd) : Option (Unit × Wd) :=
  ck (tg w x0 = 3) (lw (sI w x0 4 (0 : Int32)) fun w2 => (loopF (b3_scan_7) FU (x0, (0 : Int32)) w2))
theorem wpf3_scan (X : CX) (w0 : Wd) (x0 : Nat) (w : Wd) : WPe rtV X (mX3_scan, 8, 0, 0, w0) 0 0 (f3_scan x0 w) 0 [(0, vR x0)] [] w := by
  unfold f3_scan
  refine WPe_aload_n (pc := 0) 0 (dd dtX3_scan 0 rfl) rfl ?_
  refine WPe_iconst (pc := 1) (0 : Int32) (dd dtX3_scan 1 rfl) (by decide) ?_
  refine WPe_ck fun h1 => ?_
  refine WPe_putI (pc := 2) (t := 3) (C := RX3) (T := TX3) 4 (dd dtX3_scan 2 rfl) (shE h1) rfl (Nat.le_of_ble_eq_true rfl) (bw_mem1 34 rfl rfl) (Or.inl rfl) rfl rfl rfl ?_
  refine WPe_lw fun w2 e3 => ?_
  refine WPe_iconst (pc := 5) (0 : Int32) (dd dtX3_scan 3 rfl) (by decide) ?_
  refine WPe_istore_n (pc := 6) (ls' := [(1, vI (0 : Int32)), (0, vR x0)]) (dd dtX3_scan 4 rfl) (Nat.le_of_ble_eq_true rfl) rfl ?_
  refine WPe_sub [1, 0] rfl ?_
  exact wplb3_scan_7 X w0  FU _ _
theorem okf3_scan (x0 : Nat) (w : Wd) : ∀ z, f3_scan x0 w = some z → OkM mX3_scan 8 0 0 [vR x0] w (rtV z.1) z.2 :=
  OkM.of (rt := rtV) moX3_scan (Nat.le_of_ble_eq_true rfl) (fun X => wpf3_scan X w x0 w)
def tbX3_token : List (Nat × Instr × Nat) := [(0, .aload_n 0, 1), (1, .getfield 49, 3), (4, .aload_n 0, 1), (5, .getfield 59, 3), (8, .if_icmp .ge 27, 3), (11, .aload_n 0, 1), (12, .getfield 49, 3), (15, .aload_n 0, 1), (16, .getfield 15, 3), (19, .arraylength, 1), (20, .if_icmp .ge 15, 3), (23, .aload_n 0, 1), (24, .getfield 15, 3), (27, .aload_n 0, 1), (28, .getfield 49, 3), (31, .iaload, 1), (32, .goto 6, 3), (35, .sipush 10040, 3), (38, .ireturn, 1)]
set_option maxRecDepth 20000 in
theorem dtX3_token : ∀ x ∈ tbX3_token, decode cX3_token x.1 = .ok x.2 := by decide +kernel
noncomputable def f3_token (x0 : Nat) (w : Wd) : Option (Int32 × Wd) :=
  ck (tg w x0 = 3) (if (wi w x0 4) ≤ (wi w x0 5) then (some ((10040 : Int32), w)) else (ck (tg w (wr w x0 2) = 20) (if (Int32.ofNat (ln w (wr w x0 2))) ≤ (wi w x0 5) then (some ((10040 : Int32), w)) else (ck (vp_in (wi w x0 5) (ln w (wr w x0 2))) (some ((wi w (wr w x0 2) ((wi w x0 5)).toNatClampNeg), w))))))
theorem wpf3_token (X : CX) (w0 : Wd) (x0 : Nat) (w : Wd) : WPe rtI X (mX3_token, 1, 0, 0, w0) 0 0 (f3_token x0 w) 0 [(0, vR x0)] [] w := by
  unfold f3_token
  refine WPe_aload_n (pc := 0) 0 (dd dtX3_token 0 rfl) rfl ?_
  refine WPe_ck fun h1 => ?_
  refine WPe_getI (pc := 1) (t := 3) (C := RX3) (T := TX3) 5 (dd dtX3_token 1 rfl) (shE h1) rfl (Nat.le_of_ble_eq_true rfl) rfl (bw_mem1 35 rfl rfl) ?_
  refine WPe_aload_n (pc := 4) 0 (dd dtX3_token 2 rfl) rfl ?_
  refine WPe_getI (pc := 5) (t := 3) (C := RX3) (T := TX3) 4 (dd dtX3_token 3 rfl) (shE h1) rfl (Nat.le_of_ble_eq_true rfl) rfl (bw_mem1 34 rfl rfl) ?_
  refine WPe_icmp_ge (pc := 8) 35 (dd dtX3_token 4 rfl) (by decide) (fun h2 => ?_) (fun h2 => ?_)
  · refine WPe_sipush (pc := 35) (10040 : Int32) (dd dtX3_token 17 rfl) (by decide) ?_
    exact WPe_ireturn (pc := 38) (dd dtX3_token 18 rfl) rfl rfl ⟨(Nat.le_of_ble_eq_true rfl), (Nat.le_of_ble_eq_true rfl)⟩
  · refine WPe_aload_n (pc := 11) 0 (dd dtX3_token 5 rfl) rfl ?_
    refine WPe_getI (pc := 12) (t := 3) (C := RX3) (T := TX3) 5 (dd dtX3_token 6 rfl) (shE h1) rfl (Nat.le_of_ble_eq_true rfl) rfl (bw_mem1 35 rfl rfl) ?_
    refine WPe_aload_n (pc := 15) 0 (dd dtX3_token 7 rfl) rfl ?_
    refine WPe_getR (pc := 16) (t := 3) (C := RX3) (T := TX3) 2 (dd dtX3_token 8 rfl) (shE h1) rfl (Nat.le_of_ble_eq_true rfl) rfl (bw_mem1 32 rfl rfl) ?_
    refine WPe_ck fun h3 => ?_
    refine WPe_alen (pc := 19) (dd dtX3_token 9 rfl) (shL (shE h3)) ⟨(Nat.le_of_ble_eq_true rfl), (Nat.le_of_ble_eq_true rfl)⟩ ?_
    refine WPe_icmp_ge (pc := 20) 35 (dd dtX3_token 10 rfl) (by decide) (fun h4 => ?_) (fun h4 => ?_)
    · refine WPe_sipush (pc := 35) (10040 : Int32) (dd dtX3_token 17 rfl) (by decide) ?_
      exact WPe_ireturn (pc := 38) (dd dtX3_token 18 rfl) rfl rfl ⟨(Nat.le_of_ble_eq_true rfl), (Nat.le_of_ble_eq_true rfl)⟩
    · refine WPe_aload_n (pc := 23) 0 (dd dtX3_token 11 rfl) rfl ?_
      refine WPe_getR (pc := 24) (t := 3) (C := RX3) (T := TX3) 2 (dd dtX3_token 12 rfl) (shE h1) rfl (Nat.le_of_ble_eq_true rfl) rfl (bw_mem1 32 rfl rfl) ?_
      refine WPe_aload_n (pc := 27) 0 (dd dtX3_token 13 rfl) rfl ?_
      refine WPe_getI (pc := 28) (t := 3) (C := RX3) (T := TX3) 5 (dd dtX3_token 14 rfl) (shE h1) rfl (Nat.le_of_ble_eq_true rfl) rfl (bw_mem1 35 rfl rfl) ?_
      refine WPe_ck fun h5 => ?_
      refine WPe_iald (pc := 31) (dd dtX3_token 15 rfl) (shL (shE h3)) h5 ?_
      refine WPe_goto (pc := 32) 38 (dd dtX3_token 16 rfl) (by decide) ?_
      exact WPe_ireturn (pc := 38) (dd dtX3_token 18 rfl) rfl rfl ⟨(Nat.le_of_ble_eq_true rfl), (Nat.le_of_ble_eq_true rfl)⟩
theorem okf3_token (x0 : Nat) (w : Wd) : ∀ z, f3_token x0 w = some z → OkM mX3_token 1 0 0 [vR x0] w (rtI z.1) z.2 :=
  OkM.of (rt := rtI) moX3_token (Nat.le_of_ble_eq_true rfl) (fun X => wpf3_token X w x0 w)
def tbX3_goBehind : List (Nat × Instr × Nat) := [(0, .aload_n 0, 1), (1, .invokevirtual 135, 3), (4, .iload_n 1, 1), (5, .if_icmp .eq 5, 3), (8, .iconst 0, 1), (9, .ireturn, 1), (10, .aload_n 0, 1), (11, .dup, 1), (12, .getfield 49, 3), (15, .iconst 1, 1), (16, .iadd, 1), (17, .putfield 49, 3), (20, .iconst 1, 1), (21, .ireturn, 1)]
set_option maxRecDepth 20000 in
theorem dtX3_goBehind : ∀ x ∈ tbX3_goBehind, decode cX3_goBehind x.1 = .ok x.2 := by decide +kernel
noncomputable def f3_goBehind (x0 : Nat) (x1 : Int32) (w : Wd) : Option (Int32 × Wd) :=
  ck (tg w x0 = 3) ((f3_token x0 w).bind fun z2 => (if z2.1 = x1 then (lw (sI z2.2 x0 5 ((wi z2.2 x0 5) + (1 : Int32))) fun w6 => (some ((1 : Int32), w6))) else (some ((0 : Int32), z2.2))))
theorem wpf3_goBehind (X : CX) (w0 : Wd) (x0 : Nat) (x1 : Int32) (w : Wd) : WPe rtI X (mX3_goBehind, 2, 0, 0, w0) 0 0 (f3_goBehind x0 x1 w) 0 [(0, vR x0), (1, vI x1)] [] w := by
  unfold f3_goBehind
  refine WPe_aload_n (pc := 0) 0 (dd dtX3_goBehind 0 rfl) rfl ?_
  refine WPe_ck fun h1 => ?_
  refine WPe_callV (pc := 1) (rtc := rtI) (Mc := mX3_token) (d' := 1) (mc' := 0) (ms' := 0) [] [] rfl (dd dtX3_goBehind 1 rfl) (okf3_token x0 w) moX3_token miX3_token (bw_mem1 188 rfl rfl) (Or.inl ⟨_, _, _, _, (shE h1), rfl⟩) rfl (Nat.le_of_ble_eq_true rfl) ⟨(Nat.le_of_ble_eq_true rfl), (Nat.le_of_ble_eq_true rfl)⟩ ⟨(Nat.le_of_ble_eq_true rfl), (Nat.le_of_ble_eq_true rfl)⟩ (fun z2 h3 e4 => ?_)
  refine WPe_st (st2 := [vI z2.1]) rfl ?_
  refine WPe_iload_n (pc := 4) 1 (dd dtX3_goBehind 2 rfl) rfl ?_
  refine WPe_icmp_eq (pc := 5) 10 (dd dtX3_goBehind 3 rfl) (by decide) (fun h5 => ?_) (fun h5 => ?_)
  · refine WPe_aload_n (pc := 10) 0 (dd dtX3_goBehind 6 rfl) rfl ?_
    refine WPe_dup (pc := 11) (dd dtX3_goBehind 7 rfl) rfl ?_
    refine WPe_getI (pc := 12) (t := 3) (C := RX3) (T := TX3) 5 (dd dtX3_goBehind 8 rfl) (e4.at (shE h1) (by decide)) rfl (Nat.le_of_ble_eq_true rfl) rfl (bw_mem1 35 rfl rfl) ?_
    refine WPe_iconst (pc := 15) (1 : Int32) (dd dtX3_goBehind 9 rfl) (by decide) ?_
    refine WPe_iadd (pc := 16) (dd dtX3_goBehind 10 rfl) ?_
    refine WPe_putI (pc := 17) (t := 3) (C := RX3) (T := TX3) 5 (dd dtX3_goBehind 11 rfl) (e4.at (shE h1) (by decide)) rfl (Nat.le_of_ble_eq_true rfl) (bw_mem1 35 rfl rfl) (Or.inl rfl) rfl rfl rfl ?_
    refine WPe_lw fun w6 e7 => ?_
    refine WPe_iconst (pc := 20) (1 : Int32) (dd dtX3_goBehind 12 rfl) (by decide) ?_
    exact WPe_zreturn (pc := 21) (ty := .boolean) (dd dtX3_goBehind 13 rfl) rfl rfl rfl ⟨(Nat.le_of_ble_eq_true rfl), (Nat.le_of_ble_eq_true rfl)⟩
  · refine WPe_iconst (pc := 8) (0 : Int32) (dd dtX3_goBehind 4 rfl) (by decide) ?_
    exact WPe_zreturn (pc := 9) (ty := .boolean) (dd dtX3_goBehind 5 rfl) rfl rfl rfl ⟨(Nat.le_of_ble_eq_true rfl), (Nat.le_of_ble_eq_true rfl)⟩
theorem okf3_goBehind (x0 : Nat) (x1 : Int32) (w : Wd) : ∀ z, f3_goBehind x0 x1 w = some z → OkM mX3_goBehind 2 0 0 [vR x0, vI x1] w (rtI z.1) z.2 :=
  OkM.of (rt := rtI) moX3_goBehind (Nat.le_of_ble_eq_true rfl) (fun X => wpf3_goBehind X w x0 x1 w)
def tbX3_addStep : List (Nat × Instr × Nat) := [(0, .aload_n 0, 1), (1, .getfield 52, 3), (4, .aload_n 0, 1), (5, .getfield 21, 3), (8, .arraylength, 1), (9, .if_icmp .ge 23, 3), (12, .aload_n 0, 1), (13, .getfield 21, 3), (16, .aload_n 0, 1), (17, .getfield 52, 3), (20, .iload_n 1, 1), (21, .iastore, 1), (22, .aload_n 0, 1), (23, .dup, 1), (24, .getfield 52, 3), (27, .iconst 1, 1), (28, .iadd, 1), (29, .putfield 52, 3), (32, .iconst 1, 1), (33, .ireturn, 1)]
set_option maxRecDepth 20000 in
theorem dtX3_addStep : ∀ x ∈ tbX3_addStep, decode cX3_addStep x.1 = .ok x.2 := by decide +kernel
noncomputable def f3_addStep (x0 : Nat) (x1 : Int32) (w : Wd) : Option (Int32 × Wd) :=
  ck (tg w x0 = 3) (ck (tg w (wr w x0 6) = 20) (if (Int32.ofNat (ln w (wr w x0 6))) ≤ (wi w x0 7) then (some ((1 : Int32), w)) else (ck (vp_in (wi w x0 7) (ln w (wr w x0 6))) (lw (sI w (wr w x0 6) ((wi w x0 7)).toNatClampNeg x1) fun w5 => (lw (sI w5 x0 7 ((wi w5 x0 7) + (1 : Int32))) fun w7 => (some ((1 : Int32), w7)))))))
theorem wpf3_addStep (X : CX) (w0 : Wd) (x0 : Nat) (x1 : Int32) (w : Wd) : WPe rtI X (mX3_addStep, 1, 0, 0, w0) 0 0 (f3_addStep x0 x1 w) 0 [(0, vR x0), (1, vI x1)] [] w := by
  unfold f3_addStep
  refine WPe_aload_n (pc := 0) 0 (dd dtX3_addStep 0 rfl) rfl ?_
  refine WPe_ck fun h1 => ?_
  refine WPe_getI (pc := 1) (t := 3) (C := RX3) (T := TX3) 7 (dd dtX3_addStep 1 rfl) (shE h1) rfl (Nat.le_of_ble_eq_true rfl) rfl (bw_mem1 37 rfl rfl) ?_
  refine WPe_aload_n (pc := 4) 0 (dd dtX3_addStep 2 rfl) rfl ?_
  refine WPe_getR (pc := 5) (t := 3) (C := RX3) (T := TX3) 6 (dd dtX3_addStep 3 rfl) (shE h1) rfl (Nat.le_of_ble_eq_true rfl) rfl (bw_mem1 36 rfl rfl) ?_
  refine WPe_ck fun h2 => ?_
  refine WPe_alen (pc := 8) (dd dtX3_addStep 4 rfl) (shL (shE h2)) ⟨(Nat.le_of_ble_eq_true rfl), (Nat.le_of_ble_eq_true rfl)⟩ ?_
  refine WPe_icmp_ge (pc := 9) 32 (dd dtX3_addStep 5 rfl) (by decide) (fun h3 => ?_) (fun h3 => ?_)
  · refine WPe_iconst (pc := 32) (1 : Int32) (dd dtX3_addStep 18 rfl) (by decide) ?_
    exact WPe_zreturn (pc := 33) (ty := .boolean) (dd dtX3_addStep 19 rfl) rfl rfl rfl ⟨(Nat.le_of_ble_eq_true rfl), (Nat.le_of_ble_eq_true rfl)⟩
  · refine WPe_aload_n (pc := 12) 0 (dd dtX3_addStep 6 rfl) rfl ?_
    refine WPe_getR (pc := 13) (t := 3) (C := RX3) (T := TX3) 6 (dd dtX3_addStep 7 rfl) (shE h1) rfl (Nat.le_of_ble_eq_true rfl) rfl (bw_mem1 36 rfl rfl) ?_
    refine WPe_aload_n (pc := 16) 0 (dd dtX3_addStep 8 rfl) rfl ?_
    refine WPe_getI (pc := 17) (t := 3) (C := RX3) (T := TX3) 7 (dd dtX3_addStep 9 rfl) (shE h1) rfl (Nat.le_of_ble_eq_true rfl) rfl (bw_mem1 37 rfl rfl) ?_
    refine WPe_iload_n (pc := 20) 1 (dd dtX3_addStep 10 rfl) rfl ?_
    refine WPe_ck fun h4 => ?_
    refine WPe_iast (pc := 21) (dd dtX3_addStep 11 rfl) (shL (shE h2)) h4 ?_
    refine WPe_lw fun w5 e6 => ?_
    refine WPe_aload_n (pc := 22) 0 (dd dtX3_addStep 12 rfl) rfl ?_
    refine WPe_dup (pc := 23) (dd dtX3_addStep 13 rfl) rfl ?_
    refine WPe_getI (pc := 24) (t := 3) (C := RX3) (T := TX3) 7 (dd dtX3_addStep 14 rfl) (shI e6 (shE h1)) rfl (Nat.le_of_ble_eq_true rfl) rfl (bw_mem1 37 rfl rfl) ?_
    refine WPe_iconst (pc := 27) (1 : Int32) (dd dtX3_addStep 15 rfl) (by decide) ?_
    refine WPe_iadd (pc := 28) (dd dtX3_addStep 16 rfl) ?_
    refine WPe_putI (pc := 29) (t := 3) (C := RX3) (T := TX3) 7 (dd dtX3_addStep 17 rfl) (shI e6 (shE h1)) rfl (Nat.le_of_ble_eq_true rfl) (bw_mem1 37 rfl rfl) (Or.inl rfl) rfl rfl rfl ?_
    refine WPe_lw fun w7 e8 => ?_
    refine WPe_iconst (pc := 32) (1 : Int32) (dd dtX3_addStep 18 rfl) (by decide) ?_
    exact WPe_zreturn (pc := 33) (ty := .boolean) (dd dtX3_addStep 19 rfl) rfl rfl rfl ⟨(Nat.le_of_ble_eq_true rfl), (Nat.le_of_ble_eq_true rfl)⟩
theorem okf3_addStep (x0 : Nat) (x1 : Int32) (w : Wd) : ∀ z, f3_addStep x0 x1 w = some z → OkM mX3_addStep 1 0 0 [vR x0, vI x1] w (rtI z.1) z.2 :=
  OkM.of (rt := rtI) moX3_addStep (Nat.le_of_ble_eq_true rfl) (fun X => wpf3_addStep X w x0 x1 w)
def recM (k : Nat) : MR := match k with
  | 0 => mX3_readOr
  | 1 => mX3_readAnd
  | 2 => mX3_readNot
  | 3 => mX3_readSum
  | 4 => mX3_readTerm
  | _ => mX3_readOne
def tbX3_readOr : List (Nat × Instr × Nat) := [(0, .aload_n 0, 1), (1, .iload_n 1, 1), (2, .invokevirtual 144, 3), (5, .istore_n 2, 1), (6, .iconst 0, 1), (7, .istore_n 3, 1), (8, .iload_n 3, 1), (9, .sipush 160, 3), (12, .if_icmp .ge 47, 3), (15, .iload_n 2, 1), (16, .ifCond .eq 43, 3), (19, .aload_n 0, 1), (20, .sipush 10010, 3), (23, .invokevirtual 138, 3), (26, .ifCond .eq 33, 3), (29, .aload_n 0, 1), (30, .iload_n 1, 1), (31, .invokevirtual 144, 3), (34, .ifCond .eq 17, 3), (37, .aload_n 0, 1), (38, .sipush 10010, 3), (41, .invokevirtual 147, 3), (44, .ifCond .eq 7, 3), (47, .iconst 1, 1), (48, .goto 4, 3), (51, .iconst 0, 1), (52, .istore_n 2, 1), (53, .iinc 3 1, 3), (56, .goto (-48), 3), (59, .iload_n 2, 1), (60, .ireturn, 1)]
set_option maxRecDepth 20000 in
theorem dtX3_readOr : ∀ x ∈ tbX3_readOr, decode cX3_readOr x.1 = .ok x.2 := by decide +kernel
noncomputable def j3_readOr_52 (rk : Nat × Nat × Int32 → Wd → Option (Int32 × Wd)) (k8 : Nat × Int32 × Int32 × Int32 → Wd → Option (Int32 × Wd)) (x0 : Nat) (x1 : Int32) (x3 : Int32) (s0 : Int32) (w : Wd) : Option (Int32 × Wd) :=
  k8 (x0, x1, s0, (x3 + (1 : Int32))) w
theorem wpj3_readOr_52 (X : CX) (w0 : Wd) (n : Nat) (rk : Nat × Nat × Int32 → Wd → Option (Int32 × Wd)) (hrk : ∀ (v : Nat × Nat × Int32) (w : Wd) (z : Int32 × Wd), rk v w = some z → OkM (recM v.1) (2 + n) 0 0 [vR v.2.1, vI v.2.2] w (rtI z.1) z.2) (k8 : Nat × Int32 × Int32 × Int32 → Wd → Option (Int32 × Wd)) (hk8 : ∀ (v : Nat × Int32 × Int32 × Int32) (w : Wd), WPe rtI X (mX3_readOr, (2 + n + 1), 0, 0, w0) 0 0 (k8 v w) 8 [(0, vR v.1), (1, vI v.2.1), (2, vI v.2.2.1), (3, vI v.2.2.2)] [] w) (x0 : Nat) (x1 : Int32) (x3 : Int32) (s0 : Int32) (w : Wd) : WPe rtI X (mX3_readOr, (2 + n + 1), 0, 0, w0) 0 0 (j3_readOr_52 rk k8 x0 x1 x3 s0 w) 52 [(0, vR x0), (1, vI x1), (3, vI x3)] [vI s0] w := by
  unfold j3_readOr_52
  refine WPe_istore_n (pc := 52) (ls' := [(2, vI s0), (0, vR x0), (1, vI x1), (3, vI x3)]) (dd dtX3_readOr 26 rfl) (Nat.le_of_ble_eq_true rfl) rfl ?_
  refine WPe_iinc (pc := 53) (ls' := [(3, vI (x3 + (1 : Int32))), (2, vI s0), (0, vR x0), (1, vI x1)]) 3 (x3 + (1 : Int32)) (dd dtX3_readOr 27 rfl) rfl (congrArg (HAdd.hAdd _) (by decide : Int32.ofInt (1) = (1 : Int32))) (Nat.le_of_ble_eq_true rfl) rfl ?_
  refine WPe_goto (pc := 56) 8 (dd dtX3_readOr 28 rfl) (by decide) ?_
  refine WPe_sub [2, 3, 1, 0] rfl ?_
  exact hk8 (x0, x1, s0, (x3 + (1 : Int32))) w
noncomputable def j3_readOr_51 (rk : Nat × Nat × Int32 → Wd → Option (Int32 × Wd)) (k8 : Nat × Int32 × Int32 × Int32 → Wd → Option (Int32 × Wd)) (x0 : Nat) (x1 : Int32) (x3 : Int32) (w : Wd) : Option (Int32 × Wd) :=
  j3_readOr_52 rk k8 x0 x1 x3 (0 : Int32) w
theorem wpj3_readOr_51 (X : CX) (w0 : Wd) (n : Nat) (rk : Nat × Nat × Int32 → Wd → Option (Int32 × Wd)) (hrk : ∀ (v : Nat × Nat × Int32) (w : Wd) (z : Int32 × Wd), rk v w = some z → OkM (recM v.1) (2 + n) 0 0 [vR v.2.1, vI v.2.2] w (rtI z.1) z.2) (k8 : Nat × Int32 × Int32 × Int32 → Wd → Option (Int32 × Wd)) (hk8 : ∀ (v : Nat × Int32 × Int32 × Int32) (w : Wd), WPe rtI X (mX3_readOr, (2 + n + 1), 0, 0, w0) 0 0 (k8 v w) 8 [(0, vR v.1), (1, vI v.2.1), (2, vI v.2.2.1), (3, vI v.2.2.2)] [] w) (x0 : Nat) (x1 : Int32) (x3 : Int32) (w : Wd) : WPe rtI X (mX3_readOr, (2 + n + 1), 0, 0, w0) 0 0 (j3_readOr_51 rk k8 x0 x1 x3 w) 51 [(0, vR x0), (1, vI x1), (3, vI x3)] [] w := by
  unfold j3_readOr_51
  refine WPe_iconst (pc := 51) (0 : Int32) (dd dtX3_readOr 25 rfl) (by decide) ?_
  refine WPe_sub [0, 1, 2] rfl ?_
  exact wpj3_readOr_52 X w0 n rk hrk k8 hk8 x0 x1 x3 (0 : Int32) w
noncomputable def b3_readOr_8 (rk : Nat × Nat × Int32 → Wd → Option (Int32 × Wd)) (k8 : Nat × Int32 × Int32 × Int32 → Wd → Option (Int32 × Wd)) (v : Nat × Int32 × Int32 × Int32) (w : Wd) : Option (Int32 × Wd) :=
  if (160 : Int32) ≤ v.2.2.2 then (ck (isB v.2.2.1) (some (v.2.2.1, w))) else (if v.2.2.1 = (0 : Int32) then (ck (isB v.2.2.1) (some (v.2.2.1, w))) else (ck (tg w v.1 = 3) ((f3_goBehind v.1 (10010 : Int32) w).bind fun z10 => (if z10.1 = (0 : Int32) then (ck (isB v.2.2.1) (some (v.2.2.1, z10.2))) else ((rk (1, v.1, v.2.1) z10.2).bind fun z15 => (if z15.1 = (0 : Int32) then (j3_readOr_51 rk k8 v.1 v.2.1 v.2.2.2 z15.2) else ((f3_addStep v.1 (10010 : Int32) z15.2).bind fun z19 => (if z19.1 = (0 : Int32) then (j3_readOr_51 rk k8 v.1 v.2.1 v.2.2.2 z19.2) else (j3_readOr_52 rk k8 v.1 v.2.1 v.2.2.2 (1 : Int32) z19.2)))))))))
theorem wpb3_readOr_8 (X : CX) (w0 : Wd) (n : Nat) (rk : Nat × Nat × Int32 → Wd → Option (Int32 × Wd)) (hrk : ∀ (v : Nat × Nat × Int32) (w : Wd) (z : Int32 × Wd), rk v w = some z → OkM (recM v.1) (2 + n) 0 0 [vR v.2.1, vI v.2.2] w (rtI z.1) z.2) (k8 : Nat × Int32 × Int32 × Int32 → Wd → Option (Int32 × Wd)) (hk8 : ∀ (v : Nat × Int32 × Int32 × Int32) (w : Wd), WPe rtI X (mX3_readOr, (2 + n + 1), 0, 0, w0) 0 0 (k8 v w) 8 [(0, vR v.1), (1, vI v.2.1), (2, vI v.2.2.1), (3, vI v.2.2.2)] [] w) (v : Nat × Int32 × Int32 × Int32) (w : Wd) : WPe rtI X (mX3_readOr, (2 + n + 1), 0, 0, w0) 0 0 (b3_readOr_8 rk k8 v w) 8 [(0, vR v.1), (1, vI v.2.1), (2, vI v.2.2.1), (3, vI v.2.2.2)] [] w := by
  unfold b3_readOr_8
  refine WPe_iload_n (pc := 8) 3 (dd dtX3_readOr 6 rfl) rfl ?_
  refine WPe_sipush (pc := 9) (160 : Int32) (dd dtX3_readOr 7 rfl) (by decide) ?_
  refine WPe_icmp_ge (pc := 12) 59 (dd dtX3_readOr 8 rfl) (by decide) (fun h5 => ?_) (fun h5 => ?_)
  · refine WPe_iload_n (pc := 59) 2 (dd dtX3_readOr 29 rfl) rfl ?_
    refine WPe_ck fun h6 => ?_
    exact WPe_zreturn (pc := 60) (ty := .boolean) (dd dtX3_readOr 30 rfl) rfl rfl (isB_nar h6) ⟨(Nat.le_of_ble_eq_true rfl), (Nat.le_of_ble_eq_true rfl)⟩
  · refine WPe_iload_n (pc := 15) 2 (dd dtX3_readOr 9 rfl) rfl ?_
    refine WPe_if_eq (pc := 16) 59 (dd dtX3_readOr 10 rfl) (by decide) (fun h7 => ?_) (fun h7 => ?_)
    · refine WPe_iload_n (pc := 59) 2 (dd dtX3_readOr 29 rfl) rfl ?_
      refine WPe_ck fun h8 => ?_
      exact WPe_zreturn (pc := 60) (ty := .boolean) (dd dtX3_readOr 30 rfl) rfl rfl (isB_nar h8) ⟨(Nat.le_of_ble_eq_true rfl), (Nat.le_of_ble_eq_true rfl)⟩
    · refine WPe_aload_n (pc := 19) 0 (dd dtX3_readOr 11 rfl) rfl ?_
      refine WPe_sipush (pc := 20) (10010 : Int32) (dd dtX3_readOr 12 rfl) (by decide) ?_
      refine WPe_ck fun h9 => ?_
      refine WPe_callV (pc := 23) (rtc := rtI) (Mc := mX3_goBehind) (d' := 2) (mc' := 0) (ms' := 0) [vI (10010 : Int32)] [] rfl (dd dtX3_readOr 13 rfl) (okf3_goBehind v.1 (10010 : Int32) w) moX3_goBehind miX3_goBehind (bw_mem1 184 rfl rfl) (Or.inl ⟨_, _, _, _, (shE h9), rfl⟩) rfl (Nat.le_of_ble_eq_true rfl) ⟨by show 2 + 1 ≤ 2 + n + 1; omega, by show 8 + (_ + 11) + 64 * 2 ≤ 64 * (2 + n + 1); have : mX3_goBehind.2.2.1 ≤ 45 := (Nat.le_of_ble_eq_true rfl); omega⟩ ⟨(Nat.le_of_ble_eq_true rfl), (Nat.le_of_ble_eq_true rfl)⟩ (fun z10 h11 e12 => ?_)
      refine WPe_st (st2 := [vI z10.1]) rfl ?_
      refine WPe_if_eq (pc := 26) 59 (dd dtX3_readOr 14 rfl) (by decide) (fun h13 => ?_) (fun h13 => ?_)
      · refine WPe_iload_n (pc := 59) 2 (dd dtX3_readOr 29 rfl) rfl ?_
        refine WPe_ck fun h14 => ?_
        exact WPe_zreturn (pc := 60) (ty := .boolean) (dd dtX3_readOr 30 rfl) rfl rfl (isB_nar h14) ⟨(Nat.le_of_ble_eq_true rfl), (Nat.le_of_ble_eq_true rfl)⟩
      · refine WPe_aload_n (pc := 29) 0 (dd dtX3_readOr 15 rfl) rfl ?_
        refine WPe_iload_n (pc := 30) 1 (dd dtX3_readOr 16 rfl) rfl ?_
        refine WPe_callV (pc := 31) (rtc := rtI) (Mc := mX3_readAnd) (d' := 2 + n) (mc' := 0) (ms' := 0) [vI v.2.1] [] rfl (dd dtX3_readOr 17 rfl) (hrk (1, v.1, v.2.1) z10.2) moX3_readAnd miX3_readAnd (bw_mem1 196 rfl rfl) (Or.inl ⟨_, _, _, _, (e12.at (shE h9) (by decide)), rfl⟩) rfl (Nat.le_of_ble_eq_true rfl) ⟨by show 2 + n + 1 ≤ 2 + n + 1; omega, by show 8 + (_ + 11) + 64 * (2 + n) ≤ 64 * (2 + n + 1); have : mX3_readAnd.2.2.1 ≤ 45 := (Nat.le_of_ble_eq_true rfl); omega⟩ ⟨(Nat.le_of_ble_eq_true rfl), (Nat.le_of_ble_eq_true rfl)⟩ (fun z15 h16 e17 => ?_)
        refine WPe_st (st2 := [vI z15.1]) rfl ?_
        refine WPe_if_eq (pc := 34) 51 (dd dtX3_readOr 18 rfl) (by decide) (fun h18 => ?_) (fun h18 => ?_)
        · refine WPe_sub [0, 1, 3] rfl ?_
          exact wpj3_readOr_51 X w0 n rk hrk k8 hk8 v.1 v.2.1 v.2.2.2 z15.2
        · refine WPe_aload_n (pc := 37) 0 (dd dtX3_readOr 19 rfl) rfl ?_
          refine WPe_sipush (pc := 38) (10010 : Int32) (dd dtX3_readOr 20 rfl) (by decide) ?_
          refine WPe_callV (pc := 41) (rtc := rtI) (Mc := mX3_addStep) (d' := 1) (mc' := 0) (ms' := 0) [vI (10010 : Int32)] [] rfl (dd dtX3_readOr 21 rfl) (okf3_addStep v.1 (10010 : Int32) z15.2) moX3_addStep miX3_addStep (bw_mem1 204 rfl rfl) (Or.inl ⟨_, _, _, _, (e17.at (e12.at (shE h9) (by decide)) (by decide)), rfl⟩) rfl (Nat.le_of_ble_eq_true rfl) ⟨by show 1 + 1 ≤ 2 + n + 1; omega, by show 8 + (_ + 11) + 64 * 1 ≤ 64 * (2 + n + 1); have : mX3_addStep.2.2.1 ≤ 45 := (Nat.le_of_ble_eq_true rfl); omega⟩ ⟨(Nat.le_of_ble_eq_true rfl), (Nat.le_of_ble_eq_true rfl)⟩ (fun z19 h20 e21 => ?_)
          refine WPe_st (st2 := [vI z19.1]) rfl ?_
          refine WPe_if_eq (pc := 44) 51 (dd dtX3_readOr 22 rfl) (by decide) (fun h22 => ?_) (fun h22 => ?_)
          · refine WPe_sub [0, 1, 3] rfl ?_
            exact wpj3_readOr_51 X w0 n rk hrk k8 hk8 v.1 v.2.1 v.2.2.2 z19.2
          · refine WPe_iconst (pc := 47) (1 : Int32) (dd dtX3_readOr 23 rfl) (by decide) ?_
            refine WPe_goto (pc := 48) 52 (dd dtX3_readOr 24 rfl) (by decide) ?_
            refine WPe_sub [0, 1, 3] rfl ?_
            exact wpj3_readOr_52 X w0 n rk hrk k8 hk8 v.1 v.2.1 v.2.2.2 (1 : Int32) z19.2
theorem wplb3_readOr_8 (X : CX) (w0 : Wd) (n : Nat) (rk : Nat × Nat × Int32 → Wd → Option (Int32 × Wd)) (hrk : ∀ (v : Nat × Nat × Int32) (w : Wd) (z : Int32 × Wd), rk v w = some z → OkM (recM v.1) (2 + n) 0 0 [vR v.2.1, vI v.2.2] w (rtI z.1) z.2)  : ∀ (n9 : Nat) (v : Nat × Int32 × Int32 × Int32) (w : Wd), WPe rtI X (mX3_readOr, (2 + n + 1), 0, 0, w0) 0 0 (loopF (b3_readOr_8 rk ) n9 v w) 8 [(0, vR v.1), (1, vI v.2.1), (2, vI v.2.2.1), (3, vI v.2.2.2)] [] w :=
  WPe_loop (rt := rtI) (X := X) (M := (mX3_readOr, (2 + n + 1), 0, 0, w0)) (fun v : Nat × Int32 × Int32 × Int32 => [(0, vR v.1), (1, vI v.2.1), (2, vI v.2.2.1), (3, vI v.2.2.2)]) (fun k hk v w => wpb3_readOr_8 X w0 n rk hrk  k hk v w)
noncomputable def f3_readOr (rk : Nat × Nat × Int32 → Wd → Option (Int32 × Wd)) (x0 : Nat) (x1 : Int32) (w : Wd) : Option (Int32 × Wd) :=
  ck (tg w x0 = 3) ((rk (1, x0, x1) w).bind fun z2 => (loopF (b3_readOr_8 rk) FU (x0, x1, z2.1, (0 : Int32)) z2.2))
theorem wpf3_readOr (X : CX) (w0 : Wd) (n : Nat) (rk : Nat × Nat × Int32 → Wd → Option (Int32 × Wd)) (hrk : ∀ (v : Nat × Nat × Int32) (w : Wd) (z : Int32 × Wd), rk v w = some z → OkM (recM v.1) (2 + n) 0 0 [vR v.2.1, vI v.2.2] w (rtI z.1) z.2) (x0 : Nat) (x1 : Int32) (w : Wd) : WPe rtI X (mX3_readOr, (2 + n + 1), 0, 0, w0) 0 0 (f3_readOr rk x0 x1 w) 0 [(0, vR x0), (1, vI x1)] [] w := by
  unfold f3_readOr
  refine WPe_aload_n (pc := 0) 0 (dd dtX3_readOr 0 rfl) rfl ?_
  refine WPe_iload_n (pc := 1) 1 (dd dtX3_readOr 1 rfl) rfl ?_
  refine WPe_ck fun h1 => ?_
  refine WPe_callV (pc := 2) (rtc := rtI) (Mc := mX3_readAnd) (d' := 2 + n) (mc' := 0) (ms' := 0) [vI x1] [] rfl (dd dtX3_readOr 2 rfl) (hrk (1, x0, x1) w) moX3_readAnd miX3_readAnd (bw_mem1 196 rfl rfl) (Or.inl ⟨_, _, _, _, (shE h1), rfl⟩) rfl (Nat.le_of_ble_eq_true rfl) ⟨by show 2 + n + 1 ≤ 2 + n + 1; omega, by show 8 + (_ + 11) + 64 * (2 + n) ≤ 64 * (2 + n + 1); have : mX3_readAnd.2.2.1 ≤ 45 := (Nat.le_of_ble_eq_true rfl); omega⟩ ⟨(Nat.le_of_ble_eq_true rfl), (Nat.le_of_ble_eq_true rfl)⟩ (fun z2 h3 e4 => ?_)
  refine WPe_st (st2 := [vI z2.1]) rfl ?_
  refine WPe_istore_n (pc := 5) (ls' := [(2, vI z2.1), (0, vR x0), (1, vI x1)]) (dd dtX3_readOr 3 rfl) (Nat.le_of_ble_eq_true rfl) rfl ?_
  refine WPe_iconst (pc := 6) (0 : Int32) (dd dtX3_readOr 4 rfl) (by decide) ?_
  refine WPe_istore_n (pc := 7) (ls' := [(3, vI (0 : Int32)), (2, vI z2.1), (0, vR x0), (1, vI x1)]) (dd dtX3_readOr 5 rfl) (Nat.le_of_ble_eq_true rfl) rfl ?_
  refine WPe_sub [2, 3, 1, 0] rfl ?_
  exact wplb3_readOr_8 X w0 n rk hrk  FU _ _
def tbX3_readAnd : List (Nat × Instr × Nat) := [(0, .aload_n 0, 1), (1, .iload_n 1, 1), (2, .invokevirtual 150, 3), (5, .istore_n 2, 1), (6, .iconst 0, 1), (7, .istore_n 3, 1), (8, .iload_n 3, 1), (9, .sipush 160, 3), (12, .if_icmp .ge 47, 3), (15, .iload_n 2, 1), (16, .ifCond .eq 43, 3), (19, .aload_n 0, 1), (20, .sipush 10011, 3), (23, .invokevirtual 138, 3), (26, .ifCond .eq 33, 3), (29, .aload_n 0, 1), (30, .iload_n 1, 1), (31, .invokevirtual 150, 3), (34, .ifCond .eq 17, 3), (37, .aload_n 0, 1), (38, .sipush 10011, 3), (41, .invokevirtual 147, 3), (44, .ifCond .eq 7, 3), (47, .iconst 1, 1), (48, .goto 4, 3), (51, .iconst 0, 1), (52, .istore_n 2, 1), (53, .iinc 3 1, 3), (56, .goto (-48), 3), (59, .iload_n 2, 1), (60, .ireturn, 1)]
set_option maxRecDepth 20000 in
theorem dtX3_readAnd : ∀ x ∈ tbX3_readAnd, decode cX3_readAnd x.1 = .ok x.2 := by decide +kernel
noncomputable def j3_readAnd_52 (rk : Nat × Nat × Int32 → Wd → Option (Int32 × Wd)) (k8 : Nat × Int32 × Int32 × Int32 → Wd → Option (Int32 × Wd)) (x0 : Nat) (x1 : Int32) (x3 : Int32) (s0 : Int32) (w : Wd) : Option (Int32 × Wd) :=
  k8 (x0, x1, s0, (x3 + (1 : Int32))) w
theorem wpj3_readAnd_52 (X : CX) (w0 : Wd) (n : Nat) (rk : Nat × Nat × Int32 → Wd → Option (Int32 × Wd)) (hrk : ∀ (v : Nat × Nat × Int32) (w : Wd) (z : Int32 × Wd), rk v w = some z → OkM (recM v.1) (2 + n) 0 0 [vR v.2.1, vI v.2.2] w (rtI z.1) z.2) (k8 : Nat × Int32 × Int32 × Int32 → Wd → Option (Int32 × Wd)) (hk8 : ∀ (v : Nat × Int32 × Int32 × Int32) (w : Wd), WPe rtI X (mX3_readAnd, (2 + n + 1), 0, 0, w0) 0 0 (k8 v w) 8 [(0, vR v.1), (1, vI v.2.1), (2, vI v.2.2.1), (3, vI v.2.2.2)] [] w) (x0 : Nat) (x1 : Int32) (x3 : Int32) (s0 : Int32) (w : Wd) : WPe rtI X (mX3_readAnd, (2 + n + 1), 0, 0, w0) 0 0 (j3_readAnd_52 rk k8 x0 x1 x3 s0 w) 52 [(0, vR x0), (1, vI x1), (3, vI x3)] [vI s0] w := by
  unfold j3_readAnd_52
  refine WPe_istore_n (pc := 52) (ls' := [(2, vI s0), (0, vR x0), (1, vI x1), (3, vI x3)]) (dd dtX3_readAnd 26 rfl) (Nat.le_of_ble_eq_true rfl) rfl ?_
  refine WPe_iinc (pc := 53) (ls' := [(3, vI (x3 + (1 : Int32))), (2, vI s0), (0, vR x0), (1, vI x1)]) 3 (x3 + (1 : Int32)) (dd dtX3_readAnd 27 rfl) rfl (congrArg (HAdd.hAdd _) (by decide : Int32.ofInt (1) = (1 : Int32))) (Nat.le_of_ble_eq_true rfl) rfl ?_
  refine WPe_goto (pc := 56) 8 (dd dtX3_readAnd 28 rfl) (by decide) ?_
  refine WPe_sub [2, 3, 1, 0] rfl ?_
  exact hk8 (x0, x1, s0, (x3 + (1 : Int32))) w
noncomputable def j3_readAnd_51 (rk : Nat × Nat × Int32 → Wd → Option (Int32 × Wd)) (k8 : Nat × Int32 × Int32 × Int32 → Wd → Option (Int32 × Wd)) (x0 : Nat) (x1 : Int32) (x3 : Int32) (w : Wd) : Option (Int32 × Wd) :=
  j3_readAnd_52 rk k8 x0 x1 x3 (0 : Int32) w
theorem wpj3_readAnd_51 (X : CX) (w0 : Wd) (n : Nat) (rk : Nat × Nat × Int32 → Wd → Option (Int32 × Wd)) (hrk : ∀ (v : Nat × Nat × Int32) (w : Wd) (z : Int32 × Wd), rk v w = some z → OkM (recM v.1) (2 + n) 0 0 [vR v.2.1, vI v.2.2] w (rtI z.1) z.2) (k8 : Nat × Int32 × Int32 × Int32 → Wd → Option (Int32 × Wd)) (hk8 : ∀ (v : Nat × Int32 × Int32 × Int32) (w : Wd), WPe rtI X (mX3_readAnd, (2 + n + 1), 0, 0, w0) 0 0 (k8 v w) 8 [(0, vR v.1), (1, vI v.2.1), (2, vI v.2.2.1), (3, vI v.2.2.2)] [] w) (x0 : Nat) (x1 : Int32) (x3 : Int32) (w : Wd) : WPe rtI X (mX3_readAnd, (2 + n + 1), 0, 0, w0) 0 0 (j3_readAnd_51 rk k8 x0 x1 x3 w) 51 [(0, vR x0), (1, vI x1), (3, vI x3)] [] w := by
  unfold j3_readAnd_51
  refine WPe_iconst (pc := 51) (0 : Int32) (dd dtX3_readAnd 25 rfl) (by decide) ?_
  refine WPe_sub [0, 1, 2] rfl ?_
  exact wpj3_readAnd_52 X w0 n rk hrk k8 hk8 x0 x1 x3 (0 : Int32) w
noncomputable def b3_readAnd_8 (rk : Nat × Nat × Int32 → Wd → Option (Int32 × Wd)) (k8 : Nat × Int32 × Int32 × Int32 → Wd → Option (Int32 × Wd)) (v : Nat × Int32 × Int32 × Int32) (w : Wd) : Option (Int32 × Wd) :=
  if (160 : Int32) ≤ v.2.2.2 then (ck (isB v.2.2.1) (some (v.2.2.1, w))) else (if v.2.2.1 = (0 : Int32) then (ck (isB v.2.2.1) (some (v.2.2.1, w))) else (ck (tg w v.1 = 3) ((f3_goBehind v.1 (10011 : Int32) w).bind fun z10 => (if z10.1 = (0 : Int32) then (ck (isB v.2.2.1) (some (v.2.2.1, z10.2))) else ((rk (2, v.1, v.2.1) z10.2).bind fun z15 => (if z15.1 = (0 : Int32) then (j3_readAnd_51 rk k8 v.1 v.2.1 v.2.2.2 z15.2) else ((f3_addStep v.1 (10011 : Int32) z15.2).bind fun z19 => (if z19.1 = (0 : Int32) then (j3_readAnd_51 rk k8 v.1 v.2.1 v.2.2.2 z19.2) else (j3_readAnd_52 rk k8 v.1 v.2.1 v.2.2.2 (1 : Int32) z19.2)))))))))
theorem wpb3_readAnd_8 (X : CX) (w0 : Wd) (n : Nat) (rk : Nat × Nat × Int32 → Wd → Option (Int32 × Wd)) (hrk : ∀ (v : Nat × Nat × Int32) (w : Wd) (z : Int32 × Wd), rk v w = some z → OkM (recM v.1) (2 + n) 0 0 [vR v.2.1, vI v.2.2] w (rtI z.1) z.2) (k8 : Nat × Int32 × Int32 × Int32 → Wd → Option (Int32 × Wd)) (hk8 : ∀ (v : Nat × Int32 × Int32 × Int32) (w : Wd), WPe rtI X (mX3_readAnd, (2 + n + 1), 0, 0, w0) 0 0 (k8 v w) 8 [(0, vR v.1), (1, vI v.2.1), (2, vI v.2.2.1), (3, vI v.2.2.2)] [] w) (v : Nat × Int32 × Int32 × Int32) (w : Wd) : WPe rtI X (mX3_readAnd, (2 + n + 1), 0, 0, w0) 0 0 (b3_readAnd_8 rk k8 v w) 8 [(0, vR v.1), (1, vI v.2.1), (2, vI v.2.2.1), (3, vI v.2.2.2)] [] w := by
  unfold b3_readAnd_8
  refine WPe_iload_n (pc := 8) 3 (dd dtX3_readAnd 6 rfl) rfl ?_
  refine WPe_sipush (pc := 9) (160 : Int32) (dd dtX3_readAnd 7 rfl) (by decide) ?_
  refine WPe_icmp_ge (pc := 12) 59 (dd dtX3_readAnd 8 rfl) (by decide) (fun h5 => ?_) (fun h5 => ?_)
  · refine WPe_iload_n (pc := 59) 2 (dd dtX3_readAnd 29 rfl) rfl ?_
    refine WPe_ck fun h6 => ?_
    exact WPe_zreturn (pc := 60) (ty := .boolean) (dd dtX3_readAnd 30 rfl) rfl rfl (isB_nar h6) ⟨(Nat.le_of_ble_eq_true rfl), (Nat.le_of_ble_eq_true rfl)⟩
  · refine WPe_iload_n (pc := 15) 2 (dd dtX3_readAnd 9 rfl) rfl ?_
    refine WPe_if_eq (pc := 16) 59 (dd dtX3_readAnd 10 rfl) (by decide) (fun h7 => ?_) (fun h7 => ?_)
    · refine WPe_iload_n (pc := 59) 2 (dd dtX3_readAnd 29 rfl) rfl ?_
      refine WPe_ck fun h8 => ?_
      exact WPe_zreturn (pc := 60) (ty := .boolean) (dd dtX3_readAnd 30 rfl) rfl rfl (isB_nar h8) ⟨(Nat.le_of_ble_eq_true rfl), (Nat.le_of_ble_eq_true rfl)⟩
    · refine WPe_aload_n (pc := 19) 0 (dd dtX3_readAnd 11 rfl) rfl ?_
      refine WPe_sipush (pc := 20) (10011 : Int32) (dd dtX3_readAnd 12 rfl) (by decide) ?_
      refine WPe_ck fun h9 => ?_
      refine WPe_callV (pc := 23) (rtc := rtI) (Mc := mX3_goBehind) (d' := 2) (mc' := 0) (ms' := 0) [vI (10011 : Int32)] [] rfl (dd dtX3_readAnd 13 rfl) (okf3_goBehind v.1 (10011 : Int32) w) moX3_goBehind miX3_goBehind (bw_mem1 184 rfl rfl) (Or.inl ⟨_, _, _, _, (shE h9), rfl⟩) rfl (Nat.le_of_ble_eq_true rfl) ⟨by show 2 + 1 ≤ 2 + n + 1; omega, by show 8 + (_ + 11) + 64 * 2 ≤ 64 * (2 + n + 1); have : mX3_goBehind.2.2.1 ≤ 45 := (Nat.le_of_ble_eq_true rfl); omega⟩ ⟨(Nat.le_of_ble_eq_true rfl), (Nat.le_of_ble_eq_true rfl)⟩ (fun z10 h11 e12 => ?_)
      refine WPe_st (st2 := [vI z10.1]) rfl ?_
      refine WPe_if_eq (pc := 26) 59 (dd dtX3_readAnd 14 rfl) (by decide) (fun h13 => ?_) (fun h13 => ?_)
      · refine WPe_iload_n (pc := 59) 2 (dd dtX3_readAnd 29 rfl) rfl ?_
        refine WPe_ck fun h14 => ?_
        exact WPe_zreturn (pc := 60) (ty := .boolean) (dd dtX3_readAnd 30 rfl) rfl rfl (isB_nar h14) ⟨(Nat.le_of_ble_eq_true rfl), (Nat.le_of_ble_eq_true rfl)⟩
      · refine WPe_aload_n (pc := 29) 0 (dd dtX3_readAnd 15 rfl) rfl ?_
        refine WPe_iload_n (pc := 30) 1 (dd dtX3_readAnd 16 rfl) rfl ?_
        refine WPe_callV (pc := 31) (rtc := rtI) (Mc := mX3_readNot) (d' := 2 + n) (mc' := 0) (ms' := 0) [vI v.2.1] [] rfl (dd dtX3_readAnd 17 rfl) (hrk (2, v.1, v.2.1) z10.2) moX3_readNot miX3_readNot (bw_mem1 200 rfl rfl) (Or.inl ⟨_, _, _, _, (e12.at (shE h9) (by decide)), rfl⟩) rfl (Nat.le_of_ble_eq_true rfl) ⟨by show 2 + n + 1 ≤ 2 + n + 1; omega, by show 8 + (_ + 11) + 64 * (2 + n) ≤ 64 * (2 + n + 1); have : mX3_readNot.2.2.1 ≤ 45 := (Nat.le_of_ble_eq_true rfl); omega⟩ ⟨(Nat.le_of_ble_eq_true rfl), (Nat.le_of_ble_eq_true rfl)⟩ (fun z15 h16 e17 => ?_)
        refine WPe_st (st2 := [vI z15.1]) rfl ?_
        refine WPe_if_eq (pc := 34) 51 (dd dtX3_readAnd 18 rfl) (by decide) (fun h18 => ?_) (fun h18 => ?_)
        · refine WPe_sub [0, 1, 3] rfl ?_
          exact wpj3_readAnd_51 X w0 n rk hrk k8 hk8 v.1 v.2.1 v.2.2.2 z15.2
        · refine WPe_aload_n (pc := 37) 0 (dd dtX3_readAnd 19 rfl) rfl ?_
          refine WPe_sipush (pc := 38) (10011 : Int32) (dd dtX3_readAnd 20 rfl) (by decide) ?_
          refine WPe_callV (pc := 41) (rtc := rtI) (Mc := mX3_addStep) (d' := 1) (mc' := 0) (ms' := 0) [vI (10011 : Int32)] [] rfl (dd dtX3_readAnd 21 rfl) (okf3_addStep v.1 (10011 : Int32) z15.2) moX3_addStep miX3_addStep (bw_mem1 204 rfl rfl) (Or.inl ⟨_, _, _, _, (e17.at (e12.at (shE h9) (by decide)) (by decide)), rfl⟩) rfl (Nat.le_of_ble_eq_true rfl) ⟨by show 1 + 1 ≤ 2 + n + 1; omega, by show 8 + (_ + 11) + 64 * 1 ≤ 64 * (2 + n + 1); have : mX3_addStep.2.2.1 ≤ 45 := (Nat.le_of_ble_eq_true rfl); omega⟩ ⟨(Nat.le_of_ble_eq_true rfl), (Nat.le_of_ble_eq_true rfl)⟩ (fun z19 h20 e21 => ?_)
          refine WPe_st (st2 := [vI z19.1]) rfl ?_
          refine WPe_if_eq (pc := 44) 51 (dd dtX3_readAnd 22 rfl) (by decide) (fun h22 => ?_) (fun h22 => ?_)
          · refine WPe_sub [0, 1, 3] rfl ?_
            exact wpj3_readAnd_51 X w0 n rk hrk k8 hk8 v.1 v.2.1 v.2.2.2 z19.2
          · refine WPe_iconst (pc := 47) (1 : Int32) (dd dtX3_readAnd 23 rfl) (by decide) ?_
            refine WPe_goto (pc := 48) 52 (dd dtX3_readAnd 24 rfl) (by decide) ?_
            refine WPe_sub [0, 1, 3] rfl ?_
            exact wpj3_readAnd_52 X w0 n rk hrk k8 hk8 v.1 v.2.1 v.2.2.2 (1 : Int32) z19.2
theorem wplb3_readAnd_8 (X : CX) (w0 : Wd) (n : Nat) (rk : Nat × Nat × Int32 → Wd → Option (Int32 × Wd)) (hrk : ∀ (v : Nat × Nat × Int32) (w : Wd) (z : Int32 × Wd), rk v w = some z → OkM (recM v.1) (2 + n) 0 0 [vR v.2.1, vI v.2.2] w (rtI z.1) z.2)  : ∀ (n9 : Nat) (v : Nat × Int32 × Int32 × Int32) (w : Wd), WPe rtI X (mX3_readAnd, (2 + n + 1), 0, 0, w0) 0 0 (loopF (b3_readAnd_8 rk ) n9 v w) 8 [(0, vR v.1), (1, vI v.2.1), (2, vI v.2.2.1), (3, vI v.2.2.2)] [] w :=
  WPe_loop (rt := rtI) (X := X) (M := (mX3_readAnd, (2 + n + 1), 0, 0, w0)) (fun v : Nat × Int32 × Int32 × Int32 => [(0, vR v.1), (1, vI v.2.1), (2, vI v.2.2.1), (3, vI v.2.2.2)]) (fun k hk v w => wpb3_readAnd_8 X w0 n rk hrk  k hk v w)
noncomputable def f3_readAnd (rk : Nat × Nat × Int32 → Wd → Option (Int32 × Wd)) (x0 : Nat) (x1 : Int32) (w : Wd) : Option (Int32 × Wd) :=
  ck (tg w x0 = 3) ((rk (2, x0, x1) w).bind fun z2 => (loopF (b3_readAnd_8 rk) FU (x0, x1, z2.1, (0 : Int32)) z2.2))
theorem wpf3_readAnd (X : CX) (w0 : Wd) (n : Nat) (rk : Nat × Nat × Int32 → Wd → Option (Int32 × Wd)) (hrk : ∀ (v : Nat × Nat × Int32) (w : Wd) (z : Int32 × Wd), rk v w = some z → OkM (recM v.1) (2 + n) 0 0 [vR v.2.1, vI v.2.2] w (rtI z.1) z.2) (x0 : Nat) (x1 : Int32) (w : Wd) : WPe rtI X (mX3_readAnd, (2 + n + 1), 0, 0, w0) 0 0 (f3_readAnd rk x0 x1 w) 0 [(0, vR x0), (1, vI x1)] [] w := by
  unfold f3_readAnd
  refine WPe_aload_n (pc := 0) 0 (dd dtX3_readAnd 0 rfl) rfl ?_
  refine WPe_iload_n (pc := 1) 1 (dd dtX3_readAnd 1 rfl) rfl ?_
  refine WPe_ck fun h1 => ?_
  refine WPe_callV (pc := 2) (rtc := rtI) (Mc := mX3_readNot) (d' := 2 + n) (mc' := 0) (ms' := 0) [vI x1] [] rfl (dd dtX3_readAnd 2 rfl) (hrk (2, x0, x1) w) moX3_readNot miX3_readNot (bw_mem1 200 rfl rfl) (Or.inl ⟨_, _, _, _, (shE h1), rfl⟩) rfl (Nat.le_of_ble_eq_true rfl) ⟨by show 2 + n + 1 ≤ 2 + n + 1; omega, by show 8 + (_ + 11) + 64 * (2 + n) ≤ 64 * (2 + n + 1); have : mX3_readNot.2.2.1 ≤ 45 := (Nat.le_of_ble_eq_true rfl); omega⟩ ⟨(Nat.le_of_ble_eq_true rfl), (Nat.le_of_ble_eq_true rfl)⟩ (fun z2 h3 e4 => ?_)
  refine WPe_st (st2 := [vI z2.1]) rfl ?_
  refine WPe_istore_n (pc := 5) (ls' := [(2, vI z2.1), (0, vR x0), (1, vI x1)]) (dd dtX3_readAnd 3 rfl) (Nat.le_of_ble_eq_true rfl) rfl ?_
  refine WPe_iconst (pc := 6) (0 : Int32) (dd dtX3_readAnd 4 rfl) (by decide) ?_
  refine WPe_istore_n (pc := 7) (ls' := [(3, vI (0 : Int32)), (2, vI z2.1), (0, vR x0), (1, vI x1)]) (dd dtX3_readAnd 5 rfl) (Nat.le_of_ble_eq_true rfl) rfl ?_
  refine WPe_sub [2, 3, 1, 0] rfl ?_
  exact wplb3_readAnd_8 X w0 n rk hrk  FU _ _
def tbX3_readNot : List (Nat × Instr × Nat) := [(0, .aload_n 0, 1), (1, .invokevirtual 135, 3), (4, .sipush 10012, 3), (7, .if_icmp .ne 44, 3), (10, .iload_n 1, 1), (11, .iconst 5, 1), (12, .if_icmp .ge 37, 3), (15, .aload_n 0, 1), (16, .sipush 10012, 3), (19, .invokevirtual 138, 3), (22, .ifCond .eq 27, 3), (25, .aload_n 0, 1), (26, .iload_n 1, 1), (27, .iconst 1, 1), (28, .iadd, 1), (29, .invokevirtual 150, 3), (32, .ifCond .eq 17, 3), (35, .aload_n 0, 1), (36, .sipush 10012, 3), (39, .invokevirtual 147, 3), (42, .ifCond .eq 7, 3), (45, .iconst 1, 1), (46, .goto 4, 3), (49, .iconst 0, 1), (50, .ireturn, 1), (51, .aload_n 0, 1), (52, .iload_n 1, 1), (53, .invokevirtual 153, 3), (56, .ifCond .ne 5, 3), (59, .iconst 0, 1), (60, .ireturn, 1), (61, .aload_n 0, 1), (62, .invokevirtual 135, 3), (65, .istore_n 2, 1), (66, .iload_n 2, 1), (67, .sipush 10014, 3), (70, .if_icmp .eq 12, 3), (73, .iload_n 2, 1), (74, .sipush 10015, 3), (77, .if_icmp .eq 5, 3), (80, .iconst 1, 1), (81, .ireturn, 1), (82, .aload_n 0, 1), (83, .iload_n 2, 1), (84, .invokevirtual 138, 3), (87, .ifCond .eq 23, 3), (90, .aload_n 0, 1), (91, .iload_n 1, 1), (92, .invokevirtual 153, 3), (95, .ifCond .eq 15, 3), (98, .aload_n 0, 1), (99, .iload_n 2, 1), (100, .invokevirtual 147, 3), (103, .ifCond .eq 7, 3), (106, .iconst 1, 1), (107, .goto 4, 3), (110, .iconst 0, 1), (111, .ireturn, 1)]
set_option maxRecDepth 20000 in
theorem dtX3_readNot : ∀ x ∈ tbX3_readNot, decode cX3_readNot x.1 = .ok x.2 := by decide +kernel
noncomputable def j3_readNot_82 (rk : Nat × Nat × Int32 → Wd → Option (Int32 × Wd))  (x0 : Nat) (x1 : Int32) (x2 : Int32) (w : Wd) : Option (Int32 × Wd) :=
  ck (tg w x0 = 3) ((f3_goBehind x0 x2 w).bind fun z28 => (if z28.1 = (0 : Int32) then (some ((0 : Int32), z28.2)) else ((rk (3, x0, x1) z28.2).bind fun z32 => (if z32.1 = (0 : Int32) then (some ((0 : Int32), z32.2)) else ((f3_addStep x0 x2 z32.2).bind fun z36 => (if z36.1 = (0 : Int32) then (some ((0 : Int32), z36.2)) else (some ((1 : Int32), z36.2))))))))
theorem wpj3_readNot_82 (X : CX) (w0 : Wd) (n : Nat) (rk : Nat × Nat × Int32 → Wd → Option (Int32 × Wd)) (hrk : ∀ (v : Nat × Nat × Int32) (w : Wd) (z : Int32 × Wd), rk v w = some z → OkM (recM v.1) (2 + n) 0 0 [vR v.2.1, vI v.2.2] w (rtI z.1) z.2)  (x0 : Nat) (x1 : Int32) (x2 : Int32) (w : Wd) : WPe rtI X (mX3_readNot, (2 + n + 1), 0, 0, w0) 0 0 (j3_readNot_82 rk  x0 x1 x2 w) 82 [(0, vR x0), (1, vI x1), (2, vI x2)] [] w := by
  unfold j3_readNot_82
  refine WPe_aload_n (pc := 82) 0 (dd dtX3_readNot 42 rfl) rfl ?_
  refine WPe_iload_n (pc := 83) 2 (dd dtX3_readNot 43 rfl) rfl ?_
  refine WPe_ck fun h27 => ?_
  refine WPe_callV (pc := 84) (rtc := rtI) (Mc := mX3_goBehind) (d' := 2) (mc' := 0) (ms' := 0) [vI x2] [] rfl (dd dtX3_readNot 44 rfl) (okf3_goBehind x0 x2 w) moX3_goBehind miX3_goBehind (bw_mem1 184 rfl rfl) (Or.inl ⟨_, _, _, _, (shE h27), rfl⟩) rfl (Nat.le_of_ble_eq_true rfl) ⟨by show 2 + 1 ≤ 2 + n + 1; omega, by show 8 + (_ + 11) + 64 * 2 ≤ 64 * (2 + n + 1); have : mX3_goBehind.2.2.1 ≤ 45 := (Nat.le_of_ble_eq_true rfl); omega⟩ ⟨(Nat.le_of_ble_eq_true rfl), (Nat.le_of_ble_eq_true rfl)⟩ (fun z28 h29 e30 => ?_)
  refine WPe_st (st2 := [vI z28.1]) rfl ?_
  refine WPe_if_eq (pc := 87) 110 (dd dtX3_readNot 45 rfl) (by decide) (fun h31 => ?_) (fun h31 => ?_)
  · refine WPe_iconst (pc := 110) (0 : Int32) (dd dtX3_readNot 56 rfl) (by decide) ?_
    exact WPe_zreturn (pc := 111) (ty := .boolean) (dd dtX3_readNot 57 rfl) rfl rfl rfl ⟨(Nat.le_of_ble_eq_true rfl), (Nat.le_of_ble_eq_true rfl)⟩
  · refine WPe_aload_n (pc := 90) 0 (dd dtX3_readNot 46 rfl) rfl ?_
    refine WPe_iload_n (pc := 91) 1 (dd dtX3_readNot 47 rfl) rfl ?_
    refine WPe_callV (pc := 92) (rtc := rtI) (Mc := mX3_readSum) (d' := 2 + n) (mc' := 0) (ms' := 0) [vI x1] [] rfl (dd dtX3_readNot 48 rfl) (hrk (3, x0, x1) z28.2) moX3_readSum miX3_readSum (bw_mem1 208 rfl rfl) (Or.inl ⟨_, _, _, _, (e30.at (shE h27) (by decide)), rfl⟩) rfl (Nat.le_of_ble_eq_true rfl) ⟨by show 2 + n + 1 ≤ 2 + n + 1; omega, by show 8 + (_ + 11) + 64 * (2 + n) ≤ 64 * (2 + n + 1); have : mX3_readSum.2.2.1 ≤ 45 := (Nat.le_of_ble_eq_true rfl); omega⟩ ⟨(Nat.le_of_ble_eq_true rfl), (Nat.le_of_ble_eq_true rfl)⟩ (fun z32 h33 e34 => ?_)
    refine WPe_st (st2 := [vI z32.1]) rfl ?_
    refine WPe_if_eq (pc := 95) 110 (dd dtX3_readNot 49 rfl) (by decide) (fun h35 => ?_) (fun h35 => ?_)
    · refine WPe_iconst (pc := 110) (0 : Int32) (dd dtX3_readNot 56 rfl) (by decide) ?_
      exact WPe_zreturn (pc := 111) (ty := .boolean) (dd dtX3_readNot 57 rfl) rfl rfl rfl ⟨(Nat.le_of_ble_eq_true rfl), (Nat.le_of_ble_eq_true rfl)⟩
    · refine WPe_aload_n (pc := 98) 0 (dd dtX3_readNot 50 rfl) rfl ?_
      refine WPe_iload_n (pc := 99) 2 (dd dtX3_readNot 51 rfl) rfl ?_
      refine WPe_callV (pc := 100) (rtc := rtI) (Mc := mX3_addStep) (d' := 1) (mc' := 0) (ms' := 0) [vI x2] [] rfl (dd dtX3_readNot 52 rfl) (okf3_addStep x0 x2 z32.2) moX3_addStep miX3_addStep (bw_mem1 204 rfl rfl) (Or.inl ⟨_, _, _, _, (e34.at (e30.at (shE h27) (by decide)) (by decide)), rfl⟩) rfl (Nat.le_of_ble_eq_true rfl) ⟨by show 1 + 1 ≤ 2 + n + 1; omega, by show 8 + (_ + 11) + 64 * 1 ≤ 64 * (2 + n + 1); have : mX3_addStep.2.2.1 ≤ 45 := (Nat.le_of_ble_eq_true rfl); omega⟩ ⟨(Nat.le_of_ble_eq_true rfl), (Nat.le_of_ble_eq_true rfl)⟩ (fun z36 h37 e38 => ?_)
      refine WPe_st (st2 := [vI z36.1]) rfl ?_
      refine WPe_if_eq (pc := 103) 110 (dd dtX3_readNot 53 rfl) (by decide) (fun h39 => ?_) (fun h39 => ?_)
      · refine WPe_iconst (pc := 110) (0 : Int32) (dd dtX3_readNot 56 rfl) (by decide) ?_
        exact WPe_zreturn (pc := 111) (ty := .boolean) (dd dtX3_readNot 57 rfl) rfl rfl rfl ⟨(Nat.le_of_ble_eq_true rfl), (Nat.le_of_ble_eq_true rfl)⟩
      · refine WPe_iconst (pc := 106) (1 : Int32) (dd dtX3_readNot 54 rfl) (by decide) ?_
        refine WPe_goto (pc := 107) 111 (dd dtX3_readNot 55 rfl) (by decide) ?_
        exact WPe_zreturn (pc := 111) (ty := .boolean) (dd dtX3_readNot 57 rfl) rfl rfl rfl ⟨(Nat.le_of_ble_eq_true rfl), (Nat.le_of_ble_eq_true rfl)⟩
noncomputable def f3_readNot (rk : Nat × Nat × Int32 → Wd → Option (Int32 × Wd)) (x0 : Nat) (x1 : Int32) (w : Wd) : Option (Int32 × Wd) :=
  ck (tg w x0 = 3) ((f3_token x0 w).bind fun z2 => (if z2.1 = (10012 : Int32) then (if (5 : Int32) ≤ x1 then (some ((0 : Int32), z2.2)) else ((f3_goBehind x0 (10012 : Int32) z2.2).bind fun z7 => (if z7.1 = (0 : Int32) then (some ((0 : Int32), z7.2)) else ((rk (2, x0, (x1 + (1 : Int32))) z7.2).bind fun z11 => (if z11.1 = (0 : Int32) then (some ((0 : Int32), z11.2)) else ((f3_addStep x0 (10012 : Int32) z11.2).bind fun z15 => (if z15.1 = (0 : Int32) then (some ((0 : Int32), z15.2)) else (some ((1 : Int32), z15.2))))))))) else ((rk (3, x0, x1) z2.2).bind fun z19 => (if z19.1 = (0 : Int32) then (some ((0 : Int32), z19.2)) else ((f3_token x0 z19.2).bind fun z23 => (if z23.1 = (10014 : Int32) then (j3_readNot_82 rk x0 x1 z23.1 z23.2) else (if z23.1 = (10015 : Int32) then (j3_readNot_82 rk x0 x1 z23.1 z23.2) else (some ((1 : Int32), z23.2)))))))))
theorem wpf3_readNot (X : CX) (w0 : Wd) (n : Nat) (rk : Nat × Nat × Int32 → Wd → Option (Int32 × Wd)) (hrk : ∀ (v : Nat × Nat × Int32) (w : Wd) (z : Int32 × Wd), rk v w = some z → OkM (recM v.1) (2 + n) 0 0 [vR v.2.1, vI v.2.2] w (rtI z.1) z.2) (x0 : Nat) (x1 : Int32) (w : Wd) : WPe rtI X (mX3_readNot, (2 + n + 1), 0, 0, w0) 0 0 (f3_readNot rk x0 x1 w) 0 [(0, vR x0), (1, vI x1)] [] w := by
  unfold f3_readNot
  refine WPe_aload_n (pc := 0) 0 (dd dtX3_readNot 0 rfl) rfl ?_
  refine WPe_ck fun h1 => ?_
  refine WPe_callV (pc := 1) (rtc := rtI) (Mc := mX3_token) (d' := 1) (mc' := 0) (ms' := 0) [] [] rfl (dd dtX3_readNot 1 rfl) (okf3_token x0 w) moX3_token miX3_token (bw_mem1 188 rfl rfl) (Or.inl ⟨_, _, _, _, (shE h1), rfl⟩) rfl (Nat.le_of_ble_eq_true rfl) ⟨by show 1 + 1 ≤ 2 + n + 1; omega, by show 8 + (_ + 11) + 64 * 1 ≤ 64 * (2 + n + 1); have : mX3_token.2.2.1 ≤ 45 := (Nat.le_of_ble_eq_true rfl); omega⟩ ⟨(Nat.le_of_ble_eq_true rfl), (Nat.le_of_ble_eq_true rfl)⟩ (fun z2 h3 e4 => ?_)
  refine WPe_st (st2 := [vI z2.1]) rfl ?_
  refine WPe_sipush (pc := 4) (10012 : Int32) (dd dtX3_readNot 2 rfl) (by decide) ?_
  refine WPe_icmp_ne (pc := 7) 51 (dd dtX3_readNot 3 rfl) (by decide) (fun h5 => ?_) (fun h5 => ?_)
  · refine WPe_iload_n (pc := 10) 1 (dd dtX3_readNot 4 rfl) rfl ?_
    refine WPe_iconst (pc := 11) (5 : Int32) (dd dtX3_readNot 5 rfl) (by decide) ?_
    refine WPe_icmp_ge (pc := 12) 49 (dd dtX3_readNot 6 rfl) (by decide) (fun h6 => ?_) (fun h6 => ?_)
    · refine WPe_iconst (pc := 49) (0 : Int32) (dd dtX3_readNot 23 rfl) (by decide) ?_
      exact WPe_zreturn (pc := 50) (ty := .boolean) (dd dtX3_readNot 24 rfl) rfl rfl rfl ⟨(Nat.le_of_ble_eq_true rfl), (Nat.le_of_ble_eq_true rfl)⟩
    · refine WPe_aload_n (pc := 15) 0 (dd dtX3_readNot 7 rfl) rfl ?_
      refine WPe_sipush (pc := 16) (10012 : Int32) (dd dtX3_readNot 8 rfl) (by decide) ?_
      refine WPe_callV (pc := 19) (rtc := rtI) (Mc := mX3_goBehind) (d' := 2) (mc' := 0) (ms' := 0) [vI (10012 : Int32)] [] rfl (dd dtX3_readNot 9 rfl) (okf3_goBehind x0 (10012 : Int32) z2.2) moX3_goBehind miX3_goBehind (bw_mem1 184 rfl rfl) (Or.inl ⟨_, _, _, _, (e4.at (shE h1) (by decide)), rfl⟩) rfl (Nat.le_of_ble_eq_true rfl) ⟨by show 2 + 1 ≤ 2 + n + 1; omega, by show 8 + (_ + 11) + 64 * 2 ≤ 64 * (2 + n + 1); have : mX3_goBehind.2.2.1 ≤ 45 := (Nat.le_of_ble_eq_true rfl); omega⟩ ⟨(Nat.le_of_ble_eq_true rfl), (Nat.le_of_ble_eq_true rfl)⟩ (fun z7 h8 e9 => ?_)
      refine WPe_st (st2 := [vI z7.1]) rfl ?_
      refine WPe_if_eq (pc := 22) 49 (dd dtX3_readNot 10 rfl) (by decide) (fun h10 => ?_) (fun h10 => ?_)
      · refine WPe_iconst (pc := 49) (0 : Int32) (dd dtX3_readNot 23 rfl) (by decide) ?_
        exact WPe_zreturn (pc := 50) (ty := .boolean) (dd dtX3_readNot 24 rfl) rfl rfl rfl ⟨(Nat.le_of_ble_eq_true rfl), (Nat.le_of_ble_eq_true rfl)⟩
      · refine WPe_aload_n (pc := 25) 0 (dd dtX3_readNot 11 rfl) rfl ?_
        refine WPe_iload_n (pc := 26) 1 (dd dtX3_readNot 12 rfl) rfl ?_
        refine WPe_iconst (pc := 27) (1 : Int32) (dd dtX3_readNot 13 rfl) (by decide) ?_
        refine WPe_iadd (pc := 28) (dd dtX3_readNot 14 rfl) ?_
        refine WPe_callV (pc := 29) (rtc := rtI) (Mc := mX3_readNot) (d' := 2 + n) (mc' := 0) (ms' := 0) [vI (x1 + (1 : Int32))] [] rfl (dd dtX3_readNot 15 rfl) (hrk (2, x0, (x1 + (1 : Int32))) z7.2) moX3_readNot miX3_readNot (bw_mem1 200 rfl rfl) (Or.inl ⟨_, _, _, _, (e9.at (e4.at (shE h1) (by decide)) (by decide)), rfl⟩) rfl (Nat.le_of_ble_eq_true rfl) ⟨by show 2 + n + 1 ≤ 2 + n + 1; omega, by show 8 + (_ + 11) + 64 * (2 + n) ≤ 64 * (2 + n + 1); have : mX3_readNot.2.2.1 ≤ 45 := (Nat.le_of_ble_eq_true rfl); omega⟩ ⟨(Nat.le_of_ble_eq_true rfl), (Nat.le_of_ble_eq_true rfl)⟩ (fun z11 h12 e13 => ?_)
        refine WPe_st (st2 := [vI z11.1]) rfl ?_
        refine WPe_if_eq (pc := 32) 49 (dd dtX3_readNot 16 rfl) (by decide) (fun h14 => ?_) (fun h14 => ?_)
        · refine WPe_iconst (pc := 49) (0 : Int32) (dd dtX3_readNot 23 rfl) (by decide) ?_
          exact WPe_zreturn (pc := 50) (ty := .boolean) (dd dtX3_readNot 24 rfl) rfl rfl rfl ⟨(Nat.le_of_ble_eq_true rfl), (Nat.le_of_ble_eq_true rfl)⟩
        · refine WPe_aload_n (pc := 35) 0 (dd dtX3_readNot 17 rfl) rfl ?_
          refine WPe_sipush (pc := 36) (10012 : Int32) (dd dtX3_readNot 18 rfl) (by decide) ?_
          refine WPe_callV (pc := 39) (rtc := rtI) (Mc := mX3_addStep) (d' := 1) (mc' := 0) (ms' := 0) [vI (10012 : Int32)] [] rfl (dd dtX3_readNot 19 rfl) (okf3_addStep x0 (10012 : Int32) z11.2) moX3_addStep miX3_addStep (bw_mem1 204 rfl rfl) (Or.inl ⟨_, _, _, _, (e13.at (e9.at (e4.at (shE h1) (by decide)) (by decide)) (by decide)), rfl⟩) rfl (Nat.le_of_ble_eq_true rfl) ⟨by show 1 + 1 ≤ 2 + n + 1; omega, by show 8 + (_ + 11) + 64 * 1 ≤ 64 * (2 + n + 1); have : mX3_addStep.2.2.1 ≤ 45 := (Nat.le_of_ble_eq_true rfl); omega⟩ ⟨(Nat.le_of_ble_eq_true rfl), (Nat.le_of_ble_eq_true rfl)⟩ (fun z15 h16 e17 => ?_)
          refine WPe_st (st2 := [vI z15.1]) rfl ?_
          refine WPe_if_eq (pc := 42) 49 (dd dtX3_readNot 20 rfl) (by decide) (fun h18 => ?_) (fun h18 => ?_)
          · refine WPe_iconst (pc := 49) (0 : Int32) (dd dtX3_readNot 23 rfl) (by decide) ?_
            exact WPe_zreturn (pc := 50) (ty := .boolean) (dd dtX3_readNot 24 rfl) rfl rfl rfl ⟨(Nat.le_of_ble_eq_true rfl), (Nat.le_of_ble_eq_true rfl)⟩
          · refine WPe_iconst (pc := 45) (1 : Int32) (dd dtX3_readNot 21 rfl) (by decide) ?_
            refine WPe_goto (pc := 46) 50 (dd dtX3_readNot 22 rfl) (by decide) ?_
            exact WPe_zreturn (pc := 50) (ty := .boolean) (dd dtX3_readNot 24 rfl) rfl rfl rfl ⟨(Nat.le_of_ble_eq_true rfl), (Nat.le_of_ble_eq_true rfl)⟩
  · refine WPe_aload_n (pc := 51) 0 (dd dtX3_readNot 25 rfl) rfl ?_
    refine WPe_iload_n (pc := 52) 1 (dd dtX3_readNot 26 rfl) rfl ?_
    refine WPe_callV (pc := 53) (rtc := rtI) (Mc := mX3_readSum) (d' := 2 + n) (mc' := 0) (ms' := 0) [vI x1] [] rfl (dd dtX3_readNot 27 rfl) (hrk (3, x0, x1) z2.2) moX3_readSum miX3_readSum (bw_mem1 208 rfl rfl) (Or.inl ⟨_, _, _, _, (e4.at (shE h1) (by decide)), rfl⟩) rfl (Nat.le_of_ble_eq_true rfl) ⟨by show 2 + n + 1 ≤ 2 + n + 1; omega, by show 8 + (_ + 11) + 64 * (2 + n) ≤ 64 * (2 + n + 1); have : mX3_readSum.2.2.1 ≤ 45 := (Nat.le_of_ble_eq_true rfl); omega⟩ ⟨(Nat.le_of_ble_eq_true rfl), (Nat.le_of_ble_eq_true rfl)⟩ (fun z19 h20 e21 => ?_)
    refine WPe_st (st2 := [vI z19.1]) rfl ?_
    refine WPe_if_ne (pc := 56) 61 (dd dtX3_readNot 28 rfl) (by decide) (fun h22 => ?_) (fun h22 => ?_)
    · refine WPe_iconst (pc := 59) (0 : Int32) (dd dtX3_readNot 29 rfl) (by decide) ?_
      exact WPe_zreturn (pc := 60) (ty := .boolean) (dd dtX3_readNot 30 rfl) rfl rfl rfl ⟨(Nat.le_of_ble_eq_true rfl), (Nat.le_of_ble_eq_true rfl)⟩
    · refine WPe_aload_n (pc := 61) 0 (dd dtX3_readNot 31 rfl) rfl ?_
      refine WPe_callV (pc := 62) (rtc := rtI) (Mc := mX3_token) (d' := 1) (mc' := 0) (ms' := 0) [] [] rfl (dd dtX3_readNot 32 rfl) (okf3_token x0 z19.2) moX3_token miX3_token (bw_mem1 188 rfl rfl) (Or.inl ⟨_, _, _, _, (e21.at (e4.at (shE h1) (by decide)) (by decide)), rfl⟩) rfl (Nat.le_of_ble_eq_true rfl) ⟨by show 1 + 1 ≤ 2 + n + 1; omega, by show 8 + (_ + 11) + 64 * 1 ≤ 64 * (2 + n + 1); have : mX3_token.2.2.1 ≤ 45 := (Nat.le_of_ble_eq_true rfl); omega⟩ ⟨(Nat.le_of_ble_eq_true rfl), (Nat.le_of_ble_eq_true rfl)⟩ (fun z23 h24 e25 => ?_)
      refine WPe_st (st2 := [vI z23.1]) rfl ?_
      refine WPe_istore_n (pc := 65) (ls' := [(2, vI z23.1), (0, vR x0), (1, vI x1)]) (dd dtX3_readNot 33 rfl) (Nat.le_of_ble_eq_true rfl) rfl ?_
      refine WPe_iload_n (pc := 66) 0 (dd dtX3_readNot 34 rfl) rfl ?_
      refine WPe_sipush (pc := 67) (10014 : Int32) (dd dtX3_readNot 35 rfl) (by decide) ?_
      refine WPe_icmp_eq (pc := 70) 82 (dd dtX3_readNot 36 rfl) (by decide) (fun h26 => ?_) (fun h26 => ?_)
      · refine WPe_sub [1, 2, 0] rfl ?_
        exact wpj3_readNot_82 X w0 n rk hrk  x0 x1 z23.1 z23.2
      · refine WPe_iload_n (pc := 73) 0 (dd dtX3_readNot 37 rfl) rfl ?_
        refine WPe_sipush (pc := 74) (10015 : Int32) (dd dtX3_readNot 38 rfl) (by decide) ?_
        refine WPe_icmp_eq (pc := 77) 82 (dd dtX3_readNot 39 rfl) (by decide) (fun h40 => ?_) (fun h40 => ?_)
        · refine WPe_sub [1, 2, 0] rfl ?_
          exact wpj3_readNot_82 X w0 n rk hrk  x0 x1 z23.1 z23.2
        · refine WPe_iconst (pc := 80) (1 : Int32) (dd dtX3_readNot 40 rfl) (by decide) ?_
          exact WPe_zreturn (pc := 81) (ty := .boolean) (dd dtX3_readNot 41 rfl) rfl rfl rfl ⟨(Nat.le_of_ble_eq_true rfl), (Nat.le_of_ble_eq_true rfl)⟩
def tbX3_readSum : List (Nat × Instr × Nat) := [(0, .aload_n 0, 1), (1, .iload_n 1, 1), (2, .invokevirtual 156, 3), (5, .istore_n 2, 1), (6, .aload_n 0, 1), (7, .invokevirtual 135, 3), (10, .istore_n 3, 1), (11, .iconst 0, 1), (12, .istore 4, 2), (14, .iload 4, 2), (16, .sipush 160, 3), (19, .if_icmp .ge 62, 3), (22, .iload_n 2, 1), (23, .ifCond .eq 58, 3), (26, .iload_n 3, 1), (27, .sipush 10016, 3), (30, .if_icmp .eq 10, 3), (33, .iload_n 3, 1), (34, .sipush 10017, 3), (37, .if_icmp .ne 44, 3), (40, .aload_n 0, 1), (41, .iload_n 3, 1), (42, .invokevirtual 138, 3), (45, .ifCond .eq 23, 3), (48, .aload_n 0, 1), (49, .iload_n 1, 1), (50, .invokevirtual 156, 3), (53, .ifCond .eq 15, 3), (56, .aload_n 0, 1), (57, .iload_n 3, 1), (58, .invokevirtual 147, 3), (61, .ifCond .eq 7, 3), (64, .iconst 1, 1), (65, .goto 4, 3), (68, .iconst 0, 1), (69, .istore_n 2, 1), (70, .aload_n 0, 1), (71, .invokevirtual 135, 3), (74, .istore_n 3, 1), (75, .iinc 4 1, 3), (78, .goto (-64), 3), (81, .iload_n 2, 1), (82, .ireturn, 1)]
set_option maxRecDepth 20000 in
theorem dtX3_readSum : ∀ x ∈ tbX3_readSum, decode cX3_readSum x.1 = .ok x.2 := by decide +kernel
noncomputable def j3_readSum_69 (rk : Nat × Nat × Int32 → Wd → Option (Int32 × Wd)) (k14 : Nat × Int32 × Int32 × Int32 × Int32 → Wd → Option (Int32 × Wd)) (x0 : Nat) (x1 : Int32) (x4 : Int32) (s0 : Int32) (w : Wd) : Option (Int32 × Wd) :=
  ck (tg w x0 = 3) ((f3_token x0 w).bind fun z19 => (k14 (x0, x1, s0, z19.1, (x4 + (1 : Int32))) z19.2))
theorem wpj3_readSum_69 (X : CX) (w0 : Wd) (n : Nat) (rk : Nat × Nat × Int32 → Wd → Option (Int32 × Wd)) (hrk : ∀ (v : Nat × Nat × Int32) (w : Wd) (z : Int32 × Wd), rk v w = some z → OkM (recM v.1) (2 + n) 0 0 [vR v.2.1, vI v.2.2] w (rtI z.1) z.2) (k14 : Nat × Int32 × Int32 × Int32 × Int32 → Wd → Option (Int32 × Wd)) (hk14 : ∀ (v : Nat × Int32 × Int32 × Int32 × Int32) (w : Wd), WPe rtI X (mX3_readSum, (2 + n + 1), 0, 0, w0) 0 0 (k14 v w) 14 [(0, vR v.1), (1, vI v.2.1), (2, vI v.2.2.1), (3, vI v.2.2.2.1), (4, vI v.2.2.2.2)] [] w) (x0 : Nat) (x1 : Int32) (x4 : Int32) (s0 : Int32) (w : Wd) : WPe rtI X (mX3_readSum, (2 + n + 1), 0, 0, w0) 0 0 (j3_readSum_69 rk k14 x0 x1 x4 s0 w) 69 [(0, vR x0), (1, vI x1), (4, vI x4)] [vI s0] w := by
  unfold j3_readSum_69
  refine WPe_istore_n (pc := 69) (ls' := [(2, vI s0), (0, vR x0), (1, vI x1), (4, vI x4)]) (dd dtX3_readSum 35 rfl) (Nat.le_of_ble_eq_true rfl) rfl ?_
  refine WPe_aload_n (pc := 70) 1 (dd dtX3_readSum 36 rfl) rfl ?_
  refine WPe_ck fun h18 => ?_
  refine WPe_callV (pc := 71) (rtc := rtI) (Mc := mX3_token) (d' := 1) (mc' := 0) (ms' := 0) [] [] rfl (dd dtX3_readSum 37 rfl) (okf3_token x0 w) moX3_token miX3_token (bw_mem1 188 rfl rfl) (Or.inl ⟨_, _, _, _, (shE h18), rfl⟩) rfl (Nat.le_of_ble_eq_true rfl) ⟨by show 1 + 1 ≤ 2 + n + 1; omega, by show 8 + (_ + 11) + 64 * 1 ≤ 64 * (2 + n + 1); have : mX3_token.2.2.1 ≤ 45 := (Nat.le_of_ble_eq_true rfl); omega⟩ ⟨(Nat.le_of_ble_eq_true rfl), (Nat.le_of_ble_eq_true rfl)⟩ (fun z19 h20 e21 => ?_)
  refine WPe_st (st2 := [vI z19.1]) rfl ?_
  refine WPe_istore_n (pc := 74) (ls' := [(3, vI z19.1), (2, vI s0), (0, vR x0), (1, vI x1), (4, vI x4)]) (dd dtX3_readSum 38 rfl) (Nat.le_of_ble_eq_true rfl) rfl ?_
  refine WPe_iinc (pc := 75) (ls' := [(4, vI (x4 + (1 : Int32))), (3, vI z19.1), (2, vI s0), (0, vR x0), (1, vI x1)]) 4 (x4 + (1 : Int32)) (dd dtX3_readSum 39 rfl) rfl (congrArg (HAdd.hAdd _) (by decide : Int32.ofInt (1) = (1 : Int32))) (Nat.le_of_ble_eq_true rfl) rfl ?_
  refine WPe_goto (pc := 78) 14 (dd dtX3_readSum 40 rfl) (by decide) ?_
  refine WPe_sub [3, 4, 2, 1, 0] rfl ?_
  exact hk14 (x0, x1, s0, z19.1, (x4 + (1 : Int32))) z19.2
noncomputable def j3_readSum_68 (rk : Nat × Nat × Int32 → Wd → Option (Int32 × Wd)) (k14 : Nat × Int32 × Int32 × Int32 × Int32 → Wd → Option (Int32 × Wd)) (x0 : Nat) (x1 : Int32) (x4 : Int32) (w : Wd) : Option (Int32 × Wd) :=
  j3_readSum_69 rk k14 x0 x1 x4 (0 : Int32) w
theorem wpj3_readSum_68 (X : CX) (w0 : Wd) (n : Nat) (rk : Nat × Nat × Int32 → Wd → Option (Int32 × Wd)) (hrk : ∀ (v : Nat × Nat × Int32) (w : Wd) (z : Int32 × Wd), rk v w = some z → OkM (recM v.1) (2 + n) 0 0 [vR v.2.1, vI v.2.2] w (rtI z.1) z.2) (k14 : Nat × Int32 × Int32 × Int32 × Int32 → Wd → Option (Int32 × Wd)) (hk14 : ∀ (v : Nat × Int32 × Int32 × Int32 × Int32) (w : Wd), WPe rtI X (mX3_readSum, (2 + n + 1), 0, 0, w0) 0 0 (k14 v w) 14 [(0, vR v.1), (1, vI v.2.1), (2, vI v.2.2.1), (3, vI v.2.2.2.1), (4, vI v.2.2.2.2)] [] w) (x0 : Nat) (x1 : Int32) (x4 : Int32) (w : Wd) : WPe rtI X (mX3_readSum, (2 + n + 1), 0, 0, w0) 0 0 (j3_readSum_68 rk k14 x0 x1 x4 w) 68 [(0, vR x0), (1, vI x1), (4, vI x4)] [] w := by
  unfold j3_readSum_68
  refine WPe_iconst (pc := 68) (0 : Int32) (dd dtX3_readSum 34 rfl) (by decide) ?_
  refine WPe_sub [0, 1, 2] rfl ?_
  exact wpj3_readSum_69 X w0 n rk hrk k14 hk14 x0 x1 x4 (0 : Int32) w
noncomputable def j3_readSum_40 (rk : Nat × Nat × Int32 → Wd → Option (Int32 × Wd)) (k14 : Nat × Int32 × Int32 × Int32 × Int32 → Wd → Option (Int32 × Wd)) (x0 : Nat) (x1 : Int32) (x3 : Int32) (x4 : Int32) (w : Wd) : Option (Int32 × Wd) :=
  ck (tg w x0 = 3) ((f3_goBehind x0 x3 w).bind fun z14 => (if z14.1 = (0 : Int32) then (j3_readSum_68 rk k14 x0 x1 x4 z14.2) else ((rk (4, x0, x1) z14.2).bind fun z22 => (if z22.1 = (0 : Int32) then (j3_readSum_68 rk k14 x0 x1 x4 z22.2) else ((f3_addStep x0 x3 z22.2).bind fun z26 => (if z26.1 = (0 : Int32) then (j3_readSum_68 rk k14 x0 x1 x4 z26.2) else (j3_readSum_69 rk k14 x0 x1 x4 (1 : Int32) z26.2)))))))
theorem wpj3_readSum_40 (X : CX) (w0 : Wd) (n : Nat) (rk : Nat × Nat × Int32 → Wd → Option (Int32 × Wd)) (hrk : ∀ (v : Nat × Nat × Int32) (w : Wd) (z : Int32 × Wd), rk v w = some z → OkM (recM v.1) (2 + n) 0 0 [vR v.2.1, vI v.2.2] w (rtI z.1) z.2) (k14 : Nat × Int32 × Int32 × Int32 × Int32 → Wd → Option (Int32 × Wd)) (hk14 : ∀ (v : Nat × Int32 × Int32 × Int32 × Int32) (w : Wd), WPe rtI X (mX3_readSum, (2 + n + 1), 0, 0, w0) 0 0 (k14 v w) 14 [(0, vR v.1), (1, vI v.2.1), (2, vI v.2.2.1), (3, vI v.2.2.2.1), (4, vI v.2.2.2.2)] [] w) (x0 : Nat) (x1 : Int32) (x3 : Int32) (x4 : Int32) (w : Wd) : WPe rtI X (mX3_readSum, (2 + n + 1), 0, 0, w0) 0 0 (j3_readSum_40 rk k14 x0 x1 x3 x4 w) 40 [(0, vR x0), (1, vI x1), (3, vI x3), (4, vI x4)] [] w := by
  unfold j3_readSum_40
  refine WPe_aload_n (pc := 40) 0 (dd dtX3_readSum 20 rfl) rfl ?_
  refine WPe_iload_n (pc := 41) 2 (dd dtX3_readSum 21 rfl) rfl ?_
  refine WPe_ck fun h13 => ?_
  refine WPe_callV (pc := 42) (rtc := rtI) (Mc := mX3_goBehind) (d' := 2) (mc' := 0) (ms' := 0) [vI x3] [] rfl (dd dtX3_readSum 22 rfl) (okf3_goBehind x0 x3 w) moX3_goBehind miX3_goBehind (bw_mem1 184 rfl rfl) (Or.inl ⟨_, _, _, _, (shE h13), rfl⟩) rfl (Nat.le_of_ble_eq_true rfl) ⟨by show 2 + 1 ≤ 2 + n + 1; omega, by show 8 + (_ + 11) + 64 * 2 ≤ 64 * (2 + n + 1); have : mX3_goBehind.2.2.1 ≤ 45 := (Nat.le_of_ble_eq_true rfl); omega⟩ ⟨(Nat.le_of_ble_eq_true rfl), (Nat.le_of_ble_eq_true rfl)⟩ (fun z14 h15 e16 => ?_)
  refine WPe_st (st2 := [vI z14.1]) rfl ?_
  refine WPe_if_eq (pc := 45) 68 (dd dtX3_readSum 23 rfl) (by decide) (fun h17 => ?_) (fun h17 => ?_)
  · refine WPe_sub [0, 1, 3] rfl ?_
    exact wpj3_readSum_68 X w0 n rk hrk k14 hk14 x0 x1 x4 z14.2
  · refine WPe_aload_n (pc := 48) 0 (dd dtX3_readSum 24 rfl) rfl ?_
    refine WPe_iload_n (pc := 49) 1 (dd dtX3_readSum 25 rfl) rfl ?_
    refine WPe_callV (pc := 50) (rtc := rtI) (Mc := mX3_readTerm) (d' := 2 + n) (mc' := 0) (ms' := 0) [vI x1] [] rfl (dd dtX3_readSum 26 rfl) (hrk (4, x0, x1) z14.2) moX3_readTerm miX3_readTerm (bw_mem1 212 rfl rfl) (Or.inl ⟨_, _, _, _, (e16.at (shE h13) (by decide)), rfl⟩) rfl (Nat.le_of_ble_eq_true rfl) ⟨by show 2 + n + 1 ≤ 2 + n + 1; omega, by show 8 + (_ + 11) + 64 * (2 + n) ≤ 64 * (2 + n + 1); have : mX3_readTerm.2.2.1 ≤ 45 := (Nat.le_of_ble_eq_true rfl); omega⟩ ⟨(Nat.le_of_ble_eq_true rfl), (Nat.le_of_ble_eq_true rfl)⟩ (fun z22 h23 e24 => ?_)
    refine WPe_st (st2 := [vI z22.1]) rfl ?_
    refine WPe_if_eq (pc := 53) 68 (dd dtX3_readSum 27 rfl) (by decide) (fun h25 => ?_) (fun h25 => ?_)
    · refine WPe_sub [0, 1, 3] rfl ?_
      exact wpj3_readSum_68 X w0 n rk hrk k14 hk14 x0 x1 x4 z22.2
    · refine WPe_aload_n (pc := 56) 0 (dd dtX3_readSum 28 rfl) rfl ?_
      refine WPe_iload_n (pc := 57) 2 (dd dtX3_readSum 29 rfl) rfl ?_
      refine WPe_callV (pc := 58) (rtc := rtI) (Mc := mX3_addStep) (d' := 1) (mc' := 0) (ms' := 0) [vI x3] [] rfl (dd dtX3_readSum 30 rfl) (okf3_addStep x0 x3 z22.2) moX3_addStep miX3_addStep (bw_mem1 204 rfl rfl) (Or.inl ⟨_, _, _, _, (e24.at (e16.at (shE h13) (by decide)) (by decide)), rfl⟩) rfl (Nat.le_of_ble_eq_true rfl) ⟨by show 1 + 1 ≤ 2 + n + 1; omega, by show 8 + (_ + 11) + 64 * 1 ≤ 64 * (2 + n + 1); have : mX3_addStep.2.2.1 ≤ 45 := (Nat.le_of_ble_eq_true rfl); omega⟩ ⟨(Nat.le_of_ble_eq_true rfl), (Nat.le_of_ble_eq_true rfl)⟩ (fun z26 h27 e28 => ?_)
      refine WPe_st (st2 := [vI z26.1]) rfl ?_
      refine WPe_if_eq (pc := 61) 68 (dd dtX3_readSum 31 rfl) (by decide) (fun h29 => ?_) (fun h29 => ?_)
      · refine WPe_sub [0, 1, 3] rfl ?_
        exact wpj3_readSum_68 X w0 n rk hrk k14 hk14 x0 x1 x4 z26.2
      · refine WPe_iconst (pc := 64) (1 : Int32) (dd dtX3_readSum 32 rfl) (by decide) ?_
        refine WPe_goto (pc := 65) 69 (dd dtX3_readSum 33 rfl) (by decide) ?_
        refine WPe_sub [0, 1, 3] rfl ?_
        exact wpj3_readSum_69 X w0 n rk hrk k14 hk14 x0 x1 x4 (1 : Int32) z26.2
noncomputable def b3_readSum_14 (rk : Nat × Nat × Int32 → Wd → Option (Int32 × Wd)) (k14 : Nat × Int32 × Int32 × Int32 × Int32 → Wd → Option (Int32 × Wd)) (v : Nat × Int32 × Int32 × Int32 × Int32) (w : Wd) : Option (Int32 × Wd) :=
  if (160 : Int32) ≤ v.2.2.2.2 then (ck (isB v.2.2.1) (some (v.2.2.1, w))) else (if v.2.2.1 = (0 : Int32) then (ck (isB v.2.2.1) (some (v.2.2.1, w))) else (if v.2.2.2.1 = (10016 : Int32) then (j3_readSum_40 rk k14 v.1 v.2.1 v.2.2.2.1 v.2.2.2.2 w) else (if v.2.2.2.1 = (10017 : Int32) then (j3_readSum_40 rk k14 v.1 v.2.1 v.2.2.2.1 v.2.2.2.2 w) else (ck (isB v.2.2.1) (some (v.2.2.1, w))))))
theorem wpb3_readSum_14 (X : CX) (w0 : Wd) (n : Nat) (rk : Nat × Nat × Int32 → Wd → Option (Int32 × Wd)) (hrk : ∀ (v : Nat × Nat × Int32) (w : Wd) (z : Int32 × Wd), rk v w = some z → OkM (recM v.1) (2 + n) 0 0 [vR v.2.1, vI v.2.2] w (rtI z.1) z.2) (k14 : Nat × Int32 × Int32 × Int32 × Int32 → Wd → Option (Int32 × Wd)) (hk14 : ∀ (v : Nat × Int32 × Int32 × Int32 × Int32) (w : Wd), WPe rtI X (mX3_readSum, (2 + n + 1), 0, 0, w0) 0 0 (k14 v w) 14 [(0, vR v.1), (1, vI v.2.1), (2, vI v.2.2.1), (3, vI v.2.2.2.1), (4, vI v.2.2.2.2)] [] w) (v : Nat × Int32 × Int32 × Int32 × Int32) (w : Wd) : WPe rtI X (mX3_readSum, (2 + n + 1), 0, 0, w0) 0 0 (b3_readSum_14 rk k14 v w) 14 [(0, vR v.1), (1, vI v.2.1), (2, vI v.2.2.1), (3, vI v.2.2.2.1), (4, vI v.2.2.2.2)] [] w := by
  unfold b3_readSum_14
  refine WPe_iload (pc := 14) 4 (dd dtX3_readSum 9 rfl) rfl ?_
  refine WPe_sipush (pc := 16) (160 : Int32) (dd dtX3_readSum 10 rfl) (by decide) ?_
  refine WPe_icmp_ge (pc := 19) 81 (dd dtX3_readSum 11 rfl) (by decide) (fun h8 => ?_) (fun h8 => ?_)
  · refine WPe_iload_n (pc := 81) 2 (dd dtX3_readSum 41 rfl) rfl ?_
    refine WPe_ck fun h9 => ?_
    exact WPe_zreturn (pc := 82) (ty := .boolean) (dd dtX3_readSum 42 rfl) rfl rfl (isB_nar h9) ⟨(Nat.le_of_ble_eq_true rfl), (Nat.le_of_ble_eq_true rfl)⟩
  · refine WPe_iload_n (pc := 22) 2 (dd dtX3_readSum 12 rfl) rfl ?_
    refine WPe_if_eq (pc := 23) 81 (dd dtX3_readSum 13 rfl) (by decide) (fun h10 => ?_) (fun h10 => ?_)
    · refine WPe_iload_n (pc := 81) 2 (dd dtX3_readSum 41 rfl) rfl ?_
      refine WPe_ck fun h11 => ?_
      exact WPe_zreturn (pc := 82) (ty := .boolean) (dd dtX3_readSum 42 rfl) rfl rfl (isB_nar h11) ⟨(Nat.le_of_ble_eq_true rfl), (Nat.le_of_ble_eq_true rfl)⟩
    · refine WPe_iload_n (pc := 26) 3 (dd dtX3_readSum 14 rfl) rfl ?_
      refine WPe_sipush (pc := 27) (10016 : Int32) (dd dtX3_readSum 15 rfl) (by decide) ?_
      refine WPe_icmp_eq (pc := 30) 40 (dd dtX3_readSum 16 rfl) (by decide) (fun h12 => ?_) (fun h12 => ?_)
      · refine WPe_sub [0, 1, 3, 4] rfl ?_
        exact wpj3_readSum_40 X w0 n rk hrk k14 hk14 v.1 v.2.1 v.2.2.2.1 v.2.2.2.2 w
      · refine WPe_iload_n (pc := 33) 3 (dd dtX3_readSum 17 rfl) rfl ?_
        refine WPe_sipush (pc := 34) (10017 : Int32) (dd dtX3_readSum 18 rfl) (by decide) ?_
        refine WPe_icmp_ne (pc := 37) 81 (dd dtX3_readSum 19 rfl) (by decide) (fun h30 => ?_) (fun h30 => ?_)
        · refine WPe_sub [0, 1, 3, 4] rfl ?_
          exact wpj3_readSum_40 X w0 n rk hrk k14 hk14 v.1 v.2.1 v.2.2.2.1 v.2.2.2.2 w
        · refine WPe_iload_n (pc := 81) 2 (dd dtX3_readSum 41 rfl) rfl ?_
          refine WPe_ck fun h31 => ?_
          exact WPe_zreturn (pc := 82) (ty := .boolean) (dd dtX3_readSum 42 rfl) rfl rfl (isB_nar h31) ⟨(Nat.le_of_ble_eq_true rfl), (Nat.le_of_ble_eq_true rfl)⟩
theorem wplb3_readSum_14 (X : CX) (w0 : Wd) (n : Nat) (rk : Nat × Nat × Int32 → Wd → Option (Int32 × Wd)) (hrk : ∀ (v : Nat × Nat × Int32) (w : Wd) (z : Int32 × Wd), rk v w = some z → OkM (recM v.1) (2 + n) 0 0 [vR v.2.1, vI v.2.2] w (rtI z.1) z.2)  : ∀ (n9 : Nat) (v : Nat × Int32 × Int32 × Int32 × Int32) (w : Wd), WPe rtI X (mX3_readSum, (2 + n + 1), 0, 0, w0) 0 0 (loopF (b3_readSum_14 rk ) n9 v w) 14 [(0, vR v.1), (1, vI v.2.1), (2, vI v.2.2.1), (3, vI v.2.2.2.1), (4, vI v.2.2.2.2)] [] w :=
  WPe_loop (rt := rtI) (X := X) (M := (mX3_readSum, (2 + n + 1), 0, 0, w0)) (fun v : Nat × Int32 × Int32 × Int32 × Int32 => [(0, vR v.1), (1, vI v.2.1), (2, vI v.2.2.1), (3, vI v.2.2.2.1), (4, vI v.2.2.2.2)]) (fun k hk v w => wpb3_readSum_14 X w0 n rk hrk  k hk v w)
noncomputable def f3_readSum (rk : Nat × Nat × Int32 → Wd → Option (Int32 × Wd)) (x0 : Nat) (x1 : Int32) (w : Wd) : Option (Int32 × Wd) :=
  ck (tg w x0 = 3) ((rk (4, x0, x1) w).bind fun z2 => ((f3_token x0 z2.2).bind fun z5 => (loopF (b3_readSum_14 rk) FU (x0, x1, z2.1, z5.1, (0 : Int32)) z5.2)))
theorem wpf3_readSum (X : CX) (w0 : Wd) (n : Nat) (rk : Nat × Nat × Int32 → Wd → Option (Int32 × Wd)) (hrk : ∀ (v : Nat × Nat × Int32) (w : Wd) (z : Int32 × Wd), rk v w = some z → OkM (recM v.1) (2 + n) 0 0 [vR v.2.1, vI v.2.2] w (rtI z.1) z.2) (x0 : Nat) (x1 : Int32) (w : Wd) : WPe rtI X (mX3_readSum, (2 + n + 1), 0, 0, w0) 0 0 (f3_readSum rk x0 x1 w) 0 [(0, vR x0), (1, vI x1)] [] w := by
  unfold f3_readSum
  refine WPe_aload_n (pc := 0) 0 (dd dtX3_readSum 0 rfl) rfl ?_
  refine WPe_iload_n (pc := 1) 1 (dd dtX3_readSum 1 rfl) rfl ?_
  refine WPe_ck fun h1 => ?_
  refine WPe_callV (pc := 2) (rtc := rtI) (Mc := mX3_readTerm) (d' := 2 + n) (mc' := 0) (ms' := 0) [vI x1] [] rfl (dd dtX3_readSum 2 rfl) (hrk (4, x0, x1) w) moX3_readTerm miX3_readTerm (bw_mem1 212 rfl rfl) (Or.inl ⟨_, _, _, _, (shE h1), rfl⟩) rfl (Nat.le_of_ble_eq_true rfl) ⟨by show 2 + n + 1 ≤ 2 + n + 1; omega, by show 8 + (_ + 11) + 64 * (2 + n) ≤ 64 * (2 + n + 1); have : mX3_readTerm.2.2.1 ≤ 45 := (Nat.le_of_ble_eq_true rfl); omega⟩ ⟨(Nat.le_of_ble_eq_true rfl), (Nat.le_of_ble_eq_true rfl)⟩ (fun z2 h3 e4 => ?_)
  refine WPe_st (st2 := [vI z2.1]) rfl ?_
  refine WPe_istore_n (pc := 5) (ls' := [(2, vI z2.1), (0, vR x0), (1, vI x1)]) (dd dtX3_readSum 3 rfl) (Nat.le_of_ble_eq_true rfl) rfl ?_
  refine WPe_aload_n (pc := 6) 1 (dd dtX3_readSum 4 rfl) rfl ?_
  refine WPe_callV (pc := 7) (rtc := rtI) (Mc := mX3_token) (d' := 1) (mc' := 0) (ms' := 0) [] [] rfl (dd dtX3_readSum 5 rfl) (okf3_token x0 z2.2) moX3_token miX3_token (bw_mem1 188 rfl rfl) (Or.inl ⟨_, _, _, _, (e4.at (shE h1) (by decide)), rfl⟩) rfl (Nat.le_of_ble_eq_true rfl) ⟨by show 1 + 1 ≤ 2 + n + 1; omega, by show 8 + (_ + 11) + 64 * 1 ≤ 64 * (2 + n + 1); have : mX3_token.2.2.1 ≤ 45 := (Nat.le_of_ble_eq_true rfl); omega⟩ ⟨(Nat.le_of_ble_eq_true rfl), (Nat.le_of_ble_eq_true rfl)⟩ (fun z5 h6 e7 => ?_)
  refine WPe_st (st2 := [vI z5.1]) rfl ?_
  refine WPe_istore_n (pc := 10) (ls' := [(3, vI z5.1), (2, vI z2.1), (0, vR x0), (1, vI x1)]) (dd dtX3_readSum 6 rfl) (Nat.le_of_ble_eq_true rfl) rfl ?_
  refine WPe_iconst (pc := 11) (0 : Int32) (dd dtX3_readSum 7 rfl) (by decide) ?_
  refine WPe_istore (pc := 12) (ls' := [(4, vI (0 : Int32)), (3, vI z5.1), (2, vI z2.1), (0, vR x0), (1, vI x1)]) (dd dtX3_readSum 8 rfl) (Nat.le_of_ble_eq_true rfl) rfl ?_
  refine WPe_sub [3, 4, 2, 1, 0] rfl ?_
  exact wplb3_readSum_14 X w0 n rk hrk  FU _ _
def tbX3_readTerm : List (Nat × Instr × Nat) := [(0, .aload_n 0, 1), (1, .iload_n 1, 1), (2, .invokevirtual 159, 3), (5, .istore_n 2, 1), (6, .iconst 0, 1), (7, .istore_n 3, 1), (8, .iload_n 3, 1), (9, .sipush 160, 3), (12, .if_icmp .ge 47, 3), (15, .iload_n 2, 1), (16, .ifCond .eq 43, 3), (19, .aload_n 0, 1), (20, .sipush 10018, 3), (23, .invokevirtual 138, 3), (26, .ifCond .eq 33, 3), (29, .aload_n 0, 1), (30, .iload_n 1, 1), (31, .invokevirtual 159, 3), (34, .ifCond .eq 17, 3), (37, .aload_n 0, 1), (38, .sipush 10018, 3), (41, .invokevirtual 147, 3), (44, .ifCond .eq 7, 3), (47, .iconst 1, 1), (48, .goto 4, 3), (51, .iconst 0, 1), (52, .istore_n 2, 1), (53, .iinc 3 1, 3), (56, .goto (-48), 3), (59, .iload_n 2, 1), (60, .ireturn, 1)]
set_option maxRecDepth 20000 in
theorem dtX3_readTerm : ∀ x ∈ tbX3_readTerm, decode cX3_readTerm x.1 = .ok x.2 := by decide +kernel
noncomputable def j3_readTerm_52 (rk : Nat × Nat × Int32 → Wd → Option (Int32 × Wd)) (k8 : Nat × Int32 × Int32 × Int32 → Wd → Option (Int32 × Wd)) (x0 : Nat) (x1 : Int32) (x3 : Int32) (s0 : Int32) (w : Wd) : Option (Int32 × Wd) :=
  k8 (x0, x1, s0, (x3 + (1 : Int32))) w
theorem wpj3_readTerm_52 (X : CX) (w0 : Wd) (n : Nat) (rk : Nat × Nat × Int32 → Wd → Option (Int32 × Wd)) (hrk : ∀ (v : Nat × Nat × Int32) (w : Wd) (z : Int32 × Wd), rk v w = some z → OkM (recM v.1) (2 + n) 0 0 [vR v.2.1, vI v.2.2] w (rtI z.1) z.2) (k8 : Nat × Int32 × Int32 × Int32 → Wd → Option (Int32 × Wd)) (hk8 : ∀ (v : Nat × Int32 × Int32 × Int32) (w : Wd), WPe rtI X (mX3_readTerm, (2 + n + 1), 0, 0, w0) 0 0 (k8 v w) 8 [(0, vR v.1), (1, vI v.2.1), (2, vI v.2.2.1), (3, vI v.2.2.2)] [] w) (x0 : Nat) (x1 : Int32) (x3 : Int32) (s0 : Int32) (w : Wd) : WPe rtI X (mX3_readTerm, (2 + n + 1), 0, 0, w0) 0 0 (j3_readTerm_52 rk k8 x0 x1 x3 s0 w) 52 [(0, vR x0), (1, vI x1), (3, vI x3)] [vI s0] w := by
  unfold j3_readTerm_52
  refine WPe_istore_n (pc := 52) (ls' := [(2, vI s0), (0, vR x0), (1, vI x1), (3, vI x3)]) (dd dtX3_readTerm 26 rfl) (Nat.le_of_ble_eq_true rfl) rfl ?_
  refine WPe_iinc (pc := 53) (ls' := [(3, vI (x3 + (1 : Int32))), (2, vI s0), (0, vR x0), (1, vI x1)]) 3 (x3 + (1 : Int32)) (dd dtX3_readTerm 27 rfl) rfl (congrArg (HAdd.hAdd _) (by decide : Int32.ofInt (1) = (1 : Int32))) (Nat.le_of_ble_eq_true rfl) rfl ?_
  refine WPe_goto (pc := 56) 8 (dd dtX3_readTerm 28 rfl) (by decide) ?_
  refine WPe_sub [2, 3, 1, 0] rfl ?_
  exact hk8 (x0, x1, s0, (x3 + (1 : Int32))) w
noncomputable def j3_readTerm_51 (rk : Nat × Nat × Int32 → Wd → Option (Int32 × Wd)) (k8 : Nat × Int32 × Int32 × Int32 → Wd → Option (Int32 × Wd)) (x0 : Nat) (x1 : Int32) (x3 : Int32) (w : Wd) : Option (Int32 × Wd) :=
  j3_readTerm_52 rk k8 x0 x1 x3 (0 : Int32) w
theorem wpj3_readTerm_51 (X : CX) (w0 : Wd) (n : Nat) (rk : Nat × Nat × Int32 → Wd → Option (Int32 × Wd)) (hrk : ∀ (v : Nat × Nat × Int32) (w : Wd) (z : Int32 × Wd), rk v w = some z → OkM (recM v.1) (2 + n) 0 0 [vR v.2.1, vI v.2.2] w (rtI z.1) z.2) (k8 : Nat × Int32 × Int32 × Int32 → Wd → Option (Int32 × Wd)) (hk8 : ∀ (v : Nat × Int32 × Int32 × Int32) (w : Wd), WPe rtI X (mX3_readTerm, (2 + n + 1), 0, 0, w0) 0 0 (k8 v w) 8 [(0, vR v.1), (1, vI v.2.1), (2, vI v.2.2.1), (3, vI v.2.2.2)] [] w) (x0 : Nat) (x1 : Int32) (x3 : Int32) (w : Wd) : WPe rtI X (mX3_readTerm, (2 + n + 1), 0, 0, w0) 0 0 (j3_readTerm_51 rk k8 x0 x1 x3 w) 51 [(0, vR x0), (1, vI x1), (3, vI x3)] [] w := by
  unfold j3_readTerm_51
  refine WPe_iconst (pc := 51) (0 : Int32) (dd dtX3_readTerm 25 rfl) (by decide) ?_
  refine WPe_sub [0, 1, 2] rfl ?_
  exact wpj3_readTerm_52 X w0 n rk hrk k8 hk8 x0 x1 x3 (0 : Int32) w
noncomputable def b3_readTerm_8 (rk : Nat × Nat × Int32 → Wd → Option (Int32 × Wd)) (k8 : Nat × Int32 × Int32 × Int32 → Wd → Option (Int32 × Wd)) (v : Nat × Int32 × Int32 × Int32) (w : Wd) : Option (Int32 × Wd) :=
  if (160 : Int32) ≤ v.2.2.2 then (ck (isB v.2.2.1) (some (v.2.2.1, w))) else (if v.2.2.1 = (0 : Int32) then (ck (isB v.2.2.1) (some (v.2.2.1, w))) else (ck (tg w v.1 = 3) ((f3_goBehind v.1 (10018 : Int32) w).bind fun z10 => (if z10.1 = (0 : Int32) then (ck (isB v.2.2.1) (some (v.2.2.1, z10.2))) else ((rk (5, v.1, v.2.1) z10.2).bind fun z15 => (if z15.1 = (0 : Int32) then (j3_readTerm_51 rk k8 v.1 v.2.1 v.2.2.2 z15.2) else ((f3_addStep v.1 (10018 : Int32) z15.2).bind fun z19 => (if z19.1 = (0 : Int32) then (j3_readTerm_51 rk k8 v.1 v.2.1 v.2.2.2 z19.2) else (j3_readTerm_52 rk k8 v.1 v.2.1 v.2.2.2 (1 : Int32) z19.2)))))))))
theorem wpb3_readTerm_8 (X : CX) (w0 : Wd) (n : Nat) (rk : Nat × Nat × Int32 → Wd → Option (Int32 × Wd)) (hrk : ∀ (v : Nat × Nat × Int32) (w : Wd) (z : Int32 × Wd), rk v w = some z → OkM (recM v.1) (2 + n) 0 0 [vR v.2.1, vI v.2.2] w (rtI z.1) z.2) (k8 : Nat × Int32 × Int32 × Int32 → Wd → Option (Int32 × Wd)) (hk8 : ∀ (v : Nat × Int32 × Int32 × Int32) (w : Wd), WPe rtI X (mX3_readTerm, (2 + n + 1), 0, 0, w0) 0 0 (k8 v w) 8 [(0, vR v.1), (1, vI v.2.1), (2, vI v.2.2.1), (3, vI v.2.2.2)] [] w) (v : Nat × Int32 × Int32 × Int32) (w : Wd) : WPe rtI X (mX3_readTerm, (2 + n + 1), 0, 0, w0) 0 0 (b3_readTerm_8 rk k8 v w) 8 [(0, vR v.1), (1, vI v.2.1), (2, vI v.2.2.1), (3, vI v.2.2.2)] [] w := by
  unfold b3_readTerm_8
  refine WPe_iload_n (pc := 8) 3 (dd dtX3_readTerm 6 rfl) rfl ?_
  refine WPe_sipush (pc := 9) (160 : Int32) (dd dtX3_readTerm 7 rfl) (by decide) ?_
  refine WPe_icmp_ge (pc := 12) 59 (dd dtX3_readTerm 8 rfl) (by decide) (fun h5 => ?_) (fun h5 => ?_)
  · refine WPe_iload_n (pc := 59) 2 (dd dtX3_readTerm 29 rfl) rfl ?_
    refine WPe_ck fun h6 => ?_
    exact WPe_zreturn (pc := 60) (ty := .boolean) (dd dtX3_readTerm 30 rfl) rfl rfl (isB_nar h6) ⟨(Nat.le_of_ble_eq_true rfl), (Nat.le_of_ble_eq_true rfl)⟩
  · refine WPe_iload_n (pc := 15) 2 (dd dtX3_readTerm 9 rfl) rfl ?_
    refine WPe_if_eq (pc := 16) 59 (dd dtX3_readTerm 10 rfl) (by decide) (fun h7 => ?_) (fun h7 => ?_)
    · refine WPe_iload_n (pc := 59) 2 (dd dtX3_readTerm 29 rfl) rfl ?_
      refine WPe_ck fun h8 => ?_
      exact WPe_zreturn (pc := 60) (ty := .boolean) (dd dtX3_readTerm 30 rfl) rfl rfl (isB_nar h8) ⟨(Nat.le_of_ble_eq_true rfl), (Nat.le_of_ble_eq_true rfl)⟩
    · refine WPe_aload_n (pc := 19) 0 (dd dtX3_readTerm 11 rfl) rfl ?_
      refine WPe_sipush (pc := 20) (10018 : Int32) (dd dtX3_readTerm 12 rfl) (by decide) ?_
      refine WPe_ck fun h9 => ?_
      refine WPe_callV (pc := 23) (rtc := rtI) (Mc := mX3_goBehind) (d' := 2) (mc' := 0) (ms' := 0) [vI (10018 : Int32)] [] rfl (dd dtX3_readTerm 13 rfl) (okf3_goBehind v.1 (10018 : Int32) w) moX3_goBehind miX3_goBehind (bw_mem1 184 rfl rfl) (Or.inl ⟨_, _, _, _, (shE h9), rfl⟩) rfl (Nat.le_of_ble_eq_true rfl) ⟨by show 2 + 1 ≤ 2 + n + 1; omega, by show 8 + (_ + 11) + 64 * 2 ≤ 64 * (2 + n + 1); have : mX3_goBehind.2.2.1 ≤ 45 := (Nat.le_of_ble_eq_true rfl); omega⟩ ⟨(Nat.le_of_ble_eq_true rfl), (Nat.le_of_ble_eq_true rfl)⟩ (fun z10 h11 e12 => ?_)
      refine WPe_st (st2 := [vI z10.1]) rfl ?_
      refine WPe_if_eq (pc := 26) 59 (dd dtX3_readTerm 14 rfl) (by decide) (fun h13 => ?_) (fun h13 => ?_)
      · refine WPe_iload_n (pc := 59) 2 (dd dtX3_readTerm 29 rfl) rfl ?_
        refine WPe_ck fun h14 => ?_
        exact WPe_zreturn (pc := 60) (ty := .boolean) (dd dtX3_readTerm 30 rfl) rfl rfl (isB_nar h14) ⟨(Nat.le_of_ble_eq_true rfl), (Nat.le_of_ble_eq_true rfl)⟩
      · refine WPe_aload_n (pc := 29) 0 (dd dtX3_readTerm 15 rfl) rfl ?_
        refine WPe_iload_n (pc := 30) 1 (dd dtX3_readTerm 16 rfl) rfl ?_
        refine WPe_callV (pc := 31) (rtc := rtI) (Mc := mX3_readOne) (d' := 2 + n) (mc' := 0) (ms' := 0) [vI v.2.1] [] rfl (dd dtX3_readTerm 17 rfl) (hrk (5, v.1, v.2.1) z10.2) moX3_readOne miX3_readOne (bw_mem1 216 rfl rfl) (Or.inl ⟨_, _, _, _, (e12.at (shE h9) (by decide)), rfl⟩) rfl (Nat.le_of_ble_eq_true rfl) ⟨by show 2 + n + 1 ≤ 2 + n + 1; omega, by show 8 + (_ + 11) + 64 * (2 + n) ≤ 64 * (2 + n + 1); have : mX3_readOne.2.2.1 ≤ 45 := (Nat.le_of_ble_eq_true rfl); omega⟩ ⟨(Nat.le_of_ble_eq_true rfl), (Nat.le_of_ble_eq_true rfl)⟩ (fun z15 h16 e17 => ?_)
        refine WPe_st (st2 := [vI z15.1]) rfl ?_
        refine WPe_if_eq (pc := 34) 51 (dd dtX3_readTerm 18 rfl) (by decide) (fun h18 => ?_) (fun h18 => ?_)
        · refine WPe_sub [0, 1, 3] rfl ?_
          exact wpj3_readTerm_51 X w0 n rk hrk k8 hk8 v.1 v.2.1 v.2.2.2 z15.2
        · refine WPe_aload_n (pc := 37) 0 (dd dtX3_readTerm 19 rfl) rfl ?_
          refine WPe_sipush (pc := 38) (10018 : Int32) (dd dtX3_readTerm 20 rfl) (by decide) ?_
          refine WPe_callV (pc := 41) (rtc := rtI) (Mc := mX3_addStep) (d' := 1) (mc' := 0) (ms' := 0) [vI (10018 : Int32)] [] rfl (dd dtX3_readTerm 21 rfl) (okf3_addStep v.1 (10018 : Int32) z15.2) moX3_addStep miX3_addStep (bw_mem1 204 rfl rfl) (Or.inl ⟨_, _, _, _, (e17.at (e12.at (shE h9) (by decide)) (by decide)), rfl⟩) rfl (Nat.le_of_ble_eq_true rfl) ⟨by show 1 + 1 ≤ 2 + n + 1; omega, by show 8 + (_ + 11) + 64 * 1 ≤ 64 * (2 + n + 1); have : mX3_addStep.2.2.1 ≤ 45 := (Nat.le_of_ble_eq_true rfl); omega⟩ ⟨(Nat.le_of_ble_eq_true rfl), (Nat.le_of_ble_eq_true rfl)⟩ (fun z19 h20 e21 => ?_)
          refine WPe_st (st2 := [vI z19.1]) rfl ?_
          refine WPe_if_eq (pc := 44) 51 (dd dtX3_readTerm 22 rfl) (by decide) (fun h22 => ?_) (fun h22 => ?_)
          · refine WPe_sub [0, 1, 3] rfl ?_
            exact wpj3_readTerm_51 X w0 n rk hrk k8 hk8 v.1 v.2.1 v.2.2.2 z19.2
          · refine WPe_iconst (pc := 47) (1 : Int32) (dd dtX3_readTerm 23 rfl) (by decide) ?_
            refine WPe_goto (pc := 48) 52 (dd dtX3_readTerm 24 rfl) (by decide) ?_
            refine WPe_sub [0, 1, 3] rfl ?_
            exact wpj3_readTerm_52 X w0 n rk hrk k8 hk8 v.1 v.2.1 v.2.2.2 (1 : Int32) z19.2
theorem wplb3_readTerm_8 (X : CX) (w0 : Wd) (n : Nat) (rk : Nat × Nat × Int32 → Wd → Option (Int32 × Wd)) (hrk : ∀ (v : Nat × Nat × Int32) (w : Wd) (z : Int32 × Wd), rk v w = some z → OkM (recM v.1) (2 + n) 0 0 [vR v.2.1, vI v.2.2] w (rtI z.1) z.2)  : ∀ (n9 : Nat) (v : Nat × Int32 × Int32 × Int32) (w : Wd), WPe rtI X (mX3_readTerm, (2 + n + 1), 0, 0, w0) 0 0 (loopF (b3_readTerm_8 rk ) n9 v w) 8 [(0, vR v.1), (1, vI v.2.1), (2, vI v.2.2.1), (3, vI v.2.2.2)] [] w :=
  WPe_loop (rt := rtI) (X := X) (M := (mX3_readTerm, (2 + n + 1), 0, 0, w0)) (fun v : Nat × Int32 × Int32 × Int32 => [(0, vR v.1), (1, vI v.2.1), (2, vI v.2.2.1), (3, vI v.2.2.2)]) (fun k hk v w => wpb3_readTerm_8 X w0 n rk hrk  k hk v w)
noncomputable def f3_readTerm (rk : Nat × Nat × Int32 → Wd → Option (Int32 × Wd)) (x0 : Nat) (x1 : Int32) (w : Wd) : Option (Int32 × Wd) :=
  ck (tg w x0 = 3) ((rk (5, x0, x1) w).bind fun z2 => (loopF (b3_readTerm_8 rk) FU (x0, x1, z2.1, (0 : Int32)) z2.2))
theorem wpf3_readTerm (X : CX) (w0 : Wd) (n : Nat) (rk : Nat × Nat × Int32 → Wd → Option (Int32 × Wd)) (hrk : ∀ (v : Nat × Nat × Int32) (w : Wd) (z : Int32 × Wd), rk v w = some z → OkM (recM v.1) (2 + n) 0 0 [vR v.2.1, vI v.2.2] w (rtI z.1) z.2) (x0 : Nat) (x1 : Int32) (w : Wd) : WPe rtI X (mX3_readTerm, (2 + n + 1), 0, 0, w0) 0 0 (f3_readTerm rk x0 x1 w) 0 [(0, vR x0), (1, vI x1)] [] w := by
  unfold f3_readTerm
  refine WPe_aload_n (pc := 0) 0 (dd dtX3_readTerm 0 rfl) rfl ?_
  refine WPe_iload_n (pc := 1) 1 (dd dtX3_readTerm 1 rfl) rfl ?_
  refine WPe_ck fun h1 => ?_
  refine WPe_callV (pc := 2) (rtc := rtI) (Mc := mX3_readOne) (d' := 2 + n) (mc' := 0) (ms' := 0) [vI x1] [] rfl (dd dtX3_readTerm 2 rfl) (hrk (5, x0, x1) w) moX3_readOne miX3_readOne (bw_mem1 216 rfl rfl) (Or.inl ⟨_, _, _, _, (shE h1), rfl⟩) rfl (Nat.le_of_ble_eq_true rfl) ⟨by show 2 + n + 1 ≤ 2 + n + 1; omega, by show 8 + (_ + 11) + 64 * (2 + n) ≤ 64 * (2 + n + 1); have : mX3_readOne.2.2.1 ≤ 45 := (Nat.le_of_ble_eq_true rfl); omega⟩ ⟨(Nat.le_of_ble_eq_true rfl), (Nat.le_of_ble_eq_true rfl)⟩ (fun z2 h3 e4 => ?_)
  refine WPe_st (st2 := [vI z2.1]) rfl ?_
  refine WPe_istore_n (pc := 5) (ls' := [(2, vI z2.1), (0, vR x0), (1, vI x1)]) (dd dtX3_readTerm 3 rfl) (Nat.le_of_ble_eq_true rfl) rfl ?_
  refine WPe_iconst (pc := 6) (0 : Int32) (dd dtX3_readTerm 4 rfl) (by decide) ?_
  refine WPe_istore_n (pc := 7) (ls' := [(3, vI (0 : Int32)), (2, vI z2.1), (0, vR x0), (1, vI x1)]) (dd dtX3_readTerm 5 rfl) (Nat.le_of_ble_eq_true rfl) rfl ?_
  refine WPe_sub [2, 3, 1, 0] rfl ?_
  exact wplb3_readTerm_8 X w0 n rk hrk  FU _ _
def tbX3_readOne : List (Nat × Instr × Nat) := [(0, .aload_n 0, 1), (1, .invokevirtual 135, 3), (4, .istore_n 2, 1), (5, .iload_n 2, 1), (6, .sipush 10017, 3), (9, .if_icmp .ne 44, 3), (12, .iload_n 1, 1), (13, .iconst 5, 1), (14, .if_icmp .ge 37, 3), (17, .aload_n 0, 1), (18, .sipush 10017, 3), (21, .invokevirtual 138, 3), (24, .ifCond .eq 27, 3), (27, .aload_n 0, 1), (28, .iload_n 1, 1), (29, .iconst 1, 1), (30, .iadd, 1), (31, .invokevirtual 159, 3), (34, .ifCond .eq 17, 3), (37, .aload_n 0, 1), (38, .sipush 10013, 3), (41, .invokevirtual 147, 3), (44, .ifCond .eq 7, 3), (47, .iconst 1, 1), (48, .goto 4, 3), (51, .iconst 0, 1), (52, .ireturn, 1), (53, .iload_n 2, 1), (54, .sipush 10020, 3), (57, .if_icmp .ne 44, 3), (60, .iload_n 1, 1), (61, .iconst 5, 1), (62, .if_icmp .ge 37, 3), (65, .aload_n 0, 1), (66, .sipush 10020, 3), (69, .invokevirtual 138, 3), (72, .ifCond .eq 27, 3), (75, .aload_n 0, 1), (76, .iload_n 1, 1), (77, .iconst 1, 1), (78, .iadd, 1), (79, .invokevirtual 141, 3), (82, .ifCond .eq 17, 3), (85, .aload_n 0, 1), (86, .sipush 10021, 3), (89, .invokevirtual 138, 3), (92, .ifCond .eq 7, 3), (95, .iconst 1, 1), (96, .goto 4, 3), (99, .iconst 0, 1), (100, .ireturn, 1), (101, .iload_n 2, 1), (102, .sipush 10005, 3), (105, .if_icmp .gt 23, 3), (108, .aload_n 0, 1), (109, .iload_n 2, 1), (110, .invokevirtual 138, 3), (113, .ifCond .eq 15, 3), (116, .aload_n 0, 1), (117, .iload_n 2, 1), (118, .invokevirtual 147, 3), (121, .ifCond .eq 7, 3), (124, .iconst 1, 1), (125, .goto 4, 3), (128, .iconst 0, 1), (129, .ireturn, 1)]
set_option maxRecDepth 20000 in
theorem dtX3_readOne : ∀ x ∈ tbX3_readOne, decode cX3_readOne x.1 = .ok x.2 := by decide +kernel
noncomputable def f3_readOne (rk : Nat × Nat × Int32 → Wd → Option (Int32 × Wd)) (x0 : Nat) (x1 : Int32) (w : Wd) : Option (Int32 × Wd) :=
  ck (tg w x0 = 3) ((f3_token x0 w).bind fun z2 => (if z2.1 = (10017 : Int32) then (if (5 : Int32) ≤ x1 then (some ((0 : Int32), z2.2)) else ((f3_goBehind x0 (10017 : Int32) z2.2).bind fun z7 => (if z7.1 = (0 : Int32) then (some ((0 : Int32), z7.2)) else ((rk (5, x0, (x1 + (1 : Int32))) z7.2).bind fun z11 => (if z11.1 = (0 : Int32) then (some ((0 : Int32), z11.2)) else ((f3_addStep x0 (10013 : Int32) z11.2).bind fun z15 => (if z15.1 = (0 : Int32) then (some ((0 : Int32), z15.2)) else (some ((1 : Int32), z15.2))))))))) else (if z2.1 = (10020 : Int32) then (if (5 : Int32) ≤ x1 then (some ((0 : Int32), z2.2)) else ((f3_goBehind x0 (10020 : Int32) z2.2).bind fun z21 => (if z21.1 = (0 : Int32) then (some ((0 : Int32), z21.2)) else ((rk (0, x0, (x1 + (1 : Int32))) z21.2).bind fun z25 => (if z25.1 = (0 : Int32) then (some ((0 : Int32), z25.2)) else ((f3_goBehind x0 (10021 : Int32) z25.2).bind fun z29 => (if z29.1 = (0 : Int32) then (some ((0 : Int32), z29.2)) else (some ((1 : Int32), z29.2))))))))) else (if (10005 : Int32) < z2.1 then (some ((0 : Int32), z2.2)) else ((f3_goBehind x0 z2.1 z2.2).bind fun z34 => (if z34.1 = (0 : Int32) then (some ((0 : Int32), z34.2)) else ((f3_addStep x0 z2.1 z34.2).bind fun z38 => (if z38.1 = (0 : Int32) then (some ((0 : Int32), z38.2)) else (some ((1 : Int32), z38.2))))))))))
theorem wpf3_readOne (X : CX) (w0 : Wd) (n : Nat) (rk : Nat × Nat × Int32 → Wd → Option (Int32 × Wd)) (hrk : ∀ (v : Nat × Nat × Int32) (w : Wd) (z : Int32 × Wd), rk v w = some z → OkM (recM v.1) (2 + n) 0 0 [vR v.2.1, vI v.2.2] w (rtI z.1) z.2) (x0 : Nat) (x1 : Int32) (w : Wd) : WPe rtI X (mX3_readOne, (2 + n + 1), 0, 0, w0) 0 0 (f3_readOne rk x0 x1 w) 0 [(0, vR x0), (1, vI x1)] [] w := by
  unfold f3_readOne
  refine WPe_aload_n (pc := 0) 0 (dd dtX3_readOne 0 rfl) rfl ?_
  refine WPe_ck fun h1 => ?_
  refine WPe_callV (pc := 1) (rtc := rtI) (Mc := mX3_token) (d' := 1) (mc' := 0) (ms' := 0) [] [] rfl (dd dtX3_readOne 1 rfl) (okf3_token x0 w) moX3_token miX3_token (bw_mem1 188 rfl rfl) (Or.inl ⟨_, _, _, _, (shE h1), rfl⟩) rfl (Nat.le_of_ble_eq_true rfl) ⟨by show 1 + 1 ≤ 2 + n + 1; omega, by show 8 + (_ + 11) + 64 * 1 ≤ 64 * (2 + n + 1); have : mX3_token.2.2.1 ≤ 45 := (Nat.le_of_ble_eq_true rfl); omega⟩ ⟨(Nat.le_of_ble_eq_true rfl), (Nat.le_of_ble_eq_true rfl)⟩ (fun z2 h3 e4 => ?_)
  refine WPe_st (st2 := [vI z2.1]) rfl ?_
  refine WPe_istore_n (pc := 4) (ls' := [(2, vI z2.1), (0, vR x0), (1, vI x1)]) (dd dtX3_readOne 2 rfl) (Nat.le_of_ble_eq_true rfl) rfl ?_
  refine WPe_iload_n (pc := 5) 0 (dd dtX3_readOne 3 rfl) rfl ?_
  refine WPe_sipush (pc := 6) (10017 : Int32) (dd dtX3_readOne 4 rfl) (by decide) ?_
  refine WPe_icmp_ne (pc := 9) 53 (dd dtX3_readOne 5 rfl) (by decide) (fun h5 => ?_) (fun h5 => ?_)
  · refine WPe_iload_n (pc := 12) 2 (dd dtX3_readOne 6 rfl) rfl ?_
    refine WPe_iconst (pc := 13) (5 : Int32) (dd dtX3_readOne 7 rfl) (by decide) ?_
    refine WPe_icmp_ge (pc := 14) 51 (dd dtX3_readOne 8 rfl) (by decide) (fun h6 => ?_) (fun h6 => ?_)
    · refine WPe_iconst (pc := 51) (0 : Int32) (dd dtX3_readOne 25 rfl) (by decide) ?_
      exact WPe_zreturn (pc := 52) (ty := .boolean) (dd dtX3_readOne 26 rfl) rfl rfl rfl ⟨(Nat.le_of_ble_eq_true rfl), (Nat.le_of_ble_eq_true rfl)⟩
    · refine WPe_aload_n (pc := 17) 1 (dd dtX3_readOne 9 rfl) rfl ?_
      refine WPe_sipush (pc := 18) (10017 : Int32) (dd dtX3_readOne 10 rfl) (by decide) ?_
      refine WPe_callV (pc := 21) (rtc := rtI) (Mc := mX3_goBehind) (d' := 2) (mc' := 0) (ms' := 0) [vI (10017 : Int32)] [] rfl (dd dtX3_readOne 11 rfl) (okf3_goBehind x0 (10017 : Int32) z2.2) moX3_goBehind miX3_goBehind (bw_mem1 184 rfl rfl) (Or.inl ⟨_, _, _, _, (e4.at (shE h1) (by decide)), rfl⟩) rfl (Nat.le_of_ble_eq_true rfl) ⟨by show 2 + 1 ≤ 2 + n + 1; omega, by show 8 + (_ + 11) + 64 * 2 ≤ 64 * (2 + n + 1); have : mX3_goBehind.2.2.1 ≤ 45 := (Nat.le_of_ble_eq_true rfl); omega⟩ ⟨(Nat.le_of_ble_eq_true rfl), (Nat.le_of_ble_eq_true rfl)⟩ (fun z7 h8 e9 => ?_)
      refine WPe_st (st2 := [vI z7.1]) rfl ?_
      refine WPe_if_eq (pc := 24) 51 (dd dtX3_readOne 12 rfl) (by decide) (fun h10 => ?_) (fun h10 => ?_)
      · refine WPe_iconst (pc := 51) (0 : Int32) (dd dtX3_readOne 25 rfl) (by decide) ?_
        exact WPe_zreturn (pc := 52) (ty := .boolean) (dd dtX3_readOne 26 rfl) rfl rfl rfl ⟨(Nat.le_of_ble_eq_true rfl), (Nat.le_of_ble_eq_true rfl)⟩
      · refine WPe_aload_n (pc := 27) 1 (dd dtX3_readOne 13 rfl) rfl ?_
        refine WPe_iload_n (pc := 28) 2 (dd dtX3_readOne 14 rfl) rfl ?_
        refine WPe_iconst (pc := 29) (1 : Int32) (dd dtX3_readOne 15 rfl) (by decide) ?_
        refine WPe_iadd (pc := 30) (dd dtX3_readOne 16 rfl) ?_
        refine WPe_callV (pc := 31) (rtc := rtI) (Mc := mX3_readOne) (d' := 2 + n) (mc' := 0) (ms' := 0) [vI (x1 + (1 : Int32))] [] rfl (dd dtX3_readOne 17 rfl) (hrk (5, x0, (x1 + (1 : Int32))) z7.2) moX3_readOne miX3_readOne (bw_mem1 216 rfl rfl) (Or.inl ⟨_, _, _, _, (e9.at (e4.at (shE h1) (by decide)) (by decide)), rfl⟩) rfl (Nat.le_of_ble_eq_true rfl) ⟨by show 2 + n + 1 ≤ 2 + n + 1; omega, by show 8 + (_ + 11) + 64 * (2 + n) ≤ 64 * (2 + n + 1); have : mX3_readOne.2.2.1 ≤ 45 := (Nat.le_of_ble_eq_true rfl); omega⟩ ⟨(Nat.le_of_ble_eq_true rfl), (Nat.le_of_ble_eq_true rfl)⟩ (fun z11 h12 e13 => ?_)
        refine WPe_st (st2 := [vI z11.1]) rfl ?_
        refine WPe_if_eq (pc := 34) 51 (dd dtX3_readOne 18 rfl) (by decide) (fun h14 => ?_) (fun h14 => ?_)
        · refine WPe_iconst (pc := 51) (0 : Int32) (dd dtX3_readOne 25 rfl) (by decide) ?_
          exact WPe_zreturn (pc := 52) (ty := .boolean) (dd dtX3_readOne 26 rfl) rfl rfl rfl ⟨(Nat.le_of_ble_eq_true rfl), (Nat.le_of_ble_eq_true rfl)⟩
        · refine WPe_aload_n (pc := 37) 1 (dd dtX3_readOne 19 rfl) rfl ?_
          refine WPe_sipush (pc := 38) (10013 : Int32) (dd dtX3_readOne 20 rfl) (by decide) ?_
          refine WPe_callV (pc := 41) (rtc := rtI) (Mc := mX3_addStep) (d' := 1) (mc' := 0) (ms' := 0) [vI (10013 : Int32)] [] rfl (dd dtX3_readOne 21 rfl) (okf3_addStep x0 (10013 : Int32) z11.2) moX3_addStep miX3_addStep (bw_mem1 204 rfl rfl) (Or.inl ⟨_, _, _, _, (e13.at (e9.at (e4.at (shE h1) (by decide)) (by decide)) (by decide)), rfl⟩) rfl (Nat.le_of_ble_eq_true rfl) ⟨by show 1 + 1 ≤ 2 + n + 1; omega, by show 8 + (_ + 11) + 64 * 1 ≤ 64 * (2 + n + 1); have : mX3_addStep.2.2.1 ≤ 45 := (Nat.le_of_ble_eq_true rfl); omega⟩ ⟨(Nat.le_of_ble_eq_true rfl), (Nat.le_of_ble_eq_true rfl)⟩ (fun z15 h16 e17 => ?_)
          refine WPe_st (st2 := [vI z15.1]) rfl ?_
          refine WPe_if_eq (pc := 44) 51 (dd dtX3_readOne 22 rfl) (by decide) (fun h18 => ?_) (fun h18 => ?_)
          · refine WPe_iconst (pc := 51) (0 : Int32) (dd dtX3_readOne 25 rfl) (by decide) ?_
            exact WPe_zreturn (pc := 52) (ty := .boolean) (dd dtX3_readOne 26 rfl) rfl rfl rfl ⟨(Nat.le_of_ble_eq_true rfl), (Nat.le_of_ble_eq_true rfl)⟩
          · refine WPe_iconst (pc := 47) (1 : Int32) (dd dtX3_readOne 23 rfl) (by decide) ?_
            refine WPe_goto (pc := 48) 52 (dd dtX3_readOne 24 rfl) (by decide) ?_
            exact WPe_zreturn (pc := 52) (ty := .boolean) (dd dtX3_readOne 26 rfl) rfl rfl rfl ⟨(Nat.le_of_ble_eq_true rfl), (Nat.le_of_ble_eq_true rfl)⟩
  · refine WPe_iload_n (pc := 53) 0 (dd dtX3_readOne 27 rfl) rfl ?_
    refine WPe_sipush (pc := 54) (10020 : Int32) (dd dtX3_readOne 28 rfl) (by decide) ?_
    refine WPe_icmp_ne (pc := 57) 101 (dd dtX3_readOne 29 rfl) (by decide) (fun h19 => ?_) (fun h19 => ?_)
    · refine WPe_iload_n (pc := 60) 2 (dd dtX3_readOne 30 rfl) rfl ?_
      refine WPe_iconst (pc := 61) (5 : Int32) (dd dtX3_readOne 31 rfl) (by decide) ?_
      refine WPe_icmp_ge (pc := 62) 99 (dd dtX3_readOne 32 rfl) (by decide) (fun h20 => ?_) (fun h20 => ?_)
      · refine WPe_iconst (pc := 99) (0 : Int32) (dd dtX3_readOne 49 rfl) (by decide) ?_
        exact WPe_zreturn (pc := 100) (ty := .boolean) (dd dtX3_readOne 50 rfl) rfl rfl rfl ⟨(Nat.le_of_ble_eq_true rfl), (Nat.le_of_ble_eq_true rfl)⟩
      · refine WPe_aload_n (pc := 65) 1 (dd dtX3_readOne 33 rfl) rfl ?_
        refine WPe_sipush (pc := 66) (10020 : Int32) (dd dtX3_readOne 34 rfl) (by decide) ?_
        refine WPe_callV (pc := 69) (rtc := rtI) (Mc := mX3_goBehind) (d' := 2) (mc' := 0) (ms' := 0) [vI (10020 : Int32)] [] rfl (dd dtX3_readOne 35 rfl) (okf3_goBehind x0 (10020 : Int32) z2.2) moX3_goBehind miX3_goBehind (bw_mem1 184 rfl rfl) (Or.inl ⟨_, _, _, _, (e4.at (shE h1) (by decide)), rfl⟩) rfl (Nat.le_of_ble_eq_true rfl) ⟨by show 2 + 1 ≤ 2 + n + 1; omega, by show 8 + (_ + 11) + 64 * 2 ≤ 64 * (2 + n + 1); have : mX3_goBehind.2.2.1 ≤ 45 := (Nat.le_of_ble_eq_true rfl); omega⟩ ⟨(Nat.le_of_ble_eq_true rfl), (Nat.le_of_ble_eq_true rfl)⟩ (fun z21 h22 e23 => ?_)
        refine WPe_st (st2 := [vI z21.1]) rfl ?_
        refine WPe_if_eq (pc := 72) 99 (dd dtX3_readOne 36 rfl) (by decide) (fun h24 => ?_) (fun h24 => ?_)
        · refine WPe_iconst (pc := 99) (0 : Int32) (dd dtX3_readOne 49 rfl) (by decide) ?_
          exact WPe_zreturn (pc := 100) (ty := .boolean) (dd dtX3_readOne 50 rfl) rfl rfl rfl ⟨(Nat.le_of_ble_eq_true rfl), (Nat.le_of_ble_eq_true rfl)⟩
        · refine WPe_aload_n (pc := 75) 1 (dd dtX3_readOne 37 rfl) rfl ?_
          refine WPe_iload_n (pc := 76) 2 (dd dtX3_readOne 38 rfl) rfl ?_
          refine WPe_iconst (pc := 77) (1 : Int32) (dd dtX3_readOne 39 rfl) (by decide) ?_
          refine WPe_iadd (pc := 78) (dd dtX3_readOne 40 rfl) ?_
          refine WPe_callV (pc := 79) (rtc := rtI) (Mc := mX3_readOr) (d' := 2 + n) (mc' := 0) (ms' := 0) [vI (x1 + (1 : Int32))] [] rfl (dd dtX3_readOne 41 rfl) (hrk (0, x0, (x1 + (1 : Int32))) z21.2) moX3_readOr miX3_readOr (bw_mem1 192 rfl rfl) (Or.inl ⟨_, _, _, _, (e23.at (e4.at (shE h1) (by decide)) (by decide)), rfl⟩) rfl (Nat.le_of_ble_eq_true rfl) ⟨by show 2 + n + 1 ≤ 2 + n + 1; omega, by show 8 + (_ + 11) + 64 * (2 + n) ≤ 64 * (2 + n + 1); have : mX3_readOr.2.2.1 ≤ 45 := (Nat.le_of_ble_eq_true rfl); omega⟩ ⟨(Nat.le_of_ble_eq_true rfl), (Nat.le_of_ble_eq_true rfl)⟩ (fun z25 h26 e27 => ?_)
          refine WPe_st (st2 := [vI z25.1]) rfl ?_
          refine WPe_if_eq (pc := 82) 99 (dd dtX3_readOne 42 rfl) (by decide) (fun h28 => ?_) (fun h28 => ?_)
          · refine WPe_iconst (pc := 99) (0 : Int32) (dd dtX3_readOne 49 rfl) (by decide) ?_
            exact WPe_zreturn (pc := 100) (ty := .boolean) (dd dtX3_readOne 50 rfl) rfl rfl rfl ⟨(Nat.le_of_ble_eq_true rfl), (Nat.le_of_ble_eq_true rfl)⟩
          · refine WPe_aload_n (pc := 85) 1 (dd dtX3_readOne 43 rfl) rfl ?_
            refine WPe_sipush (pc := 86) (10021 : Int32) (dd dtX3_readOne 44 rfl) (by decide) ?_
            refine WPe_callV (pc := 89) (rtc := rtI) (Mc := mX3_goBehind) (d' := 2) (mc' := 0) (ms' := 0) [vI (10021 : Int32)] [] rfl (dd dtX3_readOne 45 rfl) (okf3_goBehind x0 (10021 : Int32) z25.2) moX3_goBehind miX3_goBehind (bw_mem1 184 rfl rfl) (Or.inl ⟨_, _, _, _, (e27.at (e23.at (e4.at (shE h1) (by decide)) (by decide)) (by decide)), rfl⟩) rfl (Nat.le_of_ble_eq_true rfl) ⟨by show 2 + 1 ≤ 2 + n + 1; omega, by show 8 + (_ + 11) + 64 * 2 ≤ 64 * (2 + n + 1); have : mX3_goBehind.2.2.1 ≤ 45 := (Nat.le_of_ble_eq_true rfl); omega⟩ ⟨(Nat.le_of_ble_eq_true rfl), (Nat.le_of_ble_eq_true rfl)⟩ (fun z29 h30 e31 => ?_)
            refine WPe_st (st2 := [vI z29.1]) rfl ?_
            refine WPe_if_eq (pc := 92) 99 (dd dtX3_readOne 46 rfl) (by decide) (fun h32 => ?_) (fun h32 => ?_)
            · refine WPe_iconst (pc := 99) (0 : Int32) (dd dtX3_readOne 49 rfl) (by decide) ?_
              exact WPe_zreturn (pc := 100) (ty := .boolean) (dd dtX3_readOne 50 rfl) rfl rfl rfl ⟨(Nat.le_of_ble_eq_true rfl), (Nat.le_of_ble_eq_true rfl)⟩
            · refine WPe_iconst (pc := 95) (1 : Int32) (dd dtX3_readOne 47 rfl) (by decide) ?_
              refine WPe_goto (pc := 96) 100 (dd dtX3_readOne 48 rfl) (by decide) ?_
              exact WPe_zreturn (pc := 100) (ty := .boolean) (dd dtX3_readOne 50 rfl) rfl rfl rfl ⟨(Nat.le_of_ble_eq_true rfl), (Nat.le_of_ble_eq_true rfl)⟩
    · refine WPe_iload_n (pc := 101) 0 (dd dtX3_readOne 51 rfl) rfl ?_
      refine WPe_sipush (pc := 102) (10005 : Int32) (dd dtX3_readOne 52 rfl) (by decide) ?_
      refine WPe_icmp_gt (pc := 105) 128 (dd dtX3_readOne 53 rfl) (by decide) (fun h33 => ?_) (fun h33 => ?_)
      · refine WPe_iconst (pc := 128) (0 : Int32) (dd dtX3_readOne 64 rfl) (by decide) ?_
        exact WPe_zreturn (pc := 129) (ty := .boolean) (dd dtX3_readOne 65 rfl) rfl rfl rfl ⟨(Nat.le_of_ble_eq_true rfl), (Nat.le_of_ble_eq_true rfl)⟩
      · refine WPe_aload_n (pc := 108) 1 (dd dtX3_readOne 54 rfl) rfl ?_
        refine WPe_iload_n (pc := 109) 0 (dd dtX3_readOne 55 rfl) rfl ?_
        refine WPe_callV (pc := 110) (rtc := rtI) (Mc := mX3_goBehind) (d' := 2) (mc' := 0) (ms' := 0) [vI z2.1] [] rfl (dd dtX3_readOne 56 rfl) (okf3_goBehind x0 z2.1 z2.2) moX3_goBehind miX3_goBehind (bw_mem1 184 rfl rfl) (Or.inl ⟨_, _, _, _, (e4.at (shE h1) (by decide)), rfl⟩) rfl (Nat.le_of_ble_eq_true rfl) ⟨by show 2 + 1 ≤ 2 + n + 1; omega, by show 8 + (_ + 11) + 64 * 2 ≤ 64 * (2 + n + 1); have : mX3_goBehind.2.2.1 ≤ 45 := (Nat.le_of_ble_eq_true rfl); omega⟩ ⟨(Nat.le_of_ble_eq_true rfl), (Nat.le_of_ble_eq_true rfl)⟩ (fun z34 h35 e36 => ?_)
        refine WPe_st (st2 := [vI z34.1]) rfl ?_
        refine WPe_if_eq (pc := 113) 128 (dd dtX3_readOne 57 rfl) (by decide) (fun h37 => ?_) (fun h37 => ?_)
        · refine WPe_iconst (pc := 128) (0 : Int32) (dd dtX3_readOne 64 rfl) (by decide) ?_
          exact WPe_zreturn (pc := 129) (ty := .boolean) (dd dtX3_readOne 65 rfl) rfl rfl rfl ⟨(Nat.le_of_ble_eq_true rfl), (Nat.le_of_ble_eq_true rfl)⟩
        · refine WPe_aload_n (pc := 116) 1 (dd dtX3_readOne 58 rfl) rfl ?_
          refine WPe_iload_n (pc := 117) 0 (dd dtX3_readOne 59 rfl) rfl ?_
          refine WPe_callV (pc := 118) (rtc := rtI) (Mc := mX3_addStep) (d' := 1) (mc' := 0) (ms' := 0) [vI z2.1] [] rfl (dd dtX3_readOne 60 rfl) (okf3_addStep x0 z2.1 z34.2) moX3_addStep miX3_addStep (bw_mem1 204 rfl rfl) (Or.inl ⟨_, _, _, _, (e36.at (e4.at (shE h1) (by decide)) (by decide)), rfl⟩) rfl (Nat.le_of_ble_eq_true rfl) ⟨by show 1 + 1 ≤ 2 + n + 1; omega, by show 8 + (_ + 11) + 64 * 1 ≤ 64 * (2 + n + 1); have : mX3_addStep.2.2.1 ≤ 45 := (Nat.le_of_ble_eq_true rfl); omega⟩ ⟨(Nat.le_of_ble_eq_true rfl), (Nat.le_of_ble_eq_true rfl)⟩ (fun z38 h39 e40 => ?_)
          refine WPe_st (st2 := [vI z38.1]) rfl ?_
          refine WPe_if_eq (pc := 121) 128 (dd dtX3_readOne 61 rfl) (by decide) (fun h41 => ?_) (fun h41 => ?_)
          · refine WPe_iconst (pc := 128) (0 : Int32) (dd dtX3_readOne 64 rfl) (by decide) ?_
            exact WPe_zreturn (pc := 129) (ty := .boolean) (dd dtX3_readOne 65 rfl) rfl rfl rfl ⟨(Nat.le_of_ble_eq_true rfl), (Nat.le_of_ble_eq_true rfl)⟩
          · refine WPe_iconst (pc := 124) (1 : Int32) (dd dtX3_readOne 62 rfl) (by decide) ?_
            refine WPe_goto (pc := 125) 129 (dd dtX3_readOne 63 rfl) (by decide) ?_
            exact WPe_zreturn (pc := 129) (ty := .boolean) (dd dtX3_readOne 65 rfl) rfl rfl rfl ⟨(Nat.le_of_ble_eq_true rfl), (Nat.le_of_ble_eq_true rfl)⟩
noncomputable def recB (rk : Nat × Nat × Int32 → Wd → Option (Int32 × Wd)) (v : Nat × Nat × Int32) (w : Wd) : Option (Int32 × Wd) :=
  match v.1 with
  | 0 => f3_readOr rk v.2.1 v.2.2 w
  | 1 => f3_readAnd rk v.2.1 v.2.2 w
  | 2 => f3_readNot rk v.2.1 v.2.2 w
  | 3 => f3_readSum rk v.2.1 v.2.2 w
  | 4 => f3_readTerm rk v.2.1 v.2.2 w
  | 5 => f3_readOne rk v.2.1 v.2.2 w
  | _ => none
theorem okRec : ∀ (n : Nat) (v : Nat × Nat × Int32) (w : Wd) (z : Int32 × Wd), loopF recB n v w = some z → OkM (recM v.1) (2 + n) 0 0 [vR v.2.1, vI v.2.2] w (rtI z.1) z.2 := by
  intro n
  induction n with
  | zero => intro v w z h; cases h
  | succ n ih =>
    intro v w z h
    obtain ⟨k, q, x⟩ := v
    match k, h with
    | 0, h => exact OkM.of (rt := rtI) (R := mX3_readOr) (d := 2 + n + 1) moX3_readOr (Nat.le_of_ble_eq_true rfl) (fun X => wpf3_readOr X w n (loopF recB n) ih q x w) z h
    | 1, h => exact OkM.of (rt := rtI) (R := mX3_readAnd) (d := 2 + n + 1) moX3_readAnd (Nat.le_of_ble_eq_true rfl) (fun X => wpf3_readAnd X w n (loopF recB n) ih q x w) z h
    | 2, h => exact OkM.of (rt := rtI) (R := mX3_readNot) (d := 2 + n + 1) moX3_readNot (Nat.le_of_ble_eq_true rfl) (fun X => wpf3_readNot X w n (loopF recB n) ih q x w) z h
    | 3, h => exact OkM.of (rt := rtI) (R := mX3_readSum) (d := 2 + n + 1) moX3_readSum (Nat.le_of_ble_eq_true rfl) (fun X => wpf3_readSum X w n (loopF recB n) ih q x w) z h
    | 4, h => exact OkM.of (rt := rtI) (R := mX3_readTerm) (d := 2 + n + 1) moX3_readTerm (Nat.le_of_ble_eq_true rfl) (fun X => wpf3_readTerm X w n (loopF recB n) ih q x w) z h
    | 5, h => exact OkM.of (rt := rtI) (R := mX3_readOne) (d := 2 + n + 1) moX3_readOne (Nat.le_of_ble_eq_true rfl) (fun X => wpf3_readOne X w n (loopF recB n) ih q x w) z h
    | k + 6, h => cases h
def tbX3_readPart : List (Nat × Instr × Nat) := [(0, .aload_n 0, 1), (1, .iload_n 1, 1), (2, .invokevirtual 138, 3), (5, .ifCond .eq 25, 3), (8, .aload_n 0, 1), (9, .iconst 0, 1), (10, .invokevirtual 141, 3), (13, .ifCond .eq 17, 3), (16, .aload_n 0, 1), (17, .sipush 10022, 3), (20, .invokevirtual 138, 3), (23, .ifCond .eq 7, 3), (26, .iconst 1, 1), (27, .goto 4, 3), (30, .iconst 0, 1), (31, .ireturn, 1)]
set_option maxRecDepth 20000 in
theorem dtX3_readPart : ∀ x ∈ tbX3_readPart, decode cX3_readPart x.1 = .ok x.2 := by decide +kernel
noncomputable def f3_readPart (x0 : Nat) (x1 : Int32) (w : Wd) : Option (Int32 × Wd) :=
  ck (tg w x0 = 3) ((f3_goBehind x0 x1 w).bind fun z2 => (if z2.1 = (0 : Int32) then (some ((0 : Int32), z2.2)) else ((loopF recB 45 (0, x0, (0 : Int32)) z2.2).bind fun z6 => (if z6.1 = (0 : Int32) then (some ((0 : Int32), z6.2)) else ((f3_goBehind x0 (10022 : Int32) z6.2).bind fun z10 => (if z10.1 = (0 : Int32) then (some ((0 : Int32), z10.2)) else (some ((1 : Int32), z10.2))))))))
theorem wpf3_readPart (X : CX) (w0 : Wd) (x0 : Nat) (x1 : Int32) (w : Wd) : WPe rtI X (mX3_readPart, 48, 0, 0, w0) 0 0 (f3_readPart x0 x1 w) 0 [(0, vR x0), (1, vI x1)] [] w := by
  unfold f3_readPart
  refine WPe_aload_n (pc := 0) 0 (dd dtX3_readPart 0 rfl) rfl ?_
  refine WPe_iload_n (pc := 1) 1 (dd dtX3_readPart 1 rfl) rfl ?_
  refine WPe_ck fun h1 => ?_
  refine WPe_callV (pc := 2) (rtc := rtI) (Mc := mX3_goBehind) (d' := 2) (mc' := 0) (ms' := 0) [vI x1] [] rfl (dd dtX3_readPart 2 rfl) (okf3_goBehind x0 x1 w) moX3_goBehind miX3_goBehind (bw_mem1 184 rfl rfl) (Or.inl ⟨_, _, _, _, (shE h1), rfl⟩) rfl (Nat.le_of_ble_eq_true rfl) ⟨(Nat.le_of_ble_eq_true rfl), (Nat.le_of_ble_eq_true rfl)⟩ ⟨(Nat.le_of_ble_eq_true rfl), (Nat.le_of_ble_eq_true rfl)⟩ (fun z2 h3 e4 => ?_)
  refine WPe_st (st2 := [vI z2.1]) rfl ?_
  refine WPe_if_eq (pc := 5) 30 (dd dtX3_readPart 3 rfl) (by decide) (fun h5 => ?_) (fun h5 => ?_)
  · refine WPe_iconst (pc := 30) (0 : Int32) (dd dtX3_readPart 14 rfl) (by decide) ?_
    exact WPe_zreturn (pc := 31) (ty := .boolean) (dd dtX3_readPart 15 rfl) rfl rfl rfl ⟨(Nat.le_of_ble_eq_true rfl), (Nat.le_of_ble_eq_true rfl)⟩
  · refine WPe_aload_n (pc := 8) 0 (dd dtX3_readPart 4 rfl) rfl ?_
    refine WPe_iconst (pc := 9) (0 : Int32) (dd dtX3_readPart 5 rfl) (by decide) ?_
    refine WPe_callV (pc := 10) (rtc := rtI) (Mc := mX3_readOr) (d' := 47) (mc' := 0) (ms' := 0) [vI (0 : Int32)] [] rfl (dd dtX3_readPart 6 rfl) (okRec 45 (0, x0, (0 : Int32)) z2.2) moX3_readOr miX3_readOr (bw_mem1 192 rfl rfl) (Or.inl ⟨_, _, _, _, (e4.at (shE h1) (by decide)), rfl⟩) rfl (Nat.le_of_ble_eq_true rfl) ⟨(Nat.le_of_ble_eq_true rfl), (Nat.le_of_ble_eq_true rfl)⟩ ⟨(Nat.le_of_ble_eq_true rfl), (Nat.le_of_ble_eq_true rfl)⟩ (fun z6 h7 e8 => ?_)
    refine WPe_st (st2 := [vI z6.1]) rfl ?_
    refine WPe_if_eq (pc := 13) 30 (dd dtX3_readPart 7 rfl) (by decide) (fun h9 => ?_) (fun h9 => ?_)
    · refine WPe_iconst (pc := 30) (0 : Int32) (dd dtX3_readPart 14 rfl) (by decide) ?_
      exact WPe_zreturn (pc := 31) (ty := .boolean) (dd dtX3_readPart 15 rfl) rfl rfl rfl ⟨(Nat.le_of_ble_eq_true rfl), (Nat.le_of_ble_eq_true rfl)⟩
    · refine WPe_aload_n (pc := 16) 0 (dd dtX3_readPart 8 rfl) rfl ?_
      refine WPe_sipush (pc := 17) (10022 : Int32) (dd dtX3_readPart 9 rfl) (by decide) ?_
      refine WPe_callV (pc := 20) (rtc := rtI) (Mc := mX3_goBehind) (d' := 2) (mc' := 0) (ms' := 0) [vI (10022 : Int32)] [] rfl (dd dtX3_readPart 10 rfl) (okf3_goBehind x0 (10022 : Int32) z6.2) moX3_goBehind miX3_goBehind (bw_mem1 184 rfl rfl) (Or.inl ⟨_, _, _, _, (e8.at (e4.at (shE h1) (by decide)) (by decide)), rfl⟩) rfl (Nat.le_of_ble_eq_true rfl) ⟨(Nat.le_of_ble_eq_true rfl), (Nat.le_of_ble_eq_true rfl)⟩ ⟨(Nat.le_of_ble_eq_true rfl), (Nat.le_of_ble_eq_true rfl)⟩ (fun z10 h11 e12 => ?_)
      refine WPe_st (st2 := [vI z10.1]) rfl ?_
      refine WPe_if_eq (pc := 23) 30 (dd dtX3_readPart 11 rfl) (by decide) (fun h13 => ?_) (fun h13 => ?_)
      · refine WPe_iconst (pc := 30) (0 : Int32) (dd dtX3_readPart 14 rfl) (by decide) ?_
        exact WPe_zreturn (pc := 31) (ty := .boolean) (dd dtX3_readPart 15 rfl) rfl rfl rfl ⟨(Nat.le_of_ble_eq_true rfl), (Nat.le_of_ble_eq_true rfl)⟩
      · refine WPe_iconst (pc := 26) (1 : Int32) (dd dtX3_readPart 12 rfl) (by decide) ?_
        refine WPe_goto (pc := 27) 31 (dd dtX3_readPart 13 rfl) (by decide) ?_
        exact WPe_zreturn (pc := 31) (ty := .boolean) (dd dtX3_readPart 15 rfl) rfl rfl rfl ⟨(Nat.le_of_ble_eq_true rfl), (Nat.le_of_ble_eq_true rfl)⟩
theorem okf3_readPart (x0 : Nat) (x1 : Int32) (w : Wd) : ∀ z, f3_readPart x0 x1 w = some z → OkM mX3_readPart 48 0 0 [vR x0, vI x1] w (rtI z.1) z.2 :=
  OkM.of (rt := rtI) moX3_readPart (Nat.le_of_ble_eq_true rfl) (fun X => wpf3_readPart X w x0 x1 w)
def tbX3_readText : List (Nat × Instr × Nat) := [(0, .aload_n 0, 1), (1, .sipush 10030, 3), (4, .invokevirtual 132, 3), (7, .ifCond .ne 5, 3), (10, .iconst 0, 1), (11, .ireturn, 1), (12, .aload_n 0, 1), (13, .aload_n 0, 1), (14, .getfield 52, 3), (17, .putfield 70, 3), (20, .aload_n 0, 1), (21, .sipush 10031, 3), (24, .invokevirtual 132, 3), (27, .ifCond .ne 5, 3), (30, .iconst 0, 1), (31, .ireturn, 1), (32, .aload_n 0, 1), (33, .aload_n 0, 1), (34, .getfield 52, 3), (37, .putfield 73, 3), (40, .aload_n 0, 1), (41, .sipush 10032, 3), (44, .invokevirtual 132, 3), (47, .ifCond .eq 17, 3), (50, .aload_n 0, 1), (51, .invokevirtual 135, 3), (54, .sipush 10040, 3), (57, .if_icmp .ne 7, 3), (60, .iconst 1, 1), (61, .goto 4, 3), (64, .iconst 0, 1), (65, .ireturn, 1)]
set_option maxRecDepth 20000 in
theorem dtX3_readText : ∀ x ∈ tbX3_readText, decode cX3_readText x.1 = .ok x.2 := by decide +kernel
noncomputable def f3_readText (x0 : Nat) (w : Wd) : Option (Int32 × Wd) :=
  ck (tg w x0 = 3) ((f3_readPart x0 (10030 : Int32) w).bind fun z2 => (if z2.1 = (0 : Int32) then (some ((0 : Int32), z2.2)) else (lw (sI z2.2 x0 8 (wi z2.2 x0 7)) fun w6 => ((f3_readPart x0 (10031 : Int32) w6).bind fun z8 => (if z8.1 = (0 : Int32) then (some ((0 : Int32), z8.2)) else (lw (sI z8.2 x0 9 (wi z8.2 x0 7)) fun w12 => ((f3_readPart x0 (10032 : Int32) w12).bind fun z14 => (if z14.1 = (0 : Int32) then (some ((0 : Int32), z14.2)) else ((f3_token x0 z14.2).bind fun z18 => (if z18.1 = (10040 : Int32) then (some ((1 : Int32), z18.2)) else (some ((0 : Int32), z18.2))))))))))))
theorem wpf3_readText (X : CX) (w0 : Wd) (x0 : Nat) (w : Wd) : WPe rtI X (mX3_readText, 49, 0, 0, w0) 0 0 (f3_readText x0 w) 0 [(0, vR x0)] [] w := by
  unfold f3_readText
  refine WPe_aload_n (pc := 0) 0 (dd dtX3_readText 0 rfl) rfl ?_
  refine WPe_sipush (pc := 1) (10030 : Int32) (dd dtX3_readText 1 rfl) (by decide) ?_
  refine WPe_ck fun h1 => ?_
  refine WPe_callV (pc := 4) (rtc := rtI) (Mc := mX3_readPart) (d' := 48) (mc' := 0) (ms' := 0) [vI (10030 : Int32)] [] rfl (dd dtX3_readText 2 rfl) (okf3_readPart x0 (10030 : Int32) w) moX3_readPart miX3_readPart (bw_mem1 180 rfl rfl) (Or.inl ⟨_, _, _, _, (shE h1), rfl⟩) rfl (Nat.le_of_ble_eq_true rfl) ⟨(Nat.le_of_ble_eq_true rfl), (Nat.le_of_ble_eq_true rfl)⟩ ⟨(Nat.le_of_ble_eq_true rfl), (Nat.le_of_ble_eq_true rfl)⟩ (fun z2 h3 e4 => ?_)
  refine WPe_st (st2 := [vI z2.1]) rfl ?_
  refine WPe_if_ne (pc := 7) 12 (dd dtX3_readText 3 rfl) (by decide) (fun h5 => ?_) (fun h5 => ?_)
  · refine WPe_iconst (pc := 10) (0 : Int32) (dd dtX3_readText 4 rfl) (by decide) ?_
    exact WPe_zreturn (pc := 11) (ty := .boolean) (dd dtX3_readText 5 rfl) rfl rfl rfl ⟨(Nat.le_of_ble_eq_true rfl), (Nat.le_of_ble_eq_true rfl)⟩
  · refine WPe_aload_n (pc := 12) 0 (dd dtX3_readText 6 rfl) rfl ?_
    refine WPe_aload_n (pc := 13) 0 (dd dtX3_readText 7 rfl) rfl ?_
    refine WPe_getI (pc := 14) (t := 3) (C := RX3) (T := TX3) 7 (dd dtX3_readText 8 rfl) (e4.at (shE h1) (by decide)) rfl (Nat.le_of_ble_eq_true rfl) rfl (bw_mem1 37 rfl rfl) ?_
    refine WPe_putI (pc := 17) (t := 3) (C := RX3) (T := TX3) 8 (dd dtX3_readText 9 rfl) (e4.at (shE h1) (by decide)) rfl (Nat.le_of_ble_eq_true rfl) (bw_mem1 38 rfl rfl) (Or.inl rfl) rfl rfl rfl ?_
    refine WPe_lw fun w6 e7 => ?_
    refine WPe_aload_n (pc := 20) 0 (dd dtX3_readText 10 rfl) rfl ?_
    refine WPe_sipush (pc := 21) (10031 : Int32) (dd dtX3_readText 11 rfl) (by decide) ?_
    refine WPe_callV (pc := 24) (rtc := rtI) (Mc := mX3_readPart) (d' := 48) (mc' := 0) (ms' := 0) [vI (10031 : Int32)] [] rfl (dd dtX3_readText 12 rfl) (okf3_readPart x0 (10031 : Int32) w6) moX3_readPart miX3_readPart (bw_mem1 180 rfl rfl) (Or.inl ⟨_, _, _, _, (shI e7 (e4.at (shE h1) (by decide))), rfl⟩) rfl (Nat.le_of_ble_eq_true rfl) ⟨(Nat.le_of_ble_eq_true rfl), (Nat.le_of_ble_eq_true rfl)⟩ ⟨(Nat.le_of_ble_eq_true rfl), (Nat.le_of_ble_eq_true rfl)⟩ (fun z8 h9 e10 => ?_)
    refine WPe_st (st2 := [vI z8.1]) rfl ?_
    refine WPe_if_ne (pc := 27) 32 (dd dtX3_readText 13 rfl) (by decide) (fun h11 => ?_) (fun h11 => ?_)
    · refine WPe_iconst (pc := 30) (0 : Int32) (dd dtX3_readText 14 rfl) (by decide) ?_
      exact WPe_zreturn (pc := 31) (ty := .boolean) (dd dtX3_readText 15 rfl) rfl rfl rfl ⟨(Nat.le_of_ble_eq_true rfl), (Nat.le_of_ble_eq_true rfl)⟩
    · refine WPe_aload_n (pc := 32) 0 (dd dtX3_readText 16 rfl) rfl ?_
      refine WPe_aload_n (pc := 33) 0 (dd dtX3_readText 17 rfl) rfl ?_
      refine WPe_getI (pc := 34) (t := 3) (C := RX3) (T := TX3) 7 (dd dtX3_readText 18 rfl) (e10.at (shI e7 (e4.at (shE h1) (by decide))) (by decide)) rfl (Nat.le_of_ble_eq_true rfl) rfl (bw_mem1 37 rfl rfl) ?_
      refine WPe_putI (pc := 37) (t := 3) (C := RX3) (T := TX3) 9 (dd dtX3_readText 19 rfl) (e10.at (shI e7 (e4.at (shE h1) (by decide))) (by decide)) rfl (Nat.le_of_ble_eq_true rfl) (bw_mem1 39 rfl rfl) (Or.inl rfl) rfl rfl rfl ?_
      refine WPe_lw fun w12 e13 => ?_
      refine WPe_aload_n (pc := 40) 0 (dd dtX3_readText 20 rfl) rfl ?_
      refine WPe_sipush (pc := 41) (10032 : Int32) (dd dtX3_readText 21 rfl) (by decide) ?_
      refine WPe_callV (pc := 44) (rtc := rtI) (Mc := mX3_readPart) (d' := 48) (mc' := 0) (ms' := 0) [vI (10032 : Int32)] [] rfl (dd dtX3_readText 22 rfl) (okf3_readPart x0 (10032 : Int32) w12) moX3_readPart miX3_readPart (bw_mem1 180 rfl rfl) (Or.inl ⟨_, _, _, _, (shI e13 (e10.at (shI e7 (e4.at (shE h1) (by decide))) (by decide))), rfl⟩) rfl (Nat.le_of_ble_eq_true rfl) ⟨(Nat.le_of_ble_eq_true rfl), (Nat.le_of_ble_eq_true rfl)⟩ ⟨(Nat.le_of_ble_eq_true rfl), (Nat.le_of_ble_eq_true rfl)⟩ (fun z14 h15 e16 => ?_)
      refine WPe_st (st2 := [vI z14.1]) rfl ?_
      refine WPe_if_eq (pc := 47) 64 (dd dtX3_readText 23 rfl) (by decide) (fun h17 => ?_) (fun h17 => ?_)
      · refine WPe_iconst (pc := 64) (0 : Int32) (dd dtX3_readText 30 rfl) (by decide) ?_
        exact WPe_zreturn (pc := 65) (ty := .boolean) (dd dtX3_readText 31 rfl) rfl rfl rfl ⟨(Nat.le_of_ble_eq_true rfl), (Nat.le_of_ble_eq_true rfl)⟩
      · refine WPe_aload_n (pc := 50) 0 (dd dtX3_readText 24 rfl) rfl ?_
        refine WPe_callV (pc := 51) (rtc := rtI) (Mc := mX3_token) (d' := 1) (mc' := 0) (ms' := 0) [] [] rfl (dd dtX3_readText 25 rfl) (okf3_token x0 z14.2) moX3_token miX3_token (bw_mem1 188 rfl rfl) (Or.inl ⟨_, _, _, _, (e16.at (shI e13 (e10.at (shI e7 (e4.at (shE h1) (by decide))) (by decide))) (by decide)), rfl⟩) rfl (Nat.le_of_ble_eq_true rfl) ⟨(Nat.le_of_ble_eq_true rfl), (Nat.le_of_ble_eq_true rfl)⟩ ⟨(Nat.le_of_ble_eq_true rfl), (Nat.le_of_ble_eq_true rfl)⟩ (fun z18 h19 e20 => ?_)
        refine WPe_st (st2 := [vI z18.1]) rfl ?_
        refine WPe_sipush (pc := 54) (10040 : Int32) (dd dtX3_readText 26 rfl) (by decide) ?_
        refine WPe_icmp_ne (pc := 57) 64 (dd dtX3_readText 27 rfl) (by decide) (fun h21 => ?_) (fun h21 => ?_)
        · refine WPe_iconst (pc := 60) (1 : Int32) (dd dtX3_readText 28 rfl) (by decide) ?_
          refine WPe_goto (pc := 61) 65 (dd dtX3_readText 29 rfl) (by decide) ?_
          exact WPe_zreturn (pc := 65) (ty := .boolean) (dd dtX3_readText 31 rfl) rfl rfl rfl ⟨(Nat.le_of_ble_eq_true rfl), (Nat.le_of_ble_eq_true rfl)⟩
        · refine WPe_iconst (pc := 64) (0 : Int32) (dd dtX3_readText 30 rfl) (by decide) ?_
          exact WPe_zreturn (pc := 65) (ty := .boolean) (dd dtX3_readText 31 rfl) rfl rfl rfl ⟨(Nat.le_of_ble_eq_true rfl), (Nat.le_of_ble_eq_true rfl)⟩
theorem okf3_readText (x0 : Nat) (w : Wd) : ∀ z, f3_readText x0 w = some z → OkM mX3_readText 49 0 0 [vR x0] w (rtI z.1) z.2 :=
  OkM.of (rt := rtI) moX3_readText (Nat.le_of_ble_eq_true rfl) (fun X => wpf3_readText X w x0 w)
def tbX3_faultPlace : List (Nat × Instr × Nat) := [(0, .aload_n 0, 1), (1, .invokevirtual 46, 3), (4, .aload_n 0, 1), (5, .iconst 0, 1), (6, .putfield 49, 3), (9, .aload_n 0, 1), (10, .iconst 0, 1), (11, .putfield 52, 3), (14, .aload_n 0, 1), (15, .invokevirtual 55, 3), (18, .ifCond .eq 5, 3), (21, .iconst (-1), 1), (22, .ireturn, 1), (23, .aload_n 0, 1), (24, .getfield 49, 3), (27, .aload_n 0, 1), (28, .getfield 59, 3), (31, .if_icmp .ge 15, 3), (34, .aload_n 0, 1), (35, .getfield 18, 3), (38, .aload_n 0, 1), (39, .getfield 49, 3), (42, .iaload, 1), (43, .goto 7, 3), (46, .aload_n 0, 1), (47, .getfield 24, 3), (50, .ireturn, 1)]
set_option maxRecDepth 20000 in
theorem dtX3_faultPlace : ∀ x ∈ tbX3_faultPlace, decode cX3_faultPlace x.1 = .ok x.2 := by decide +kernel
noncomputable def f3_faultPlace (x0 : Nat) (w : Wd) : Option (Int32 × Wd) :=
  ck (tg w x0 = 3) ((f3_scan x0 w).bind fun z2 => (lw (sI z2.2 x0 5 (0 : Int32)) fun w5 => (lw (sI w5 x0 7 (0 : Int32)) fun w7 => ((f3_readText x0 w7).bind fun z9 => (if z9.1 = (0 : Int32) then (if (wi z9.2 x0 4) ≤ (wi z9.2 x0 5) then (some ((wi z9.2 x0 1), z9.2)) else (ck (tg z9.2 (wr z9.2 x0 3) = 20 ∧ vp_in (wi z9.2 x0 5) (ln z9.2 (wr z9.2 x0 3))) (some ((wi z9.2 (wr z9.2 x0 3) ((wi z9.2 x0 5)).toNatClampNeg), z9.2)))) else (some ((-1 : Int32), z9.2)))))))
theorem wpf3_faultPlace (X : CX) (w0 : Wd) (x0 : Nat) (w : Wd) : WPe rtI X (mX3_faultPlace, 50, 0, 0, w0) 0 0 (f3_faultPlace x0 w) 0 [(0, vR x0)] [] w := by
  unfold f3_faultPlace
  refine WPe_aload_n (pc := 0) 0 (dd dtX3_faultPlace 0 rfl) rfl ?_
  refine WPe_ck fun h1 => ?_
  refine WPe_callV (pc := 1) (rtc := rtV) (Mc := mX3_scan) (d' := 8) (mc' := 0) (ms' := 0) [] [] rfl (dd dtX3_faultPlace 1 rfl) (okf3_scan x0 w) moX3_scan miX3_scan (bw_mem1 127 rfl rfl) (Or.inl ⟨_, _, _, _, (shE h1), rfl⟩) rfl (Nat.le_of_ble_eq_true rfl) ⟨(Nat.le_of_ble_eq_true rfl), (Nat.le_of_ble_eq_true rfl)⟩ ⟨(Nat.le_of_ble_eq_true rfl), (Nat.le_of_ble_eq_true rfl)⟩ (fun z2 h3 e4 => ?_)
  refine WPe_st (st2 := []) rfl ?_
  refine WPe_aload_n (pc := 4) 0 (dd dtX3_faultPlace 2 rfl) rfl ?_
  refine WPe_iconst (pc := 5) (0 : Int32) (dd dtX3_faultPlace 3 rfl) (by decide) ?_
  refine WPe_putI (pc := 6) (t := 3) (C := RX3) (T := TX3) 5 (dd dtX3_faultPlace 4 rfl) (e4.at (shE h1) (by decide)) rfl (Nat.le_of_ble_eq_true rfl) (bw_mem1 35 rfl rfl) (Or.inl rfl) rfl rfl rfl ?_
  refine WPe_lw fun w5 e6 => ?_
  refine WPe_aload_n (pc := 9) 0 (dd dtX3_faultPlace 5 rfl) rfl ?_
  refine WPe_iconst (pc := 10) (0 : Int32) (dd dtX3_faultPlace 6 rfl) (by decide) ?_
  refine WPe_putI (pc := 11) (t := 3) (C := RX3) (T := TX3) 7 (dd dtX3_faultPlace 7 rfl) (shI e6 (e4.at (shE h1) (by decide))) rfl (Nat.le_of_ble_eq_true rfl) (bw_mem1 37 rfl rfl) (Or.inl rfl) rfl rfl rfl ?_
  refine WPe_lw fun w7 e8 => ?_
  refine WPe_aload_n (pc := 14) 0 (dd dtX3_faultPlace 8 rfl) rfl ?_
  refine WPe_callV (pc := 15) (rtc := rtI) (Mc := mX3_readText) (d' := 49) (mc' := 0) (ms' := 0) [] [] rfl (dd dtX3_faultPlace 9 rfl) (okf3_readText x0 w7) moX3_readText miX3_readText (bw_mem1 176 rfl rfl) (Or.inl ⟨_, _, _, _, (shI e8 (shI e6 (e4.at (shE h1) (by decide)))), rfl⟩) rfl (Nat.le_of_ble_eq_true rfl) ⟨(Nat.le_of_ble_eq_true rfl), (Nat.le_of_ble_eq_true rfl)⟩ ⟨(Nat.le_of_ble_eq_true rfl), (Nat.le_of_ble_eq_true rfl)⟩ (fun z9 h10 e11 => ?_)
  refine WPe_st (st2 := [vI z9.1]) rfl ?_
  refine WPe_if_eq (pc := 18) 23 (dd dtX3_faultPlace 10 rfl) (by decide) (fun h12 => ?_) (fun h12 => ?_)
  · refine WPe_aload_n (pc := 23) 0 (dd dtX3_faultPlace 13 rfl) rfl ?_
    refine WPe_getI (pc := 24) (t := 3) (C := RX3) (T := TX3) 5 (dd dtX3_faultPlace 14 rfl) (e11.at (shI e8 (shI e6 (e4.at (shE h1) (by decide)))) (by decide)) rfl (Nat.le_of_ble_eq_true rfl) rfl (bw_mem1 35 rfl rfl) ?_
    refine WPe_aload_n (pc := 27) 0 (dd dtX3_faultPlace 15 rfl) rfl ?_
    refine WPe_getI (pc := 28) (t := 3) (C := RX3) (T := TX3) 4 (dd dtX3_faultPlace 16 rfl) (e11.at (shI e8 (shI e6 (e4.at (shE h1) (by decide)))) (by decide)) rfl (Nat.le_of_ble_eq_true rfl) rfl (bw_mem1 34 rfl rfl) ?_
    refine WPe_icmp_ge (pc := 31) 46 (dd dtX3_faultPlace 17 rfl) (by decide) (fun h13 => ?_) (fun h13 => ?_)
    · refine WPe_aload_n (pc := 46) 0 (dd dtX3_faultPlace 24 rfl) rfl ?_
      refine WPe_getI (pc := 47) (t := 3) (C := RX3) (T := TX3) 1 (dd dtX3_faultPlace 25 rfl) (e11.at (shI e8 (shI e6 (e4.at (shE h1) (by decide)))) (by decide)) rfl (Nat.le_of_ble_eq_true rfl) rfl (bw_mem1 31 rfl rfl) ?_
      exact WPe_ireturn (pc := 50) (dd dtX3_faultPlace 26 rfl) rfl rfl ⟨(Nat.le_of_ble_eq_true rfl), (Nat.le_of_ble_eq_true rfl)⟩
    · refine WPe_aload_n (pc := 34) 0 (dd dtX3_faultPlace 18 rfl) rfl ?_
      refine WPe_getR (pc := 35) (t := 3) (C := RX3) (T := TX3) 3 (dd dtX3_faultPlace 19 rfl) (e11.at (shI e8 (shI e6 (e4.at (shE h1) (by decide)))) (by decide)) rfl (Nat.le_of_ble_eq_true rfl) rfl (bw_mem1 33 rfl rfl) ?_
      refine WPe_aload_n (pc := 38) 0 (dd dtX3_faultPlace 20 rfl) rfl ?_
      refine WPe_getI (pc := 39) (t := 3) (C := RX3) (T := TX3) 5 (dd dtX3_faultPlace 21 rfl) (e11.at (shI e8 (shI e6 (e4.at (shE h1) (by decide)))) (by decide)) rfl (Nat.le_of_ble_eq_true rfl) rfl (bw_mem1 35 rfl rfl) ?_
      refine WPe_ck fun h14 => ?_
      refine WPe_iald (pc := 42) (dd dtX3_faultPlace 22 rfl) (shE h14.1) h14.2 ?_
      refine WPe_goto (pc := 43) 50 (dd dtX3_faultPlace 23 rfl) (by decide) ?_
      exact WPe_ireturn (pc := 50) (dd dtX3_faultPlace 26 rfl) rfl rfl ⟨(Nat.le_of_ble_eq_true rfl), (Nat.le_of_ble_eq_true rfl)⟩
  · refine WPe_iconst (pc := 21) (-1 : Int32) (dd dtX3_faultPlace 11 rfl) (by decide) ?_
    exact WPe_ireturn (pc := 22) (dd dtX3_faultPlace 12 rfl) rfl rfl ⟨(Nat.le_of_ble_eq_true rfl), (Nat.le_of_ble_eq_true rfl)⟩
theorem okf3_faultPlace (x0 : Nat) (w : Wd) : ∀ z, f3_faultPlace x0 w = some z → OkM mX3_faultPlace 50 0 0 [vR x0] w (rtI z.1) z.2 :=
  OkM.of (rt := rtI) moX3_faultPlace (Nat.le_of_ble_eq_true rfl) (fun X => wpf3_faultPlace X w x0 w)
def tbJ7_copyOf_59c91 : List (Nat × Instr × Nat) := [(0, .iload_n 1, 1), (1, .aload_n 0, 1), (2, .arraylength, 1), (3, .if_icmp .ne 11, 3), (6, .aload_n 0, 1), (7, .invokevirtual 316, 3), (10, .checkcast 317, 3), (13, .areturn, 1), (14, .iload_n 1, 1), (15, .newarray .int, 2), (17, .astore_n 2, 1), (18, .aload_n 0, 1), (19, .iconst 0, 1), (20, .aload_n 2, 1), (21, .iconst 0, 1), (22, .aload_n 0, 1), (23, .arraylength, 1), (24, .iload_n 1, 1), (25, .invokestatic 304, 3), (28, .invokestatic 150, 3), (31, .aload_n 2, 1), (32, .areturn, 1)]
set_option maxRecDepth 20000 in
theorem dtJ7_copyOf_59c91 : ∀ x ∈ tbJ7_copyOf_59c91, decode cJ7_copyOf_59c91 x.1 = .ok x.2 := by decide +kernel
noncomputable def fJ7_copyOf_59c91 (x0 : Nat) (x1 : Int32) (w : Wd) : Option (Nat × Wd) :=
  ck (tg w x0 = 20) (if x1 = (Int32.ofNat (ln w x0)) then (none) else (ck (¬ x1 < 0 ∧ (x1).toNatClampNeg ≤ 160) (lw (wN w 20 ((x1).toNatClampNeg)) fun w5 => (ck (¬ (0 : Int32) < 0 ∧ ¬ (0 : Int32) < 0 ∧ ¬ (if x1 < (Int32.ofNat (ln w5 x0)) then x1 else (Int32.ofNat (ln w5 x0))) < 0 ∧ ((0 : Int32)).toNatClampNeg + ((if x1 < (Int32.ofNat (ln w5 x0)) then x1 else (Int32.ofNat (ln w5 x0)))).toNatClampNeg ≤ (ln w5 x0) ∧ ((0 : Int32)).toNatClampNeg + ((if x1 < (Int32.ofNat (ln w5 x0)) then x1 else (Int32.ofNat (ln w5 x0)))).toNatClampNeg ≤ (ln w5 (nx w))) (lw (wC w5 x0 ((0 : Int32)).toNatClampNeg (nx w) ((0 : Int32)).toNatClampNeg ((if x1 < (Int32.ofNat (ln w5 x0)) then x1 else (Int32.ofNat (ln w5 x0)))).toNatClampNeg) fun w8 => (some ((nx w), w8)))))))
theorem wpfJ7_copyOf_59c91 (X : CX) (w0 : Wd) (x0 : Nat) (x1 : Int32) (w : Wd) : WPe rtR X (mJ7_copyOf_59c91, 1, 1, 160, w0) 0 0 (fJ7_copyOf_59c91 x0 x1 w) 0 [(0, vR x0), (1, vI x1)] [] w := by
  unfold fJ7_copyOf_59c91
  refine WPe_iload_n (pc := 0) 1 (dd dtJ7_copyOf_59c91 0 rfl) rfl ?_
  refine WPe_aload_n (pc := 1) 0 (dd dtJ7_copyOf_59c91 1 rfl) rfl ?_
  refine WPe_ck fun h1 => ?_
  refine WPe_alen (pc := 2) (dd dtJ7_copyOf_59c91 2 rfl) (shL (shE h1)) ⟨(Nat.le_of_ble_eq_true rfl), (Nat.le_of_ble_eq_true rfl)⟩ ?_
  refine WPe_icmp_ne (pc := 3) 14 (dd dtJ7_copyOf_59c91 3 rfl) (by decide) (fun h2 => ?_) (fun h2 => ?_)
  · refine WPe_aload_n (pc := 6) 0 (dd dtJ7_copyOf_59c91 4 rfl) rfl ?_
    exact WPe_none
  · refine WPe_iload_n (pc := 14) 1 (dd dtJ7_copyOf_59c91 8 rfl) rfl ?_
    refine WPe_ck fun h4 => ?_
    refine WPe_nx fun n3 => ?_
    refine WPe_newI (pc := 15) (N := (x1).toNatClampNeg) (dd dtJ7_copyOf_59c91 9 rfl) (bw_mem1 61 rfl rfl) h4.1 rfl (by have := h4.2; omega) ⟨(Nat.le_of_ble_eq_true rfl), by have := h4.2; show 0 + _ ≤ 160; omega⟩ ?_
    refine WPe_wide (k := 1) (k2 := 160) (Nat.le_refl _) (by have := h4.2; omega) ?_
    refine WPe_lw fun w5 e6 => ?_
    refine WPe_astore_n (pc := 17) (ls' := [(2, vR (nx w)), (0, vR x0), (1, vI x1)]) (dd dtJ7_copyOf_59c91 10 rfl) (Nat.le_of_ble_eq_true rfl) rfl ?_
    refine WPe_aload_n (pc := 18) 1 (dd dtJ7_copyOf_59c91 11 rfl) rfl ?_
    refine WPe_iconst (pc := 19) (0 : Int32) (dd dtJ7_copyOf_59c91 12 rfl) (by decide) ?_
    refine WPe_aload_n (pc := 20) 0 (dd dtJ7_copyOf_59c91 13 rfl) rfl ?_
    refine WPe_iconst (pc := 21) (0 : Int32) (dd dtJ7_copyOf_59c91 14 rfl) (by decide) ?_
    refine WPe_aload_n (pc := 22) 1 (dd dtJ7_copyOf_59c91 15 rfl) rfl ?_
    refine WPe_alen (pc := 23) (dd dtJ7_copyOf_59c91 16 rfl) (shL (shX n3 e6 (shE h1) (by decide))) ⟨(Nat.le_of_ble_eq_true rfl), (Nat.le_of_ble_eq_true rfl)⟩ ?_
    refine WPe_iload_n (pc := 24) 2 (dd dtJ7_copyOf_59c91 17 rfl) rfl ?_
    refine WPe_mmin (pc := 25) (dd dtJ7_copyOf_59c91 18 rfl) (bw_mem1 236 rfl rfl) mmmin1 mm2 mmmin3 (Nat.le_of_ble_eq_true rfl) (Nat.le_of_ble_eq_true rfl) ⟨(Nat.le_of_ble_eq_true rfl), (Nat.le_of_ble_eq_true rfl)⟩ ?_
    refine WPe_ck fun h7 => ?_
    refine WPe_acopy (pc := 28) (dd dtJ7_copyOf_59c91 19 rfl) (bw_mem1 239 rfl rfl) ac2 ac3 ac4 (shL (shX n3 e6 (shE h1) (by decide))) (shL (shN e6)) h7.1 h7.2.1 h7.2.2.1 h7.2.2.2.1 h7.2.2.2.2 (Nat.le_of_ble_eq_true rfl) (Nat.le_of_ble_eq_true rfl) ?_
    refine WPe_lw fun w8 e9 => ?_
    refine WPe_aload_n (pc := 31) 0 (dd dtJ7_copyOf_59c91 20 rfl) rfl ?_
    exact WPe_areturn (pc := 32) (dd dtJ7_copyOf_59c91 21 rfl) rfl rfl (Or.inr ⟨_, rfl⟩) ⟨(Nat.le_of_ble_eq_true rfl), (Nat.le_of_ble_eq_true rfl)⟩
theorem okfJ7_copyOf_59c91 (x0 : Nat) (x1 : Int32) (w : Wd) : ∀ z, fJ7_copyOf_59c91 x0 x1 w = some z → OkM mJ7_copyOf_59c91 1 1 160 [vR x0, vI x1] w (rtR z.1) z.2 :=
  OkM.of (rt := rtR) moJ7_copyOf_59c91 (Nat.le_of_ble_eq_true rfl) (fun X => wpfJ7_copyOf_59c91 X w x0 x1 w)
def tbX3_textRead : List (Nat × Instr × Nat) := [(0, .new 62, 3), (3, .dup, 1), (4, .iload_n 1, 1), (5, .aload_n 0, 1), (6, .getfield 21, 3), (9, .aload_n 0, 1), (10, .getfield 52, 3), (13, .invokestatic 64, 3), (16, .aload_n 0, 1), (17, .getfield 70, 3), (20, .aload_n 0, 1), (21, .getfield 73, 3), (24, .invokespecial 76, 3), (27, .areturn, 1)]
set_option maxRecDepth 20000 in
theorem dtX3_textRead : ∀ x ∈ tbX3_textRead, decode cX3_textRead x.1 = .ok x.2 := by decide +kernel
noncomputable def f3_textRead (x0 : Nat) (x1 : Int32) (w : Wd) : Option (Nat × Wd) :=
  lw (wN w 4 0) fun w2 => (ck (tg w2 x0 = 3) ((fJ7_copyOf_59c91 (wr w2 x0 6) (wi w2 x0 7) w2).bind fun z5 => ((f4_init (nx w) x1 z5.1 (wi z5.2 x0 8) (wi z5.2 x0 9) z5.2).bind fun z9 => (some ((nx w), z9.2)))))
theorem wpf3_textRead (X : CX) (w0 : Wd) (x0 : Nat) (x1 : Int32) (w : Wd) : WPe rtR X (mX3_textRead, 2, 3, 205, w0) 0 0 (f3_textRead x0 x1 w) 0 [(0, vR x0), (1, vI x1)] [] w := by
  unfold f3_textRead
  refine WPe_nx fun n1 => ?_
  refine WPe_newO (pc := 0) (N := 5) (t := 4) (C := RX4) (T := TX4) (dd dtX3_textRead 0 rfl) rfl (bw_mem1 224 rfl rfl) (bw_mem1 225 rfl rfl) (bw_mem1 7 rfl rfl) nk4 ⟨(Nat.le_of_ble_eq_true rfl), (Nat.le_of_ble_eq_true rfl)⟩ ?_
  refine WPe_lw fun w2 e3 => ?_
  refine WPe_dup (pc := 3) (dd dtX3_textRead 1 rfl) rfl ?_
  refine WPe_iload_n (pc := 4) 1 (dd dtX3_textRead 2 rfl) rfl ?_
  refine WPe_aload_n (pc := 5) 0 (dd dtX3_textRead 3 rfl) rfl ?_
  refine WPe_ck fun h4 => ?_
  refine WPe_getR (pc := 6) (t := 3) (C := RX3) (T := TX3) 6 (dd dtX3_textRead 4 rfl) (shE h4) rfl (Nat.le_of_ble_eq_true rfl) rfl (bw_mem1 36 rfl rfl) ?_
  refine WPe_aload_n (pc := 9) 0 (dd dtX3_textRead 5 rfl) rfl ?_
  refine WPe_getI (pc := 10) (t := 3) (C := RX3) (T := TX3) 7 (dd dtX3_textRead 6 rfl) (shE h4) rfl (Nat.le_of_ble_eq_true rfl) rfl (bw_mem1 37 rfl rfl) ?_
  refine WPe_callS (pc := 13) (rtc := rtR) (Mc := mJ7_copyOf_59c91) (d' := 1) (mc' := 1) (ms' := 160) [vR (wr w2 x0 6), vI (wi w2 x0 7)] [vI x1, vR (nx w), vR (nx w)] rfl (dd dtX3_textRead 7 rfl) (okfJ7_copyOf_59c91 (wr w2 x0 6) (wi w2 x0 7) w2) moJ7_copyOf_59c91 msJ7_copyOf_59c91 (bw_mem1 226 rfl rfl) rfl (Nat.le_of_ble_eq_true rfl) ⟨(Nat.le_of_ble_eq_true rfl), (Nat.le_of_ble_eq_true rfl)⟩ ⟨(Nat.le_of_ble_eq_true rfl), (Nat.le_of_ble_eq_true rfl)⟩ (fun z5 h6 e7 => ?_)
  refine WPe_st (st2 := [vR z5.1, vI x1, vR (nx w), vR (nx w)]) rfl ?_
  refine WPe_aload_n (pc := 16) 0 (dd dtX3_textRead 8 rfl) rfl ?_
  refine WPe_getI (pc := 17) (t := 3) (C := RX3) (T := TX3) 8 (dd dtX3_textRead 9 rfl) (e7.at (shE h4) (by decide)) rfl (Nat.le_of_ble_eq_true rfl) rfl (bw_mem1 38 rfl rfl) ?_
  refine WPe_aload_n (pc := 20) 0 (dd dtX3_textRead 10 rfl) rfl ?_
  refine WPe_getI (pc := 21) (t := 3) (C := RX3) (T := TX3) 9 (dd dtX3_textRead 11 rfl) (e7.at (shE h4) (by decide)) rfl (Nat.le_of_ble_eq_true rfl) rfl (bw_mem1 39 rfl rfl) ?_
  refine WPe_pos (e7.at (shN e3) (by decide)) (by decide) fun h8 => ?_
  refine WPe_callI (pc := 24) (rtc := rtV) (Mc := mX4_init) (d' := 1) (mc' := 1) (ms' := 40) [vI x1, vR z5.1, vI (wi z5.2 x0 8), vI (wi z5.2 x0 9)] [vR (nx w)] rfl (dd dtX3_textRead 12 rfl) (okf4_init (nx w) x1 z5.1 (wi z5.2 x0 8) (wi z5.2 x0 9) z5.2) moX4_init icX4_init ⟨rfl, rfl⟩ (Or.inl (bw_mem2 2 rfl rfl)) h8 rfl (Nat.le_of_ble_eq_true rfl) ⟨(Nat.le_of_ble_eq_true rfl), (Nat.le_of_ble_eq_true rfl)⟩ ⟨(Nat.le_of_ble_eq_true rfl), (Nat.le_of_ble_eq_true rfl)⟩ (fun z9 h10 e11 => ?_)
  refine WPe_st (st2 := [vR (nx w)]) rfl ?_
  exact WPe_areturn (pc := 27) (dd dtX3_textRead 13 rfl) rfl rfl (Or.inl ⟨_, rfl⟩) ⟨(Nat.le_of_ble_eq_true rfl), (Nat.le_of_ble_eq_true rfl)⟩
theorem okf3_textRead (x0 : Nat) (x1 : Int32) (w : Wd) : ∀ z, f3_textRead x0 x1 w = some z → OkM mX3_textRead 2 3 205 [vR x0, vI x1] w (rtR z.1) z.2 :=
  OkM.of (rt := rtR) moX3_textRead (Nat.le_of_ble_eq_true rfl) (fun X => wpf3_textRead X w x0 x1 w)
