def tbX0_init : List (Nat × Instr × Nat) := [(0, .aload_n 0, 1), (1, .invokespecial 1, 3), (4, .return_, 1)]
set_option maxRecDepth 20000 in
theorem dtX0_init : ∀ x ∈ tbX0_init, decode cX0_init x.1 = .ok x.2 := by decide +kernel
noncomputable def f0_init (x0 : Nat) (w : Wd) : Option (Unit × Wd) :=
  ck (tg w x0 = 0) (some ((), w))
theorem wpf0_init (X : CX) (w0 : Wd) (x0 : Nat) (w : Wd) : WPe rtV X (mX0_init, 1, 0, 0, w0) 0 0 (f0_init x0 w) 0 [(0, vR x0)] [] w := by
  unfold f0_init
  refine WPe_aload_n (pc := 0) 0 (dd dtX0_init 0 rfl) rfl ?_
  refine WPe_ck fun h1 => ?_
  refine WPe_pos (shE h1) (by decide) fun h2 => ?_
  refine WPe_objInit (pc := 1) (dd dtX0_init 1 rfl) h2 (bw_mem2 38 rfl rfl) oi1 oi2 (Nat.le_of_ble_eq_true rfl) (Nat.le_of_ble_eq_true rfl) ?_
  exact WPe_return (pc := 4) (dd dtX0_init 2 rfl) rfl rfl ⟨(Nat.le_of_ble_eq_true rfl), (Nat.le_of_ble_eq_true rfl)⟩
theorem okf0_init (x0 : Nat) (w : Wd) : ∀ z, f0_init x0 w = some z → OkM mX0_init 1 0 0 [vR x0] w (rtV z.1) z.2 :=
  OkM.of (rt := rtV) moX0_init (Nat.le_of_ble_eq_true rfl) (fun X => wpf0_init X w x0 w)
def tbX0_becomeAs : List (Nat × Instr × Nat) := [(0, .aload_n 0, 1), (1, .aload_n 1, 1), (2, .getfield 7, 3), (5, .putfield 7, 3), (8, .aload_n 0, 1), (9, .aload_n 1, 1), (10, .getfield 13, 3), (13, .putfield 13, 3), (16, .aload_n 0, 1), (17, .aload_n 1, 1), (18, .getfield 16, 3), (21, .putfield 16, 3), (24, .aload_n 0, 1), (25, .aload_n 1, 1), (26, .getfield 19, 3), (29, .putfield 19, 3), (32, .aload_n 0, 1), (33, .aload_n 1, 1), (34, .getfield 22, 3), (37, .putfield 22, 3), (40, .return_, 1)]
set_option maxRecDepth 20000 in
theorem dtX0_becomeAs : ∀ x ∈ tbX0_becomeAs, decode cX0_becomeAs x.1 = .ok x.2 := by decide +kernel
noncomputable def f0_becomeAs (x0 : Nat) (x1 : Nat) (w : Wd) : Option (Unit × Wd) :=
  ck (tg w x1 = 0) (ck (tg w x0 = 0) (lw (sI w x0 0 (wi w x1 0)) fun w3 => (lw (sI w3 x0 1 (wi w3 x1 1)) fun w5 => (lw (sI w5 x0 2 (wi w5 x1 2)) fun w7 => (lw (sI w7 x0 3 (wi w7 x1 3)) fun w9 => (lw (sI w9 x0 4 (wi w9 x1 4)) fun w11 => (some ((), w11))))))))
theorem wpf0_becomeAs (X : CX) (w0 : Wd) (x0 : Nat) (x1 : Nat) (w : Wd) : WPe rtV X (mX0_becomeAs, 1, 0, 0, w0) 0 0 (f0_becomeAs x0 x1 w) 0 [(0, vR x0), (1, vR x1)] [] w := by
  unfold f0_becomeAs
  refine WPe_aload_n (pc := 0) 0 (dd dtX0_becomeAs 0 rfl) rfl ?_
  refine WPe_aload_n (pc := 1) 1 (dd dtX0_becomeAs 1 rfl) rfl ?_
  refine WPe_ck fun h1 => ?_
  refine WPe_getI (pc := 2) (t := 0) (C := RX0) (T := TX0) 0 (dd dtX0_becomeAs 2 rfl) (shE h1) rfl (Nat.le_of_ble_eq_true rfl) rfl (bw_mem2 39 rfl rfl) ?_
  refine WPe_ck fun h2 => ?_
  refine WPe_putI (pc := 5) (t := 0) (C := RX0) (T := TX0) 0 (dd dtX0_becomeAs 3 rfl) (shE h2) rfl (Nat.le_of_ble_eq_true rfl) (bw_mem2 39 rfl rfl) (Or.inl rfl) rfl rfl rfl ?_
  refine WPe_lw fun w3 e4 => ?_
  refine WPe_aload_n (pc := 8) 0 (dd dtX0_becomeAs 4 rfl) rfl ?_
  refine WPe_aload_n (pc := 9) 1 (dd dtX0_becomeAs 5 rfl) rfl ?_
  refine WPe_getI (pc := 10) (t := 0) (C := RX0) (T := TX0) 1 (dd dtX0_becomeAs 6 rfl) (shI e4 (shE h1)) rfl (Nat.le_of_ble_eq_true rfl) rfl (bw_mem2 42 rfl rfl) ?_
  refine WPe_putI (pc := 13) (t := 0) (C := RX0) (T := TX0) 1 (dd dtX0_becomeAs 7 rfl) (shI e4 (shE h2)) rfl (Nat.le_of_ble_eq_true rfl) (bw_mem2 42 rfl rfl) (Or.inl rfl) rfl rfl rfl ?_
  refine WPe_lw fun w5 e6 => ?_
  refine WPe_aload_n (pc := 16) 0 (dd dtX0_becomeAs 8 rfl) rfl ?_
  refine WPe_aload_n (pc := 17) 1 (dd dtX0_becomeAs 9 rfl) rfl ?_
  refine WPe_getI (pc := 18) (t := 0) (C := RX0) (T := TX0) 2 (dd dtX0_becomeAs 10 rfl) (shI e6 (shI e4 (shE h1))) rfl (Nat.le_of_ble_eq_true rfl) rfl (bw_mem2 46 rfl rfl) ?_
  refine WPe_putI (pc := 21) (t := 0) (C := RX0) (T := TX0) 2 (dd dtX0_becomeAs 11 rfl) (shI e6 (shI e4 (shE h2))) rfl (Nat.le_of_ble_eq_true rfl) (bw_mem2 46 rfl rfl) (Or.inl rfl) rfl rfl rfl ?_
  refine WPe_lw fun w7 e8 => ?_
  refine WPe_aload_n (pc := 24) 0 (dd dtX0_becomeAs 12 rfl) rfl ?_
  refine WPe_aload_n (pc := 25) 1 (dd dtX0_becomeAs 13 rfl) rfl ?_
  refine WPe_getI (pc := 26) (t := 0) (C := RX0) (T := TX0) 3 (dd dtX0_becomeAs 14 rfl) (shI e8 (shI e6 (shI e4 (shE h1)))) rfl (Nat.le_of_ble_eq_true rfl) rfl (bw_mem2 50 rfl rfl) ?_
  refine WPe_putI (pc := 29) (t := 0) (C := RX0) (T := TX0) 3 (dd dtX0_becomeAs 15 rfl) (shI e8 (shI e6 (shI e4 (shE h2)))) rfl (Nat.le_of_ble_eq_true rfl) (bw_mem2 50 rfl rfl) (Or.inl rfl) rfl rfl rfl ?_
  refine WPe_lw fun w9 e10 => ?_
  refine WPe_aload_n (pc := 32) 0 (dd dtX0_becomeAs 16 rfl) rfl ?_
  refine WPe_aload_n (pc := 33) 1 (dd dtX0_becomeAs 17 rfl) rfl ?_
  refine WPe_getI (pc := 34) (t := 0) (C := RX0) (T := TX0) 4 (dd dtX0_becomeAs 18 rfl) (shI e10 (shI e8 (shI e6 (shI e4 (shE h1))))) rfl (Nat.le_of_ble_eq_true rfl) rfl (bw_mem2 54 rfl rfl) ?_
  refine WPe_putI (pc := 37) (t := 0) (C := RX0) (T := TX0) 4 (dd dtX0_becomeAs 19 rfl) (shI e10 (shI e8 (shI e6 (shI e4 (shE h2))))) rfl (Nat.le_of_ble_eq_true rfl) (bw_mem2 54 rfl rfl) (Or.inl rfl) rfl rfl rfl ?_
  refine WPe_lw fun w11 e12 => ?_
  exact WPe_return (pc := 40) (dd dtX0_becomeAs 20 rfl) rfl rfl ⟨(Nat.le_of_ble_eq_true rfl), (Nat.le_of_ble_eq_true rfl)⟩
theorem okf0_becomeAs (x0 : Nat) (x1 : Nat) (w : Wd) : ∀ z, f0_becomeAs x0 x1 w = some z → OkM mX0_becomeAs 1 0 0 [vR x0, vR x1] w (rtV z.1) z.2 :=
  OkM.of (rt := rtV) moX0_becomeAs (Nat.le_of_ble_eq_true rfl) (fun X => wpf0_becomeAs X w x0 x1 w)
def tbX1_init : List (Nat × Instr × Nat) := [(0, .aload_n 0, 1), (1, .invokespecial 3, 3), (4, .aload_n 0, 1), (5, .sipush 200, 3), (8, .putfield 9, 3), (11, .aload_n 0, 1), (12, .iconst 5, 1), (13, .putfield 15, 3), (16, .aload_n 0, 1), (17, .bipush 6, 2), (19, .anewarray 18, 3), (22, .putfield 20, 3), (25, .aload_n 0, 1), (26, .aload_n 1, 1), (27, .putfield 24, 3), (30, .iconst 0, 1), (31, .istore_n 2, 1), (32, .iload_n 2, 1), (33, .aload_n 0, 1), (34, .getfield 20, 3), (37, .arraylength, 1), (38, .if_icmp .ge 22, 3), (41, .aload_n 0, 1), (42, .getfield 20, 3), (45, .iload_n 2, 1), (46, .new 18, 3), (49, .dup, 1), (50, .invokespecial 28, 3), (53, .aastore, 1), (54, .iinc 2 1, 3), (57, .goto (-25), 3), (60, .return_, 1)]
set_option maxRecDepth 20000 in
theorem dtX1_init : ∀ x ∈ tbX1_init, decode cX1_init x.1 = .ok x.2 := by decide +kernel
noncomputable def b1_init_32 (k32 : Nat × Int32 → Wd → Option (Unit × Wd)) (v : Nat × Int32) (w : Wd) : Option (Unit × Wd) :=
  ck (tg w v.1 = 1) (ck (tg w (wr w v.1 6) = 22) (if (Int32.ofNat (ln w (wr w v.1 6))) ≤ v.2 then (some ((), w)) else (lw (wN w 0 0) fun w18 => ((f0_init (nx w) w18).bind fun z21 => (ck (vp_in v.2 (ln z21.2 (wr w v.1 6))) (lw (sR z21.2 (wr w v.1 6) (v.2).toNatClampNeg (nx w)) fun w25 => (k32 (v.1, (v.2 + (1 : Int32))) w25)))))))
theorem wpb1_init_32 (X : CX) (w0 : Wd) (n : Nat) (k32 : Nat × Int32 → Wd → Option (Unit × Wd)) (hk32 : ∀ (c s : Nat), c + n * 1 ≤ 8 → s + n * 5 ≤ 41 → ∀ (v : Nat × Int32) (w : Wd), WPe rtV X (mX1_init, 2, 8, 41, w0) c s (k32 v w) 32 [(0, vR v.1), (2, vI v.2)] [] w) (c s : Nat) (hc : c + (n + 1) * 1 ≤ 8) (hs : s + (n + 1) * 5 ≤ 41) (v : Nat × Int32) (w : Wd) : WPe rtV X (mX1_init, 2, 8, 41, w0) c s (b1_init_32 k32 v w) 32 [(0, vR v.1), (2, vI v.2)] [] w := by
  unfold b1_init_32
  refine WPe_iload_n (pc := 32) 1 (dd dtX1_init 17 rfl) rfl ?_
  refine WPe_aload_n (pc := 33) 0 (dd dtX1_init 18 rfl) rfl ?_
  refine WPe_ck fun h14 => ?_
  refine WPe_getR (pc := 34) (t := 1) (C := RX1) (T := TX1) 6 (dd dtX1_init 19 rfl) (shE h14) rfl (Nat.le_of_ble_eq_true rfl) rfl (bw_mem2 83 rfl rfl) ?_
  refine WPe_ck fun h15 => ?_
  refine WPe_alen (pc := 37) (dd dtX1_init 20 rfl) (shL (shE h15)) ⟨(Nat.le_of_ble_eq_true rfl), (Nat.le_of_ble_eq_true rfl)⟩ ?_
  refine WPe_icmp_ge (pc := 38) 60 (dd dtX1_init 21 rfl) (by decide) (fun h16 => ?_) (fun h16 => ?_)
  · exact WPe_return (pc := 60) (dd dtX1_init 31 rfl) rfl rfl ⟨by show c + 0 ≤ 8; omega, by show s + 0 ≤ 41; omega⟩
  · refine WPe_aload_n (pc := 41) 0 (dd dtX1_init 22 rfl) rfl ?_
    refine WPe_getR (pc := 42) (t := 1) (C := RX1) (T := TX1) 6 (dd dtX1_init 23 rfl) (shE h14) rfl (Nat.le_of_ble_eq_true rfl) rfl (bw_mem2 83 rfl rfl) ?_
    refine WPe_iload_n (pc := 45) 1 (dd dtX1_init 24 rfl) rfl ?_
    refine WPe_nx fun n17 => ?_
    refine WPe_newO (pc := 46) (N := 5) (t := 0) (C := RX0) (T := TX0) (dd dtX1_init 25 rfl) rfl (bw_mem2 32 rfl rfl) (bw_mem2 34 rfl rfl) (bw_mem1 12 rfl rfl) nk0 ⟨by show c + 1 ≤ 8; omega, by show s + 5 ≤ 41; omega⟩ ?_
    refine WPe_lw fun w18 e19 => ?_
    refine WPe_dup (pc := 49) (dd dtX1_init 26 rfl) rfl ?_
    refine WPe_pos (shN e19) (by decide) fun h20 => ?_
    refine WPe_callI (pc := 50) (rtc := rtV) (Mc := mX0_init) (d' := 1) (mc' := 0) (ms' := 0) [] [vR (nx w), vI v.2, vR (wr w v.1 6)] rfl (dd dtX1_init 27 rfl) (okf0_init (nx w) w18) moX0_init icX0_init ⟨rfl, rfl⟩ (Or.inr ⟨"SteamOnBench", (List.mem_of_getElem? (i := 1) rfl)⟩) h20 rfl (Nat.le_of_ble_eq_true rfl) ⟨(Nat.le_of_ble_eq_true rfl), (Nat.le_of_ble_eq_true rfl)⟩ ⟨by show c + 1 + 0 ≤ 8; omega, by show s + 5 + 0 ≤ 41; omega⟩ (fun z21 h22 e23 => ?_)
    refine WPe_st (st2 := [vR (nx w), vI v.2, vR (wr w v.1 6)]) rfl ?_
    refine WPe_ck fun h24 => ?_
    refine WPe_aast (pc := 53) (T := TX0) (N := 5) (dd dtX1_init 28 rfl) (shL (e23.at (shX n17 e19 (shE h15) (by decide)) (by decide))) ⟨(Nat.le_of_ble_eq_true rfl), (Nat.le_of_ble_eq_true rfl)⟩ h24 (e23.at (shN e19) (by decide)) rfl ?_
    refine WPe_lw fun w25 e26 => ?_
    refine WPe_iinc (pc := 54) (ls' := [(2, vI (v.2 + (1 : Int32))), (0, vR v.1)]) 1 (v.2 + (1 : Int32)) (dd dtX1_init 29 rfl) rfl (congrArg (HAdd.hAdd _) (by decide : Int32.ofInt (1) = (1 : Int32))) (Nat.le_of_ble_eq_true rfl) rfl ?_
    refine WPe_goto (pc := 57) 32 (dd dtX1_init 30 rfl) (by decide) ?_
    refine WPe_sub [1, 0] rfl ?_
    exact hk32 _ _ (by omega) (by omega) _ _
theorem wplb1_init_32 (X : CX) (w0 : Wd)  : ∀ (n c s : Nat), c + n * 1 ≤ 8 → s + n * 5 ≤ 41 → ∀ (v : Nat × Int32) (w : Wd), WPe rtV X (mX1_init, 2, 8, 41, w0) c s (loopF (b1_init_32 ) n v w) 32 [(0, vR v.1), (2, vI v.2)] [] w :=
  WPe_loopC (rt := rtV) (X := X) (M := (mX1_init, 2, 8, 41, w0)) (fun v : Nat × Int32 => [(0, vR v.1), (2, vI v.2)]) (fun k n hk c s h1 h2 v w => wpb1_init_32 X w0 n  k hk c s h1 h2 v w)
noncomputable def f1_init (x0 : Nat) (x1 : Nat) (w : Wd) : Option (Unit × Wd) :=
  ck (tg w x0 = 1) (lw (sI w x0 1 (200 : Int32)) fun w3 => (lw (sI w3 x0 3 (5 : Int32)) fun w5 => (lw (wN w5 22 6) fun w8 => (lw (sR w8 x0 6 (nx w5)) fun w10 => (lw (sR w10 x0 5 x1) fun w12 => (loopF (b1_init_32) 7 (x0, (0 : Int32)) w12))))))
theorem wpf1_init (X : CX) (w0 : Wd) (x0 : Nat) (x1 : Nat) (w : Wd) : WPe rtV X (mX1_init, 2, 8, 41, w0) 0 0 (f1_init x0 x1 w) 0 [(0, vR x0), (1, vR x1)] [] w := by
  unfold f1_init
  refine WPe_aload_n (pc := 0) 0 (dd dtX1_init 0 rfl) rfl ?_
  refine WPe_ck fun h1 => ?_
  refine WPe_pos (shE h1) (by decide) fun h2 => ?_
  refine WPe_objInit (pc := 1) (dd dtX1_init 1 rfl) h2 (bw_mem2 31 rfl rfl) oi1 oi2 (Nat.le_of_ble_eq_true rfl) (Nat.le_of_ble_eq_true rfl) ?_
  refine WPe_aload_n (pc := 4) 0 (dd dtX1_init 2 rfl) rfl ?_
  refine WPe_sipush (pc := 5) (200 : Int32) (dd dtX1_init 3 rfl) (by decide) ?_
  refine WPe_putI (pc := 8) (t := 1) (C := RX1) (T := TX1) 1 (dd dtX1_init 4 rfl) (shE h1) rfl (Nat.le_of_ble_eq_true rfl) (bw_mem2 71 rfl rfl) (Or.inl rfl) rfl rfl rfl ?_
  refine WPe_lw fun w3 e4 => ?_
  refine WPe_aload_n (pc := 11) 0 (dd dtX1_init 5 rfl) rfl ?_
  refine WPe_iconst (pc := 12) (5 : Int32) (dd dtX1_init 6 rfl) (by decide) ?_
  refine WPe_putI (pc := 13) (t := 1) (C := RX1) (T := TX1) 3 (dd dtX1_init 7 rfl) (shI e4 (shE h1)) rfl (Nat.le_of_ble_eq_true rfl) (bw_mem2 77 rfl rfl) (Or.inl rfl) rfl rfl rfl ?_
  refine WPe_lw fun w5 e6 => ?_
  refine WPe_aload_n (pc := 16) 0 (dd dtX1_init 8 rfl) rfl ?_
  refine WPe_bipush (pc := 17) (6 : Int32) (dd dtX1_init 9 rfl) (by decide) ?_
  refine WPe_nx fun n7 => ?_
  refine WPe_newQ (pc := 19) (N := 6) (t := 22) (dd dtX1_init 10 rfl) ⟨(Nat.le_of_ble_eq_true rfl), (Nat.le_of_ble_eq_true rfl)⟩ (bw_mem2 32 rfl rfl) (by decide +kernel) (by decide) (by decide) (Nat.le_of_ble_eq_true rfl) ⟨(Nat.le_of_ble_eq_true rfl), (Nat.le_of_ble_eq_true rfl)⟩ ?_
  refine WPe_lw fun w8 e9 => ?_
  refine WPe_putR (pc := 22) (t := 1) (C := RX1) (T := TX1) 6 (dd dtX1_init 11 rfl) (shX n7 e9 (shI e6 (shI e4 (shE h1))) (by decide)) rfl (Nat.le_of_ble_eq_true rfl) (bw_mem2 83 rfl rfl) (Or.inr ⟨rfl, rfl, rfl⟩) rfl ?_
  refine WPe_lw fun w10 e11 => ?_
  refine WPe_aload_n (pc := 25) 0 (dd dtX1_init 12 rfl) rfl ?_
  refine WPe_aload_n (pc := 26) 1 (dd dtX1_init 13 rfl) rfl ?_
  refine WPe_putR (pc := 27) (t := 1) (C := RX1) (T := TX1) 5 (dd dtX1_init 14 rfl) (shR e11 (shX n7 e9 (shI e6 (shI e4 (shE h1))) (by decide))) rfl (Nat.le_of_ble_eq_true rfl) (bw_mem2 81 rfl rfl) (Or.inl rfl) rfl ?_
  refine WPe_lw fun w12 e13 => ?_
  refine WPe_iconst (pc := 30) (0 : Int32) (dd dtX1_init 15 rfl) (by decide) ?_
  refine WPe_istore_n (pc := 31) (ls' := [(2, vI (0 : Int32)), (0, vR x0), (1, vR x1)]) (dd dtX1_init 16 rfl) (Nat.le_of_ble_eq_true rfl) rfl ?_
  refine WPe_sub [1, 0] rfl ?_
  exact wplb1_init_32 X w0  7 _ _ (by omega) (by omega) _ _
theorem okf1_init (x0 : Nat) (x1 : Nat) (w : Wd) : ∀ z, f1_init x0 x1 w = some z → OkM mX1_init 2 8 41 [vR x0, vR x1] w (rtV z.1) z.2 :=
  OkM.of (rt := rtV) moX1_init (Nat.le_of_ble_eq_true rfl) (fun X => wpf1_init X w x0 x1 w)
def tbX1_becomeAs : List (Nat × Instr × Nat) := [(0, .aload_n 0, 1), (1, .aload_n 1, 1), (2, .getfield 29, 3), (5, .putfield 29, 3), (8, .aload_n 0, 1), (9, .aload_n 1, 1), (10, .getfield 9, 3), (13, .putfield 9, 3), (16, .aload_n 0, 1), (17, .aload_n 1, 1), (18, .getfield 32, 3), (21, .putfield 32, 3), (24, .aload_n 0, 1), (25, .aload_n 1, 1), (26, .getfield 15, 3), (29, .putfield 15, 3), (32, .aload_n 0, 1), (33, .aload_n 1, 1), (34, .getfield 35, 3), (37, .putfield 35, 3), (40, .aload_n 0, 1), (41, .aload_n 1, 1), (42, .getfield 24, 3), (45, .putfield 24, 3), (48, .iconst 0, 1), (49, .istore_n 2, 1), (50, .iload_n 2, 1), (51, .aload_n 0, 1), (52, .getfield 35, 3), (55, .if_icmp .ge 24, 3), (58, .aload_n 0, 1), (59, .getfield 20, 3), (62, .iload_n 2, 1), (63, .aaload, 1), (64, .aload_n 1, 1), (65, .getfield 20, 3), (68, .iload_n 2, 1), (69, .aaload, 1), (70, .invokevirtual 38, 3), (73, .iinc 2 1, 3), (76, .goto (-26), 3), (79, .return_, 1)]
set_option maxRecDepth 20000 in
theorem dtX1_becomeAs : ∀ x ∈ tbX1_becomeAs, decode cX1_becomeAs x.1 = .ok x.2 := by decide +kernel
noncomputable def b1_becomeAs_50 (k50 : Nat × Nat × Int32 → Wd → Option (Unit × Wd)) (v : Nat × Nat × Int32) (w : Wd) : Option (Unit × Wd) :=
  ck (tg w v.1 = 1) (if (wi w v.1 4) ≤ v.2.2 then (some ((), w)) else (ck (tg w (wr w v.1 6) = 22 ∧ vp_in v.2.2 (ln w (wr w v.1 6))) (ck (tg w v.2.1 = 1) (ck (tg w (wr w v.2.1 6) = 22 ∧ vp_in v.2.2 (ln w (wr w v.2.1 6))) (ck (tg w (wr w (wr w v.1 6) (v.2.2).toNatClampNeg) = 0) ((f0_becomeAs (wr w (wr w v.1 6) (v.2.2).toNatClampNeg) (wr w (wr w v.2.1 6) (v.2.2).toNatClampNeg) w).bind fun z21 => (k50 (v.1, v.2.1, (v.2.2 + (1 : Int32))) z21.2)))))))
theorem wpb1_becomeAs_50 (X : CX) (w0 : Wd) (k50 : Nat × Nat × Int32 → Wd → Option (Unit × Wd)) (hk50 : ∀ (v : Nat × Nat × Int32) (w : Wd), WPe rtV X (mX1_becomeAs, 2, 0, 0, w0) 0 0 (k50 v w) 50 [(0, vR v.1), (1, vR v.2.1), (2, vI v.2.2)] [] w) (v : Nat × Nat × Int32) (w : Wd) : WPe rtV X (mX1_becomeAs, 2, 0, 0, w0) 0 0 (b1_becomeAs_50 k50 v w) 50 [(0, vR v.1), (1, vR v.2.1), (2, vI v.2.2)] [] w := by
  unfold b1_becomeAs_50
  refine WPe_iload_n (pc := 50) 2 (dd dtX1_becomeAs 26 rfl) rfl ?_
  refine WPe_aload_n (pc := 51) 0 (dd dtX1_becomeAs 27 rfl) rfl ?_
  refine WPe_ck fun h15 => ?_
  refine WPe_getI (pc := 52) (t := 1) (C := RX1) (T := TX1) 4 (dd dtX1_becomeAs 28 rfl) (shE h15) rfl (Nat.le_of_ble_eq_true rfl) rfl (bw_mem2 79 rfl rfl) ?_
  refine WPe_icmp_ge (pc := 55) 79 (dd dtX1_becomeAs 29 rfl) (by decide) (fun h16 => ?_) (fun h16 => ?_)
  · exact WPe_return (pc := 79) (dd dtX1_becomeAs 41 rfl) rfl rfl ⟨(Nat.le_of_ble_eq_true rfl), (Nat.le_of_ble_eq_true rfl)⟩
  · refine WPe_aload_n (pc := 58) 0 (dd dtX1_becomeAs 30 rfl) rfl ?_
    refine WPe_getR (pc := 59) (t := 1) (C := RX1) (T := TX1) 6 (dd dtX1_becomeAs 31 rfl) (shE h15) rfl (Nat.le_of_ble_eq_true rfl) rfl (bw_mem2 83 rfl rfl) ?_
    refine WPe_iload_n (pc := 62) 2 (dd dtX1_becomeAs 32 rfl) rfl ?_
    refine WPe_ck fun h17 => ?_
    refine WPe_aald (pc := 63) (dd dtX1_becomeAs 33 rfl) (shE h17.1) ⟨(Nat.le_of_ble_eq_true rfl), (Nat.le_of_ble_eq_true rfl)⟩ h17.2 ?_
    refine WPe_aload_n (pc := 64) 1 (dd dtX1_becomeAs 34 rfl) rfl ?_
    refine WPe_ck fun h18 => ?_
    refine WPe_getR (pc := 65) (t := 1) (C := RX1) (T := TX1) 6 (dd dtX1_becomeAs 35 rfl) (shE h18) rfl (Nat.le_of_ble_eq_true rfl) rfl (bw_mem2 83 rfl rfl) ?_
    refine WPe_iload_n (pc := 68) 2 (dd dtX1_becomeAs 36 rfl) rfl ?_
    refine WPe_ck fun h19 => ?_
    refine WPe_aald (pc := 69) (dd dtX1_becomeAs 37 rfl) (shE h19.1) ⟨(Nat.le_of_ble_eq_true rfl), (Nat.le_of_ble_eq_true rfl)⟩ h19.2 ?_
    refine WPe_ck fun h20 => ?_
    refine WPe_callV (pc := 70) (rtc := rtV) (Mc := mX0_becomeAs) (d' := 1) (mc' := 0) (ms' := 0) [vR (wr w (wr w v.2.1 6) (v.2.2).toNatClampNeg)] [] rfl (dd dtX1_becomeAs 38 rfl) (okf0_becomeAs (wr w (wr w v.1 6) (v.2.2).toNatClampNeg) (wr w (wr w v.2.1 6) (v.2.2).toNatClampNeg) w) moX0_becomeAs miX0_becomeAs (bw_mem3 61 rfl rfl) (Or.inl ⟨_, _, _, _, (shE h20), rfl⟩) rfl (Nat.le_of_ble_eq_true rfl) ⟨(Nat.le_of_ble_eq_true rfl), (Nat.le_of_ble_eq_true rfl)⟩ ⟨(Nat.le_of_ble_eq_true rfl), (Nat.le_of_ble_eq_true rfl)⟩ (fun z21 h22 e23 => ?_)
    refine WPe_st (st2 := []) rfl ?_
    refine WPe_iinc (pc := 73) (ls' := [(2, vI (v.2.2 + (1 : Int32))), (0, vR v.1), (1, vR v.2.1)]) 2 (v.2.2 + (1 : Int32)) (dd dtX1_becomeAs 39 rfl) rfl (congrArg (HAdd.hAdd _) (by decide : Int32.ofInt (1) = (1 : Int32))) (Nat.le_of_ble_eq_true rfl) rfl ?_
    refine WPe_goto (pc := 76) 50 (dd dtX1_becomeAs 40 rfl) (by decide) ?_
    refine WPe_sub [1, 2, 0] rfl ?_
    exact hk50 (v.1, v.2.1, (v.2.2 + (1 : Int32))) z21.2
theorem wplb1_becomeAs_50 (X : CX) (w0 : Wd)  : ∀ (n9 : Nat) (v : Nat × Nat × Int32) (w : Wd), WPe rtV X (mX1_becomeAs, 2, 0, 0, w0) 0 0 (loopF (b1_becomeAs_50 ) n9 v w) 50 [(0, vR v.1), (1, vR v.2.1), (2, vI v.2.2)] [] w :=
  WPe_loop (rt := rtV) (X := X) (M := (mX1_becomeAs, 2, 0, 0, w0)) (fun v : Nat × Nat × Int32 => [(0, vR v.1), (1, vR v.2.1), (2, vI v.2.2)]) (fun k hk v w => wpb1_becomeAs_50 X w0  k hk v w)
noncomputable def f1_becomeAs (x0 : Nat) (x1 : Nat) (w : Wd) : Option (Unit × Wd) :=
  ck (tg w x1 = 1) (ck (tg w x0 = 1) (lw (sI w x0 0 (wi w x1 0)) fun w3 => (lw (sI w3 x0 1 (wi w3 x1 1)) fun w5 => (lw (sI w5 x0 2 (wi w5 x1 2)) fun w7 => (lw (sI w7 x0 3 (wi w7 x1 3)) fun w9 => (lw (sI w9 x0 4 (wi w9 x1 4)) fun w11 => (lw (sR w11 x0 5 (wr w11 x1 5)) fun w13 => (loopF (b1_becomeAs_50) FU (x0, x1, (0 : Int32)) w13))))))))
theorem wpf1_becomeAs (X : CX) (w0 : Wd) (x0 : Nat) (x1 : Nat) (w : Wd) : WPe rtV X (mX1_becomeAs, 2, 0, 0, w0) 0 0 (f1_becomeAs x0 x1 w) 0 [(0, vR x0), (1, vR x1)] [] w := by
  unfold f1_becomeAs
  refine WPe_aload_n (pc := 0) 0 (dd dtX1_becomeAs 0 rfl) rfl ?_
  refine WPe_aload_n (pc := 1) 1 (dd dtX1_becomeAs 1 rfl) rfl ?_
  refine WPe_ck fun h1 => ?_
  refine WPe_getI (pc := 2) (t := 1) (C := RX1) (T := TX1) 0 (dd dtX1_becomeAs 2 rfl) (shE h1) rfl (Nat.le_of_ble_eq_true rfl) rfl (bw_mem2 68 rfl rfl) ?_
  refine WPe_ck fun h2 => ?_
  refine WPe_putI (pc := 5) (t := 1) (C := RX1) (T := TX1) 0 (dd dtX1_becomeAs 3 rfl) (shE h2) rfl (Nat.le_of_ble_eq_true rfl) (bw_mem2 68 rfl rfl) (Or.inl rfl) rfl rfl rfl ?_
  refine WPe_lw fun w3 e4 => ?_
  refine WPe_aload_n (pc := 8) 0 (dd dtX1_becomeAs 4 rfl) rfl ?_
  refine WPe_aload_n (pc := 9) 1 (dd dtX1_becomeAs 5 rfl) rfl ?_
  refine WPe_getI (pc := 10) (t := 1) (C := RX1) (T := TX1) 1 (dd dtX1_becomeAs 6 rfl) (shI e4 (shE h1)) rfl (Nat.le_of_ble_eq_true rfl) rfl (bw_mem2 71 rfl rfl) ?_
  refine WPe_putI (pc := 13) (t := 1) (C := RX1) (T := TX1) 1 (dd dtX1_becomeAs 7 rfl) (shI e4 (shE h2)) rfl (Nat.le_of_ble_eq_true rfl) (bw_mem2 71 rfl rfl) (Or.inl rfl) rfl rfl rfl ?_
  refine WPe_lw fun w5 e6 => ?_
  refine WPe_aload_n (pc := 16) 0 (dd dtX1_becomeAs 8 rfl) rfl ?_
  refine WPe_aload_n (pc := 17) 1 (dd dtX1_becomeAs 9 rfl) rfl ?_
  refine WPe_getI (pc := 18) (t := 1) (C := RX1) (T := TX1) 2 (dd dtX1_becomeAs 10 rfl) (shI e6 (shI e4 (shE h1))) rfl (Nat.le_of_ble_eq_true rfl) rfl (bw_mem2 74 rfl rfl) ?_
  refine WPe_putI (pc := 21) (t := 1) (C := RX1) (T := TX1) 2 (dd dtX1_becomeAs 11 rfl) (shI e6 (shI e4 (shE h2))) rfl (Nat.le_of_ble_eq_true rfl) (bw_mem2 74 rfl rfl) (Or.inl rfl) rfl rfl rfl ?_
  refine WPe_lw fun w7 e8 => ?_
  refine WPe_aload_n (pc := 24) 0 (dd dtX1_becomeAs 12 rfl) rfl ?_
  refine WPe_aload_n (pc := 25) 1 (dd dtX1_becomeAs 13 rfl) rfl ?_
  refine WPe_getI (pc := 26) (t := 1) (C := RX1) (T := TX1) 3 (dd dtX1_becomeAs 14 rfl) (shI e8 (shI e6 (shI e4 (shE h1)))) rfl (Nat.le_of_ble_eq_true rfl) rfl (bw_mem2 77 rfl rfl) ?_
  refine WPe_putI (pc := 29) (t := 1) (C := RX1) (T := TX1) 3 (dd dtX1_becomeAs 15 rfl) (shI e8 (shI e6 (shI e4 (shE h2)))) rfl (Nat.le_of_ble_eq_true rfl) (bw_mem2 77 rfl rfl) (Or.inl rfl) rfl rfl rfl ?_
  refine WPe_lw fun w9 e10 => ?_
  refine WPe_aload_n (pc := 32) 0 (dd dtX1_becomeAs 16 rfl) rfl ?_
  refine WPe_aload_n (pc := 33) 1 (dd dtX1_becomeAs 17 rfl) rfl ?_
  refine WPe_getI (pc := 34) (t := 1) (C := RX1) (T := TX1) 4 (dd dtX1_becomeAs 18 rfl) (shI e10 (shI e8 (shI e6 (shI e4 (shE h1))))) rfl (Nat.le_of_ble_eq_true rfl) rfl (bw_mem2 79 rfl rfl) ?_
  refine WPe_putI (pc := 37) (t := 1) (C := RX1) (T := TX1) 4 (dd dtX1_becomeAs 19 rfl) (shI e10 (shI e8 (shI e6 (shI e4 (shE h2))))) rfl (Nat.le_of_ble_eq_true rfl) (bw_mem2 79 rfl rfl) (Or.inl rfl) rfl rfl rfl ?_
  refine WPe_lw fun w11 e12 => ?_
  refine WPe_aload_n (pc := 40) 0 (dd dtX1_becomeAs 20 rfl) rfl ?_
  refine WPe_aload_n (pc := 41) 1 (dd dtX1_becomeAs 21 rfl) rfl ?_
  refine WPe_getR (pc := 42) (t := 1) (C := RX1) (T := TX1) 5 (dd dtX1_becomeAs 22 rfl) (shI e12 (shI e10 (shI e8 (shI e6 (shI e4 (shE h1)))))) rfl (Nat.le_of_ble_eq_true rfl) rfl (bw_mem2 81 rfl rfl) ?_
  refine WPe_putR (pc := 45) (t := 1) (C := RX1) (T := TX1) 5 (dd dtX1_becomeAs 23 rfl) (shI e12 (shI e10 (shI e8 (shI e6 (shI e4 (shE h2)))))) rfl (Nat.le_of_ble_eq_true rfl) (bw_mem2 81 rfl rfl) (Or.inl rfl) rfl ?_
  refine WPe_lw fun w13 e14 => ?_
  refine WPe_iconst (pc := 48) (0 : Int32) (dd dtX1_becomeAs 24 rfl) (by decide) ?_
  refine WPe_istore_n (pc := 49) (ls' := [(2, vI (0 : Int32)), (0, vR x0), (1, vR x1)]) (dd dtX1_becomeAs 25 rfl) (Nat.le_of_ble_eq_true rfl) rfl ?_
  refine WPe_sub [1, 2, 0] rfl ?_
  exact wplb1_becomeAs_50 X w0  FU _ _
theorem okf1_becomeAs (x0 : Nat) (x1 : Nat) (w : Wd) : ∀ z, f1_becomeAs x0 x1 w = some z → OkM mX1_becomeAs 2 0 0 [vR x0, vR x1] w (rtV z.1) z.2 :=
  OkM.of (rt := rtV) moX1_becomeAs (Nat.le_of_ble_eq_true rfl) (fun X => wpf1_becomeAs X w x0 x1 w)
def tbX1_has : List (Nat × Instr × Nat) := [(0, .iload_n 1, 1), (1, .ifCond .lt 15, 3), (4, .iload_n 1, 1), (5, .aload_n 0, 1), (6, .getfield 35, 3), (9, .if_icmp .ge 7, 3), (12, .iconst 1, 1), (13, .goto 4, 3), (16, .iconst 0, 1), (17, .ireturn, 1)]
set_option maxRecDepth 20000 in
theorem dtX1_has : ∀ x ∈ tbX1_has, decode cX1_has x.1 = .ok x.2 := by decide +kernel
noncomputable def f1_has (x0 : Nat) (x1 : Int32) (w : Wd) : Option (Int32 × Wd) :=
  if x1 < (0 : Int32) then (some ((0 : Int32), w)) else (ck (tg w x0 = 1) (if (wi w x0 4) ≤ x1 then (some ((0 : Int32), w)) else (some ((1 : Int32), w))))
theorem wpf1_has (X : CX) (w0 : Wd) (x0 : Nat) (x1 : Int32) (w : Wd) : WPe rtI X (mX1_has, 1, 0, 0, w0) 0 0 (f1_has x0 x1 w) 0 [(0, vR x0), (1, vI x1)] [] w := by
  unfold f1_has
  refine WPe_iload_n (pc := 0) 1 (dd dtX1_has 0 rfl) rfl ?_
  refine WPe_if_lt (pc := 1) 16 (dd dtX1_has 1 rfl) (by decide) (fun h1 => ?_) (fun h1 => ?_)
  · refine WPe_iconst (pc := 16) (0 : Int32) (dd dtX1_has 8 rfl) (by decide) ?_
    exact WPe_zreturn (pc := 17) (ty := .boolean) (dd dtX1_has 9 rfl) rfl rfl rfl ⟨(Nat.le_of_ble_eq_true rfl), (Nat.le_of_ble_eq_true rfl)⟩
  · refine WPe_iload_n (pc := 4) 1 (dd dtX1_has 2 rfl) rfl ?_
    refine WPe_aload_n (pc := 5) 0 (dd dtX1_has 3 rfl) rfl ?_
    refine WPe_ck fun h2 => ?_
    refine WPe_getI (pc := 6) (t := 1) (C := RX1) (T := TX1) 4 (dd dtX1_has 4 rfl) (shE h2) rfl (Nat.le_of_ble_eq_true rfl) rfl (bw_mem2 79 rfl rfl) ?_
    refine WPe_icmp_ge (pc := 9) 16 (dd dtX1_has 5 rfl) (by decide) (fun h3 => ?_) (fun h3 => ?_)
    · refine WPe_iconst (pc := 16) (0 : Int32) (dd dtX1_has 8 rfl) (by decide) ?_
      exact WPe_zreturn (pc := 17) (ty := .boolean) (dd dtX1_has 9 rfl) rfl rfl rfl ⟨(Nat.le_of_ble_eq_true rfl), (Nat.le_of_ble_eq_true rfl)⟩
    · refine WPe_iconst (pc := 12) (1 : Int32) (dd dtX1_has 6 rfl) (by decide) ?_
      refine WPe_goto (pc := 13) 17 (dd dtX1_has 7 rfl) (by decide) ?_
      exact WPe_zreturn (pc := 17) (ty := .boolean) (dd dtX1_has 9 rfl) rfl rfl rfl ⟨(Nat.le_of_ble_eq_true rfl), (Nat.le_of_ble_eq_true rfl)⟩
theorem okf1_has (x0 : Nat) (x1 : Int32) (w : Wd) : ∀ z, f1_has x0 x1 w = some z → OkM mX1_has 1 0 0 [vR x0, vI x1] w (rtI z.1) z.2 :=
  OkM.of (rt := rtI) moX1_has (Nat.le_of_ble_eq_true rfl) (fun X => wpf1_has X w x0 x1 w)
def tbX1_bathersIn : List (Nat × Instr × Nat) := [(0, .iconst 0, 1), (1, .istore_n 1, 1), (2, .iconst 0, 1), (3, .istore_n 2, 1), (4, .iload_n 2, 1), (5, .aload_n 0, 1), (6, .getfield 35, 3), (9, .if_icmp .ge 25, 3), (12, .aload_n 0, 1), (13, .getfield 20, 3), (16, .iload_n 2, 1), (17, .aaload, 1), (18, .getfield 42, 3), (21, .iconst 3, 1), (22, .if_icmp .eq 6, 3), (25, .iinc 1 1, 3), (28, .iinc 2 1, 3), (31, .goto (-27), 3), (34, .iload_n 1, 1), (35, .ireturn, 1)]
set_option maxRecDepth 20000 in
theorem dtX1_bathersIn : ∀ x ∈ tbX1_bathersIn, decode cX1_bathersIn x.1 = .ok x.2 := by decide +kernel
noncomputable def j1_bathersIn_28 (k4 : Nat × Int32 × Int32 → Wd → Option (Int32 × Wd)) (x0 : Nat) (x1 : Int32) (x2 : Int32) (w : Wd) : Option (Int32 × Wd) :=
  k4 (x0, x1, (x2 + (1 : Int32))) w
theorem wpj1_bathersIn_28 (X : CX) (w0 : Wd) (k4 : Nat × Int32 × Int32 → Wd → Option (Int32 × Wd)) (hk4 : ∀ (v : Nat × Int32 × Int32) (w : Wd), WPe rtI X (mX1_bathersIn, 1, 0, 0, w0) 0 0 (k4 v w) 4 [(0, vR v.1), (1, vI v.2.1), (2, vI v.2.2)] [] w) (x0 : Nat) (x1 : Int32) (x2 : Int32) (w : Wd) : WPe rtI X (mX1_bathersIn, 1, 0, 0, w0) 0 0 (j1_bathersIn_28 k4 x0 x1 x2 w) 28 [(0, vR x0), (1, vI x1), (2, vI x2)] [] w := by
  unfold j1_bathersIn_28
  refine WPe_iinc (pc := 28) (ls' := [(2, vI (x2 + (1 : Int32))), (0, vR x0), (1, vI x1)]) 2 (x2 + (1 : Int32)) (dd dtX1_bathersIn 16 rfl) rfl (congrArg (HAdd.hAdd _) (by decide : Int32.ofInt (1) = (1 : Int32))) (Nat.le_of_ble_eq_true rfl) rfl ?_
  refine WPe_goto (pc := 31) 4 (dd dtX1_bathersIn 17 rfl) (by decide) ?_
  refine WPe_sub [1, 2, 0] rfl ?_
  exact hk4 (x0, x1, (x2 + (1 : Int32))) w
noncomputable def b1_bathersIn_4 (k4 : Nat × Int32 × Int32 → Wd → Option (Int32 × Wd)) (v : Nat × Int32 × Int32) (w : Wd) : Option (Int32 × Wd) :=
  ck (tg w v.1 = 1) (if (wi w v.1 4) ≤ v.2.2 then (some (v.2.1, w)) else (ck (tg w (wr w v.1 6) = 22 ∧ vp_in v.2.2 (ln w (wr w v.1 6))) (ck (tg w (wr w (wr w v.1 6) (v.2.2).toNatClampNeg) = 0) (if (wi w (wr w (wr w v.1 6) (v.2.2).toNatClampNeg) 2) = (3 : Int32) then (j1_bathersIn_28 k4 v.1 v.2.1 v.2.2 w) else (j1_bathersIn_28 k4 v.1 (v.2.1 + (1 : Int32)) v.2.2 w)))))
theorem wpb1_bathersIn_4 (X : CX) (w0 : Wd) (k4 : Nat × Int32 × Int32 → Wd → Option (Int32 × Wd)) (hk4 : ∀ (v : Nat × Int32 × Int32) (w : Wd), WPe rtI X (mX1_bathersIn, 1, 0, 0, w0) 0 0 (k4 v w) 4 [(0, vR v.1), (1, vI v.2.1), (2, vI v.2.2)] [] w) (v : Nat × Int32 × Int32) (w : Wd) : WPe rtI X (mX1_bathersIn, 1, 0, 0, w0) 0 0 (b1_bathersIn_4 k4 v w) 4 [(0, vR v.1), (1, vI v.2.1), (2, vI v.2.2)] [] w := by
  unfold b1_bathersIn_4
  refine WPe_iload_n (pc := 4) 2 (dd dtX1_bathersIn 4 rfl) rfl ?_
  refine WPe_aload_n (pc := 5) 0 (dd dtX1_bathersIn 5 rfl) rfl ?_
  refine WPe_ck fun h1 => ?_
  refine WPe_getI (pc := 6) (t := 1) (C := RX1) (T := TX1) 4 (dd dtX1_bathersIn 6 rfl) (shE h1) rfl (Nat.le_of_ble_eq_true rfl) rfl (bw_mem2 79 rfl rfl) ?_
  refine WPe_icmp_ge (pc := 9) 34 (dd dtX1_bathersIn 7 rfl) (by decide) (fun h2 => ?_) (fun h2 => ?_)
  · refine WPe_iload_n (pc := 34) 1 (dd dtX1_bathersIn 18 rfl) rfl ?_
    exact WPe_ireturn (pc := 35) (dd dtX1_bathersIn 19 rfl) rfl rfl ⟨(Nat.le_of_ble_eq_true rfl), (Nat.le_of_ble_eq_true rfl)⟩
  · refine WPe_aload_n (pc := 12) 0 (dd dtX1_bathersIn 8 rfl) rfl ?_
    refine WPe_getR (pc := 13) (t := 1) (C := RX1) (T := TX1) 6 (dd dtX1_bathersIn 9 rfl) (shE h1) rfl (Nat.le_of_ble_eq_true rfl) rfl (bw_mem2 83 rfl rfl) ?_
    refine WPe_iload_n (pc := 16) 2 (dd dtX1_bathersIn 10 rfl) rfl ?_
    refine WPe_ck fun h3 => ?_
    refine WPe_aald (pc := 17) (dd dtX1_bathersIn 11 rfl) (shE h3.1) ⟨(Nat.le_of_ble_eq_true rfl), (Nat.le_of_ble_eq_true rfl)⟩ h3.2 ?_
    refine WPe_ck fun h4 => ?_
    refine WPe_getI (pc := 18) (t := 0) (C := RX0) (T := TX0) 2 (dd dtX1_bathersIn 12 rfl) (shE h4) rfl (Nat.le_of_ble_eq_true rfl) rfl (bw_mem2 48 rfl rfl) ?_
    refine WPe_iconst (pc := 21) (3 : Int32) (dd dtX1_bathersIn 13 rfl) (by decide) ?_
    refine WPe_icmp_eq (pc := 22) 28 (dd dtX1_bathersIn 14 rfl) (by decide) (fun h5 => ?_) (fun h5 => ?_)
    · refine WPe_sub [0, 1, 2] rfl ?_
      exact wpj1_bathersIn_28 X w0 k4 hk4 v.1 v.2.1 v.2.2 w
    · refine WPe_iinc (pc := 25) (ls' := [(1, vI (v.2.1 + (1 : Int32))), (0, vR v.1), (2, vI v.2.2)]) 1 (v.2.1 + (1 : Int32)) (dd dtX1_bathersIn 15 rfl) rfl (congrArg (HAdd.hAdd _) (by decide : Int32.ofInt (1) = (1 : Int32))) (Nat.le_of_ble_eq_true rfl) rfl ?_
      refine WPe_sub [1, 0, 2] rfl ?_
      exact wpj1_bathersIn_28 X w0 k4 hk4 v.1 (v.2.1 + (1 : Int32)) v.2.2 w
theorem wplb1_bathersIn_4 (X : CX) (w0 : Wd)  : ∀ (n9 : Nat) (v : Nat × Int32 × Int32) (w : Wd), WPe rtI X (mX1_bathersIn, 1, 0, 0, w0) 0 0 (loopF (b1_bathersIn_4 ) n9 v w) 4 [(0, vR v.1), (1, vI v.2.1), (2, vI v.2.2)] [] w :=
  WPe_loop (rt := rtI) (X := X) (M := (mX1_bathersIn, 1, 0, 0, w0)) (fun v : Nat × Int32 × Int32 => [(0, vR v.1), (1, vI v.2.1), (2, vI v.2.2)]) (fun k hk v w => wpb1_bathersIn_4 X w0  k hk v w)
noncomputable def f1_bathersIn (x0 : Nat) (w : Wd) : Option (Int32 × Wd) :=
  loopF (b1_bathersIn_4) FU (x0, (0 : Int32), (0 : Int32)) w
theorem wpf1_bathersIn (X : CX) (w0 : Wd) (x0 : Nat) (w : Wd) : WPe rtI X (mX1_bathersIn, 1, 0, 0, w0) 0 0 (f1_bathersIn x0 w) 0 [(0, vR x0)] [] w := by
  unfold f1_bathersIn
  refine WPe_iconst (pc := 0) (0 : Int32) (dd dtX1_bathersIn 0 rfl) (by decide) ?_
  refine WPe_istore_n (pc := 1) (ls' := [(1, vI (0 : Int32)), (0, vR x0)]) (dd dtX1_bathersIn 1 rfl) (Nat.le_of_ble_eq_true rfl) rfl ?_
  refine WPe_iconst (pc := 2) (0 : Int32) (dd dtX1_bathersIn 2 rfl) (by decide) ?_
  refine WPe_istore_n (pc := 3) (ls' := [(2, vI (0 : Int32)), (1, vI (0 : Int32)), (0, vR x0)]) (dd dtX1_bathersIn 3 rfl) (Nat.le_of_ble_eq_true rfl) rfl ?_
  refine WPe_sub [2, 1, 0] rfl ?_
  exact wplb1_bathersIn_4 X w0  FU _ _
theorem okf1_bathersIn (x0 : Nat) (w : Wd) : ∀ z, f1_bathersIn x0 w = some z → OkM mX1_bathersIn 1 0 0 [vR x0] w (rtI z.1) z.2 :=
  OkM.of (rt := rtI) moX1_bathersIn (Nat.le_of_ble_eq_true rfl) (fun X => wpf1_bathersIn X w x0 w)
def tbX1_bitsIn : List (Nat × Instr × Nat) := [(0, .iconst 0, 1), (1, .istore_n 1, 1), (2, .iconst 0, 1), (3, .istore_n 2, 1), (4, .iload_n 2, 1), (5, .aload_n 0, 1), (6, .getfield 35, 3), (9, .if_icmp .ge 28, 3), (12, .aload_n 0, 1), (13, .getfield 20, 3), (16, .iload_n 2, 1), (17, .aaload, 1), (18, .getfield 42, 3), (21, .iconst 3, 1), (22, .if_icmp .eq 9, 3), (25, .iload_n 1, 1), (26, .iconst 1, 1), (27, .iload_n 2, 1), (28, .ishl, 1), (29, .ior, 1), (30, .istore_n 1, 1), (31, .iinc 2 1, 3), (34, .goto (-30), 3), (37, .iload_n 1, 1), (38, .ireturn, 1)]
set_option maxRecDepth 20000 in
theorem dtX1_bitsIn : ∀ x ∈ tbX1_bitsIn, decode cX1_bitsIn x.1 = .ok x.2 := by decide +kernel
noncomputable def j1_bitsIn_31 (k4 : Nat × Int32 × Int32 → Wd → Option (Int32 × Wd)) (x0 : Nat) (x1 : Int32) (x2 : Int32) (w : Wd) : Option (Int32 × Wd) :=
  k4 (x0, x1, (x2 + (1 : Int32))) w
theorem wpj1_bitsIn_31 (X : CX) (w0 : Wd) (k4 : Nat × Int32 × Int32 → Wd → Option (Int32 × Wd)) (hk4 : ∀ (v : Nat × Int32 × Int32) (w : Wd), WPe rtI X (mX1_bitsIn, 1, 0, 0, w0) 0 0 (k4 v w) 4 [(0, vR v.1), (1, vI v.2.1), (2, vI v.2.2)] [] w) (x0 : Nat) (x1 : Int32) (x2 : Int32) (w : Wd) : WPe rtI X (mX1_bitsIn, 1, 0, 0, w0) 0 0 (j1_bitsIn_31 k4 x0 x1 x2 w) 31 [(0, vR x0), (1, vI x1), (2, vI x2)] [] w := by
  unfold j1_bitsIn_31
  refine WPe_iinc (pc := 31) (ls' := [(2, vI (x2 + (1 : Int32))), (0, vR x0), (1, vI x1)]) 2 (x2 + (1 : Int32)) (dd dtX1_bitsIn 21 rfl) rfl (congrArg (HAdd.hAdd _) (by decide : Int32.ofInt (1) = (1 : Int32))) (Nat.le_of_ble_eq_true rfl) rfl ?_
  refine WPe_goto (pc := 34) 4 (dd dtX1_bitsIn 22 rfl) (by decide) ?_
  refine WPe_sub [1, 2, 0] rfl ?_
  exact hk4 (x0, x1, (x2 + (1 : Int32))) w
noncomputable def b1_bitsIn_4 (k4 : Nat × Int32 × Int32 → Wd → Option (Int32 × Wd)) (v : Nat × Int32 × Int32) (w : Wd) : Option (Int32 × Wd) :=
  ck (tg w v.1 = 1) (if (wi w v.1 4) ≤ v.2.2 then (some (v.2.1, w)) else (ck (tg w (wr w v.1 6) = 22 ∧ vp_in v.2.2 (ln w (wr w v.1 6))) (ck (tg w (wr w (wr w v.1 6) (v.2.2).toNatClampNeg) = 0) (if (wi w (wr w (wr w v.1 6) (v.2.2).toNatClampNeg) 2) = (3 : Int32) then (j1_bitsIn_31 k4 v.1 v.2.1 v.2.2 w) else (j1_bitsIn_31 k4 v.1 (v.2.1 ||| ((1 : Int32) <<< (v.2.2 &&& 31))) v.2.2 w)))))
theorem wpb1_bitsIn_4 (X : CX) (w0 : Wd) (k4 : Nat × Int32 × Int32 → Wd → Option (Int32 × Wd)) (hk4 : ∀ (v : Nat × Int32 × Int32) (w : Wd), WPe rtI X (mX1_bitsIn, 1, 0, 0, w0) 0 0 (k4 v w) 4 [(0, vR v.1), (1, vI v.2.1), (2, vI v.2.2)] [] w) (v : Nat × Int32 × Int32) (w : Wd) : WPe rtI X (mX1_bitsIn, 1, 0, 0, w0) 0 0 (b1_bitsIn_4 k4 v w) 4 [(0, vR v.1), (1, vI v.2.1), (2, vI v.2.2)] [] w := by
  unfold b1_bitsIn_4
  refine WPe_iload_n (pc := 4) 2 (dd dtX1_bitsIn 4 rfl) rfl ?_
  refine WPe_aload_n (pc := 5) 0 (dd dtX1_bitsIn 5 rfl) rfl ?_
  refine WPe_ck fun h1 => ?_
  refine WPe_getI (pc := 6) (t := 1) (C := RX1) (T := TX1) 4 (dd dtX1_bitsIn 6 rfl) (shE h1) rfl (Nat.le_of_ble_eq_true rfl) rfl (bw_mem2 79 rfl rfl) ?_
  refine WPe_icmp_ge (pc := 9) 37 (dd dtX1_bitsIn 7 rfl) (by decide) (fun h2 => ?_) (fun h2 => ?_)
  · refine WPe_iload_n (pc := 37) 1 (dd dtX1_bitsIn 23 rfl) rfl ?_
    exact WPe_ireturn (pc := 38) (dd dtX1_bitsIn 24 rfl) rfl rfl ⟨(Nat.le_of_ble_eq_true rfl), (Nat.le_of_ble_eq_true rfl)⟩
  · refine WPe_aload_n (pc := 12) 0 (dd dtX1_bitsIn 8 rfl) rfl ?_
    refine WPe_getR (pc := 13) (t := 1) (C := RX1) (T := TX1) 6 (dd dtX1_bitsIn 9 rfl) (shE h1) rfl (Nat.le_of_ble_eq_true rfl) rfl (bw_mem2 83 rfl rfl) ?_
    refine WPe_iload_n (pc := 16) 2 (dd dtX1_bitsIn 10 rfl) rfl ?_
    refine WPe_ck fun h3 => ?_
    refine WPe_aald (pc := 17) (dd dtX1_bitsIn 11 rfl) (shE h3.1) ⟨(Nat.le_of_ble_eq_true rfl), (Nat.le_of_ble_eq_true rfl)⟩ h3.2 ?_
    refine WPe_ck fun h4 => ?_
    refine WPe_getI (pc := 18) (t := 0) (C := RX0) (T := TX0) 2 (dd dtX1_bitsIn 12 rfl) (shE h4) rfl (Nat.le_of_ble_eq_true rfl) rfl (bw_mem2 48 rfl rfl) ?_
    refine WPe_iconst (pc := 21) (3 : Int32) (dd dtX1_bitsIn 13 rfl) (by decide) ?_
    refine WPe_icmp_eq (pc := 22) 31 (dd dtX1_bitsIn 14 rfl) (by decide) (fun h5 => ?_) (fun h5 => ?_)
    · refine WPe_sub [0, 1, 2] rfl ?_
      exact wpj1_bitsIn_31 X w0 k4 hk4 v.1 v.2.1 v.2.2 w
    · refine WPe_iload_n (pc := 25) 1 (dd dtX1_bitsIn 15 rfl) rfl ?_
      refine WPe_iconst (pc := 26) (1 : Int32) (dd dtX1_bitsIn 16 rfl) (by decide) ?_
      refine WPe_iload_n (pc := 27) 2 (dd dtX1_bitsIn 17 rfl) rfl ?_
      refine WPe_ishl (pc := 28) (dd dtX1_bitsIn 18 rfl) ?_
      refine WPe_ior (pc := 29) (dd dtX1_bitsIn 19 rfl) ?_
      refine WPe_istore_n (pc := 30) (ls' := [(1, vI (v.2.1 ||| ((1 : Int32) <<< (v.2.2 &&& 31)))), (0, vR v.1), (2, vI v.2.2)]) (dd dtX1_bitsIn 20 rfl) (Nat.le_of_ble_eq_true rfl) rfl ?_
      refine WPe_sub [1, 0, 2] rfl ?_
      exact wpj1_bitsIn_31 X w0 k4 hk4 v.1 (v.2.1 ||| ((1 : Int32) <<< (v.2.2 &&& 31))) v.2.2 w
theorem wplb1_bitsIn_4 (X : CX) (w0 : Wd)  : ∀ (n9 : Nat) (v : Nat × Int32 × Int32) (w : Wd), WPe rtI X (mX1_bitsIn, 1, 0, 0, w0) 0 0 (loopF (b1_bitsIn_4 ) n9 v w) 4 [(0, vR v.1), (1, vI v.2.1), (2, vI v.2.2)] [] w :=
  WPe_loop (rt := rtI) (X := X) (M := (mX1_bitsIn, 1, 0, 0, w0)) (fun v : Nat × Int32 × Int32 => [(0, vR v.1), (1, vI v.2.1), (2, vI v.2.2)]) (fun k hk v w => wpb1_bitsIn_4 X w0  k hk v w)
noncomputable def f1_bitsIn (x0 : Nat) (w : Wd) : Option (Int32 × Wd) :=
  loopF (b1_bitsIn_4) FU (x0, (0 : Int32), (0 : Int32)) w
theorem wpf1_bitsIn (X : CX) (w0 : Wd) (x0 : Nat) (w : Wd) : WPe rtI X (mX1_bitsIn, 1, 0, 0, w0) 0 0 (f1_bitsIn x0 w) 0 [(0, vR x0)] [] w := by
  unfold f1_bitsIn
  refine WPe_iconst (pc := 0) (0 : Int32) (dd dtX1_bitsIn 0 rfl) (by decide) ?_
  refine WPe_istore_n (pc := 1) (ls' := [(1, vI (0 : Int32)), (0, vR x0)]) (dd dtX1_bitsIn 1 rfl) (Nat.le_of_ble_eq_true rfl) rfl ?_
  refine WPe_iconst (pc := 2) (0 : Int32) (dd dtX1_bitsIn 2 rfl) (by decide) ?_
  refine WPe_istore_n (pc := 3) (ls' := [(2, vI (0 : Int32)), (1, vI (0 : Int32)), (0, vR x0)]) (dd dtX1_bitsIn 3 rfl) (Nat.le_of_ble_eq_true rfl) rfl ?_
  refine WPe_sub [2, 1, 0] rfl ?_
  exact wplb1_bitsIn_4 X w0  FU _ _
theorem okf1_bitsIn (x0 : Nat) (w : Wd) : ∀ z, f1_bitsIn x0 w = some z → OkM mX1_bitsIn 1 0 0 [vR x0] w (rtI z.1) z.2 :=
  OkM.of (rt := rtI) moX1_bitsIn (Nat.le_of_ble_eq_true rfl) (fun X => wpf1_bitsIn X w x0 w)
def tbX1_joyOfAll : List (Nat × Instr × Nat) := [(0, .iconst 0, 1), (1, .istore_n 1, 1), (2, .iconst 0, 1), (3, .istore_n 2, 1), (4, .iload_n 2, 1), (5, .aload_n 0, 1), (6, .getfield 35, 3), (9, .if_icmp .ge 21, 3), (12, .iload_n 1, 1), (13, .aload_n 0, 1), (14, .getfield 20, 3), (17, .iload_n 2, 1), (18, .aaload, 1), (19, .getfield 45, 3), (22, .iadd, 1), (23, .istore_n 1, 1), (24, .iinc 2 1, 3), (27, .goto (-23), 3), (30, .iload_n 1, 1), (31, .ireturn, 1)]
set_option maxRecDepth 20000 in
theorem dtX1_joyOfAll : ∀ x ∈ tbX1_joyOfAll, decode cX1_joyOfAll x.1 = .ok x.2 := by decide +kernel
noncomputable def b1_joyOfAll_4 (k4 : Nat × Int32 × Int32 → Wd → Option (Int32 × Wd)) (v : Nat × Int32 × Int32) (w : Wd) : Option (Int32 × Wd) :=
  ck (tg w v.1 = 1) (if (wi w v.1 4) ≤ v.2.2 then (some (v.2.1, w)) else (ck (tg w (wr w v.1 6) = 22 ∧ vp_in v.2.2 (ln w (wr w v.1 6))) (ck (tg w (wr w (wr w v.1 6) (v.2.2).toNatClampNeg) = 0) (k4 (v.1, (v.2.1 + (wi w (wr w (wr w v.1 6) (v.2.2).toNatClampNeg) 4)), (v.2.2 + (1 : Int32))) w))))
theorem wpb1_joyOfAll_4 (X : CX) (w0 : Wd) (k4 : Nat × Int32 × Int32 → Wd → Option (Int32 × Wd)) (hk4 : ∀ (v : Nat × Int32 × Int32) (w : Wd), WPe rtI X (mX1_joyOfAll, 1, 0, 0, w0) 0 0 (k4 v w) 4 [(0, vR v.1), (1, vI v.2.1), (2, vI v.2.2)] [] w) (v : Nat × Int32 × Int32) (w : Wd) : WPe rtI X (mX1_joyOfAll, 1, 0, 0, w0) 0 0 (b1_joyOfAll_4 k4 v w) 4 [(0, vR v.1), (1, vI v.2.1), (2, vI v.2.2)] [] w := by
  unfold b1_joyOfAll_4
  refine WPe_iload_n (pc := 4) 2 (dd dtX1_joyOfAll 4 rfl) rfl ?_
  refine WPe_aload_n (pc := 5) 0 (dd dtX1_joyOfAll 5 rfl) rfl ?_
  refine WPe_ck fun h1 => ?_
  refine WPe_getI (pc := 6) (t := 1) (C := RX1) (T := TX1) 4 (dd dtX1_joyOfAll 6 rfl) (shE h1) rfl (Nat.le_of_ble_eq_true rfl) rfl (bw_mem2 79 rfl rfl) ?_
  refine WPe_icmp_ge (pc := 9) 30 (dd dtX1_joyOfAll 7 rfl) (by decide) (fun h2 => ?_) (fun h2 => ?_)
  · refine WPe_iload_n (pc := 30) 1 (dd dtX1_joyOfAll 18 rfl) rfl ?_
    exact WPe_ireturn (pc := 31) (dd dtX1_joyOfAll 19 rfl) rfl rfl ⟨(Nat.le_of_ble_eq_true rfl), (Nat.le_of_ble_eq_true rfl)⟩
  · refine WPe_iload_n (pc := 12) 1 (dd dtX1_joyOfAll 8 rfl) rfl ?_
    refine WPe_aload_n (pc := 13) 0 (dd dtX1_joyOfAll 9 rfl) rfl ?_
    refine WPe_getR (pc := 14) (t := 1) (C := RX1) (T := TX1) 6 (dd dtX1_joyOfAll 10 rfl) (shE h1) rfl (Nat.le_of_ble_eq_true rfl) rfl (bw_mem2 83 rfl rfl) ?_
    refine WPe_iload_n (pc := 17) 2 (dd dtX1_joyOfAll 11 rfl) rfl ?_
    refine WPe_ck fun h3 => ?_
    refine WPe_aald (pc := 18) (dd dtX1_joyOfAll 12 rfl) (shE h3.1) ⟨(Nat.le_of_ble_eq_true rfl), (Nat.le_of_ble_eq_true rfl)⟩ h3.2 ?_
    refine WPe_ck fun h4 => ?_
    refine WPe_getI (pc := 19) (t := 0) (C := RX0) (T := TX0) 4 (dd dtX1_joyOfAll 13 rfl) (shE h4) rfl (Nat.le_of_ble_eq_true rfl) rfl (bw_mem2 55 rfl rfl) ?_
    refine WPe_iadd (pc := 22) (dd dtX1_joyOfAll 14 rfl) ?_
    refine WPe_istore_n (pc := 23) (ls' := [(1, vI (v.2.1 + (wi w (wr w (wr w v.1 6) (v.2.2).toNatClampNeg) 4))), (0, vR v.1), (2, vI v.2.2)]) (dd dtX1_joyOfAll 15 rfl) (Nat.le_of_ble_eq_true rfl) rfl ?_
    refine WPe_iinc (pc := 24) (ls' := [(2, vI (v.2.2 + (1 : Int32))), (1, vI (v.2.1 + (wi w (wr w (wr w v.1 6) (v.2.2).toNatClampNeg) 4))), (0, vR v.1)]) 2 (v.2.2 + (1 : Int32)) (dd dtX1_joyOfAll 16 rfl) rfl (congrArg (HAdd.hAdd _) (by decide : Int32.ofInt (1) = (1 : Int32))) (Nat.le_of_ble_eq_true rfl) rfl ?_
    refine WPe_goto (pc := 27) 4 (dd dtX1_joyOfAll 17 rfl) (by decide) ?_
    refine WPe_sub [2, 1, 0] rfl ?_
    exact hk4 (v.1, (v.2.1 + (wi w (wr w (wr w v.1 6) (v.2.2).toNatClampNeg) 4)), (v.2.2 + (1 : Int32))) w
theorem wplb1_joyOfAll_4 (X : CX) (w0 : Wd)  : ∀ (n9 : Nat) (v : Nat × Int32 × Int32) (w : Wd), WPe rtI X (mX1_joyOfAll, 1, 0, 0, w0) 0 0 (loopF (b1_joyOfAll_4 ) n9 v w) 4 [(0, vR v.1), (1, vI v.2.1), (2, vI v.2.2)] [] w :=
  WPe_loop (rt := rtI) (X := X) (M := (mX1_joyOfAll, 1, 0, 0, w0)) (fun v : Nat × Int32 × Int32 => [(0, vR v.1), (1, vI v.2.1), (2, vI v.2.2)]) (fun k hk v w => wpb1_joyOfAll_4 X w0  k hk v w)
noncomputable def f1_joyOfAll (x0 : Nat) (w : Wd) : Option (Int32 × Wd) :=
  loopF (b1_joyOfAll_4) FU (x0, (0 : Int32), (0 : Int32)) w
theorem wpf1_joyOfAll (X : CX) (w0 : Wd) (x0 : Nat) (w : Wd) : WPe rtI X (mX1_joyOfAll, 1, 0, 0, w0) 0 0 (f1_joyOfAll x0 w) 0 [(0, vR x0)] [] w := by
  unfold f1_joyOfAll
  refine WPe_iconst (pc := 0) (0 : Int32) (dd dtX1_joyOfAll 0 rfl) (by decide) ?_
  refine WPe_istore_n (pc := 1) (ls' := [(1, vI (0 : Int32)), (0, vR x0)]) (dd dtX1_joyOfAll 1 rfl) (Nat.le_of_ble_eq_true rfl) rfl ?_
  refine WPe_iconst (pc := 2) (0 : Int32) (dd dtX1_joyOfAll 2 rfl) (by decide) ?_
  refine WPe_istore_n (pc := 3) (ls' := [(2, vI (0 : Int32)), (1, vI (0 : Int32)), (0, vR x0)]) (dd dtX1_joyOfAll 3 rfl) (Nat.le_of_ble_eq_true rfl) rfl ?_
  refine WPe_sub [2, 1, 0] rfl ?_
  exact wplb1_joyOfAll_4 X w0  FU _ _
theorem okf1_joyOfAll (x0 : Nat) (w : Wd) : ∀ z, f1_joyOfAll x0 w = some z → OkM mX1_joyOfAll 1 0 0 [vR x0] w (rtI z.1) z.2 :=
  OkM.of (rt := rtI) moX1_joyOfAll (Nat.le_of_ble_eq_true rfl) (fun X => wpf1_joyOfAll X w x0 w)
def tbX4_work : List (Nat × Instr × Nat) := [(0, .iload_n 2, 1), (1, .iconst 2, 1), (2, .isub, 1), (3, .istore_n 3, 1), (4, .iload_n 2, 1), (5, .iconst 1, 1), (6, .isub, 1), (7, .istore 4, 2), (9, .iload 4, 2), (11, .ifCond .lt 13, 3), (14, .iload 4, 2), (16, .aload_n 0, 1), (17, .getfield 9, 3), (20, .arraylength, 1), (21, .if_icmp .lt 5, 3), (24, .iload_n 2, 1), (25, .ireturn, 1), (26, .aload_n 0, 1), (27, .getfield 9, 3), (30, .iload 4, 2), (32, .iaload, 1), (33, .istore 5, 2), (35, .iload_n 1, 1), (36, .sipush 10012, 3), (39, .if_icmp .eq 10, 3), (42, .iload_n 1, 1), (43, .sipush 10013, 3), (46, .if_icmp .ne 35, 3), (49, .aload_n 0, 1), (50, .getfield 9, 3), (53, .iload 4, 2), (55, .iload_n 1, 1), (56, .sipush 10013, 3), (59, .if_icmp .ne 9, 3), (62, .iload 5, 2), (64, .ineg, 1), (65, .goto 13, 3), (68, .iload 5, 2), (70, .ifCond .ne 7, 3), (73, .iconst 1, 1), (74, .goto 4, 3), (77, .iconst 0, 1), (78, .iastore, 1), (79, .iload_n 2, 1), (80, .ireturn, 1), (81, .iload_n 3, 1), (82, .ifCond .ge 5, 3), (85, .iload_n 2, 1), (86, .ireturn, 1), (87, .aload_n 0, 1), (88, .getfield 9, 3), (91, .iload_n 3, 1), (92, .iaload, 1), (93, .istore 6, 2), (95, .iload_n 1, 1), (96, .tableswitch 166 10010 10017 #[48, 72, 166, 166, 96, 117, 138, 152], 48), (144, .aload_n 0, 1), (145, .getfield 9, 3), (148, .iload_n 3, 1), (149, .iload 6, 2), (151, .ifCond .ne 8, 3), (154, .iload 5, 2), (156, .ifCond .eq 7, 3), (159, .iconst 1, 1), (160, .goto 4, 3), (163, .iconst 0, 1), (164, .iastore, 1), (165, .goto 108, 3), (168, .aload_n 0, 1), (169, .getfield 9, 3), (172, .iload_n 3, 1), (173, .iload 6, 2), (175, .ifCond .eq 12, 3), (178, .iload 5, 2), (180, .ifCond .eq 7, 3), (183, .iconst 1, 1), (184, .goto 4, 3), (187, .iconst 0, 1), (188, .iastore, 1), (189, .goto 84, 3), (192, .aload_n 0, 1), (193, .getfield 9, 3), (196, .iload_n 3, 1), (197, .iload 6, 2), (199, .iload 5, 2), (201, .if_icmp .ge 7, 3), (204, .iconst 1, 1), (205, .goto 4, 3), (208, .iconst 0, 1), (209, .iastore, 1), (210, .goto 63, 3), (213, .aload_n 0, 1), (214, .getfield 9, 3), (217, .iload_n 3, 1), (218, .iload 6, 2), (220, .iload 5, 2), (222, .if_icmp .ne 7, 3), (225, .iconst 1, 1), (226, .goto 4, 3), (229, .iconst 0, 1), (230, .iastore, 1), (231, .goto 42, 3), (234, .aload_n 0, 1), (235, .getfield 9, 3), (238, .iload_n 3, 1), (239, .iload 6, 2), (241, .iload 5, 2), (243, .iadd, 1), (244, .iastore, 1), (245, .goto 28, 3), (248, .aload_n 0, 1), (249, .getfield 9, 3), (252, .iload_n 3, 1), (253, .iload 6, 2), (255, .iload 5, 2), (257, .isub, 1), (258, .iastore, 1), (259, .goto 14, 3), (262, .aload_n 0, 1), (263, .getfield 9, 3), (266, .iload_n 3, 1), (267, .iload 6, 2), (269, .iload 5, 2), (271, .imul, 1), (272, .iastore, 1), (273, .iload 4, 2), (275, .ireturn, 1)]
set_option maxRecDepth 20000 in
theorem dtX4_work : ∀ x ∈ tbX4_work, decode cX4_work x.1 = .ok x.2 := by decide +kernel
noncomputable def j4_work_49  (x0 : Nat) (x1 : Int32) (x2 : Int32) (x4 : Int32) (x5 : Int32) (w : Wd) : Option (Int32 × Wd) :=
  ck (tg w x0 = 4) (if x1 = (10013 : Int32) then (ck (tg w (wr w x0 4) = 20 ∧ vp_in x4 (ln w (wr w x0 4))) (lw (sI w (wr w x0 4) (x4).toNatClampNeg (-x5)) fun w10 => (some (x2, w10)))) else (if x5 = (0 : Int32) then (ck (tg w (wr w x0 4) = 20 ∧ vp_in x4 (ln w (wr w x0 4))) (lw (sI w (wr w x0 4) (x4).toNatClampNeg (1 : Int32)) fun w14 => (some (x2, w14)))) else (ck (tg w (wr w x0 4) = 20 ∧ vp_in x4 (ln w (wr w x0 4))) (lw (sI w (wr w x0 4) (x4).toNatClampNeg (0 : Int32)) fun w17 => (some (x2, w17))))))
theorem wpj4_work_49 (X : CX) (w0 : Wd)  (x0 : Nat) (x1 : Int32) (x2 : Int32) (x4 : Int32) (x5 : Int32) (w : Wd) : WPe rtI X (mX4_work, 1, 0, 0, w0) 0 0 (j4_work_49  x0 x1 x2 x4 x5 w) 49 [(0, vR x0), (1, vI x1), (2, vI x2), (4, vI x4), (5, vI x5)] [] w := by
  unfold j4_work_49
  refine WPe_aload_n (pc := 49) 0 (dd dtX4_work 28 rfl) rfl ?_
  refine WPe_ck fun h7 => ?_
  refine WPe_getR (pc := 50) (t := 4) (C := RX4) (T := TX4) 4 (dd dtX4_work 29 rfl) (shE h7) rfl (Nat.le_of_ble_eq_true rfl) rfl (bw_mem2 11 rfl rfl) ?_
  refine WPe_iload (pc := 53) 3 (dd dtX4_work 30 rfl) rfl ?_
  refine WPe_iload_n (pc := 55) 1 (dd dtX4_work 31 rfl) rfl ?_
  refine WPe_sipush (pc := 56) (10013 : Int32) (dd dtX4_work 32 rfl) (by decide) ?_
  refine WPe_icmp_ne (pc := 59) 68 (dd dtX4_work 33 rfl) (by decide) (fun h8 => ?_) (fun h8 => ?_)
  · refine WPe_iload (pc := 62) 4 (dd dtX4_work 34 rfl) rfl ?_
    refine WPe_ineg (pc := 64) (dd dtX4_work 35 rfl) ?_
    refine WPe_goto (pc := 65) 78 (dd dtX4_work 36 rfl) (by decide) ?_
    refine WPe_ck fun h9 => ?_
    refine WPe_iast (pc := 78) (dd dtX4_work 42 rfl) (shE h9.1) h9.2 ?_
    refine WPe_lw fun w10 e11 => ?_
    refine WPe_iload_n (pc := 79) 2 (dd dtX4_work 43 rfl) rfl ?_
    exact WPe_ireturn (pc := 80) (dd dtX4_work 44 rfl) rfl rfl ⟨(Nat.le_of_ble_eq_true rfl), (Nat.le_of_ble_eq_true rfl)⟩
  · refine WPe_iload (pc := 68) 4 (dd dtX4_work 37 rfl) rfl ?_
    refine WPe_if_ne (pc := 70) 77 (dd dtX4_work 38 rfl) (by decide) (fun h12 => ?_) (fun h12 => ?_)
    · refine WPe_iconst (pc := 73) (1 : Int32) (dd dtX4_work 39 rfl) (by decide) ?_
      refine WPe_goto (pc := 74) 78 (dd dtX4_work 40 rfl) (by decide) ?_
      refine WPe_ck fun h13 => ?_
      refine WPe_iast (pc := 78) (dd dtX4_work 42 rfl) (shE h13.1) h13.2 ?_
      refine WPe_lw fun w14 e15 => ?_
      refine WPe_iload_n (pc := 79) 2 (dd dtX4_work 43 rfl) rfl ?_
      exact WPe_ireturn (pc := 80) (dd dtX4_work 44 rfl) rfl rfl ⟨(Nat.le_of_ble_eq_true rfl), (Nat.le_of_ble_eq_true rfl)⟩
    · refine WPe_iconst (pc := 77) (0 : Int32) (dd dtX4_work 41 rfl) (by decide) ?_
      refine WPe_ck fun h16 => ?_
      refine WPe_iast (pc := 78) (dd dtX4_work 42 rfl) (shE h16.1) h16.2 ?_
      refine WPe_lw fun w17 e18 => ?_
      refine WPe_iload_n (pc := 79) 2 (dd dtX4_work 43 rfl) rfl ?_
      exact WPe_ireturn (pc := 80) (dd dtX4_work 44 rfl) rfl rfl ⟨(Nat.le_of_ble_eq_true rfl), (Nat.le_of_ble_eq_true rfl)⟩
noncomputable def f4_work (x0 : Nat) (x1 : Int32) (x2 : Int32) (w : Wd) : Option (Int32 × Wd) :=
  if (x2 - (1 : Int32)) < (0 : Int32) then (some (x2, w)) else (ck (tg w x0 = 4) (ck (tg w (wr w x0 4) = 20) (if (x2 - (1 : Int32)) < (Int32.ofNat (ln w (wr w x0 4))) then (ck (vp_in (x2 - (1 : Int32)) (ln w (wr w x0 4))) (if x1 = (10012 : Int32) then (j4_work_49 x0 x1 x2 (x2 - (1 : Int32)) (wi w (wr w x0 4) ((x2 - (1 : Int32))).toNatClampNeg) w) else (if x1 = (10013 : Int32) then (j4_work_49 x0 x1 x2 (x2 - (1 : Int32)) (wi w (wr w x0 4) ((x2 - (1 : Int32))).toNatClampNeg) w) else (if (0 : Int32) ≤ (x2 - (2 : Int32)) then (ck (vp_in (x2 - (2 : Int32)) (ln w (wr w x0 4))) (if x1 = (10010 : Int32) then (if (wi w (wr w x0 4) ((x2 - (2 : Int32))).toNatClampNeg) = (0 : Int32) then (if (wi w (wr w x0 4) ((x2 - (1 : Int32))).toNatClampNeg) = (0 : Int32) then (ck (vp_in (x2 - (2 : Int32)) (ln w (wr w x0 4))) (lw (sI w (wr w x0 4) ((x2 - (2 : Int32))).toNatClampNeg (0 : Int32)) fun w26 => (some ((x2 - (1 : Int32)), w26)))) else (ck (vp_in (x2 - (2 : Int32)) (ln w (wr w x0 4))) (lw (sI w (wr w x0 4) ((x2 - (2 : Int32))).toNatClampNeg (1 : Int32)) fun w29 => (some ((x2 - (1 : Int32)), w29))))) else (ck (vp_in (x2 - (2 : Int32)) (ln w (wr w x0 4))) (lw (sI w (wr w x0 4) ((x2 - (2 : Int32))).toNatClampNeg (1 : Int32)) fun w32 => (some ((x2 - (1 : Int32)), w32))))) else (if x1 = (10011 : Int32) then (if (wi w (wr w x0 4) ((x2 - (2 : Int32))).toNatClampNeg) = (0 : Int32) then (ck (vp_in (x2 - (2 : Int32)) (ln w (wr w x0 4))) (lw (sI w (wr w x0 4) ((x2 - (2 : Int32))).toNatClampNeg (0 : Int32)) fun w37 => (some ((x2 - (1 : Int32)), w37)))) else (if (wi w (wr w x0 4) ((x2 - (1 : Int32))).toNatClampNeg) = (0 : Int32) then (ck (vp_in (x2 - (2 : Int32)) (ln w (wr w x0 4))) (lw (sI w (wr w x0 4) ((x2 - (2 : Int32))).toNatClampNeg (0 : Int32)) fun w41 => (some ((x2 - (1 : Int32)), w41)))) else (ck (vp_in (x2 - (2 : Int32)) (ln w (wr w x0 4))) (lw (sI w (wr w x0 4) ((x2 - (2 : Int32))).toNatClampNeg (1 : Int32)) fun w44 => (some ((x2 - (1 : Int32)), w44)))))) else (if x1 = (10014 : Int32) then (if (wi w (wr w x0 4) ((x2 - (1 : Int32))).toNatClampNeg) ≤ (wi w (wr w x0 4) ((x2 - (2 : Int32))).toNatClampNeg) then (ck (vp_in (x2 - (2 : Int32)) (ln w (wr w x0 4))) (lw (sI w (wr w x0 4) ((x2 - (2 : Int32))).toNatClampNeg (0 : Int32)) fun w49 => (some ((x2 - (1 : Int32)), w49)))) else (ck (vp_in (x2 - (2 : Int32)) (ln w (wr w x0 4))) (lw (sI w (wr w x0 4) ((x2 - (2 : Int32))).toNatClampNeg (1 : Int32)) fun w52 => (some ((x2 - (1 : Int32)), w52))))) else (if x1 = (10015 : Int32) then (if (wi w (wr w x0 4) ((x2 - (2 : Int32))).toNatClampNeg) = (wi w (wr w x0 4) ((x2 - (1 : Int32))).toNatClampNeg) then (ck (vp_in (x2 - (2 : Int32)) (ln w (wr w x0 4))) (lw (sI w (wr w x0 4) ((x2 - (2 : Int32))).toNatClampNeg (1 : Int32)) fun w57 => (some ((x2 - (1 : Int32)), w57)))) else (ck (vp_in (x2 - (2 : Int32)) (ln w (wr w x0 4))) (lw (sI w (wr w x0 4) ((x2 - (2 : Int32))).toNatClampNeg (0 : Int32)) fun w60 => (some ((x2 - (1 : Int32)), w60))))) else (if x1 = (10016 : Int32) then (ck (vp_in (x2 - (2 : Int32)) (ln w (wr w x0 4))) (lw (sI w (wr w x0 4) ((x2 - (2 : Int32))).toNatClampNeg ((wi w (wr w x0 4) ((x2 - (2 : Int32))).toNatClampNeg) + (wi w (wr w x0 4) ((x2 - (1 : Int32))).toNatClampNeg))) fun w64 => (some ((x2 - (1 : Int32)), w64)))) else (if x1 = (10017 : Int32) then (ck (vp_in (x2 - (2 : Int32)) (ln w (wr w x0 4))) (lw (sI w (wr w x0 4) ((x2 - (2 : Int32))).toNatClampNeg ((wi w (wr w x0 4) ((x2 - (2 : Int32))).toNatClampNeg) - (wi w (wr w x0 4) ((x2 - (1 : Int32))).toNatClampNeg))) fun w68 => (some ((x2 - (1 : Int32)), w68)))) else (ck (vp_in (x2 - (2 : Int32)) (ln w (wr w x0 4))) (lw (sI w (wr w x0 4) ((x2 - (2 : Int32))).toNatClampNeg ((wi w (wr w x0 4) ((x2 - (2 : Int32))).toNatClampNeg) * (wi w (wr w x0 4) ((x2 - (1 : Int32))).toNatClampNeg))) fun w71 => (some ((x2 - (1 : Int32)), w71))))))))))) else (some (x2, w)))))) else (some (x2, w)))))
theorem wpf4_work (X : CX) (w0 : Wd) (x0 : Nat) (x1 : Int32) (x2 : Int32) (w : Wd) : WPe rtI X (mX4_work, 1, 0, 0, w0) 0 0 (f4_work x0 x1 x2 w) 0 [(0, vR x0), (1, vI x1), (2, vI x2)] [] w := by
  unfold f4_work
  refine WPe_iload_n (pc := 0) 2 (dd dtX4_work 0 rfl) rfl ?_
  refine WPe_iconst (pc := 1) (2 : Int32) (dd dtX4_work 1 rfl) (by decide) ?_
  refine WPe_isub (pc := 2) (dd dtX4_work 2 rfl) ?_
  refine WPe_istore_n (pc := 3) (ls' := [(3, vI (x2 - (2 : Int32))), (0, vR x0), (1, vI x1), (2, vI x2)]) (dd dtX4_work 3 rfl) (Nat.le_of_ble_eq_true rfl) rfl ?_
  refine WPe_iload_n (pc := 4) 3 (dd dtX4_work 4 rfl) rfl ?_
  refine WPe_iconst (pc := 5) (1 : Int32) (dd dtX4_work 5 rfl) (by decide) ?_
  refine WPe_isub (pc := 6) (dd dtX4_work 6 rfl) ?_
  refine WPe_istore (pc := 7) (ls' := [(4, vI (x2 - (1 : Int32))), (3, vI (x2 - (2 : Int32))), (0, vR x0), (1, vI x1), (2, vI x2)]) (dd dtX4_work 7 rfl) (Nat.le_of_ble_eq_true rfl) rfl ?_
  refine WPe_iload (pc := 9) 0 (dd dtX4_work 8 rfl) rfl ?_
  refine WPe_if_lt (pc := 11) 24 (dd dtX4_work 9 rfl) (by decide) (fun h1 => ?_) (fun h1 => ?_)
  · refine WPe_iload_n (pc := 24) 4 (dd dtX4_work 15 rfl) rfl ?_
    exact WPe_ireturn (pc := 25) (dd dtX4_work 16 rfl) rfl rfl ⟨(Nat.le_of_ble_eq_true rfl), (Nat.le_of_ble_eq_true rfl)⟩
  · refine WPe_iload (pc := 14) 0 (dd dtX4_work 10 rfl) rfl ?_
    refine WPe_aload_n (pc := 16) 2 (dd dtX4_work 11 rfl) rfl ?_
    refine WPe_ck fun h2 => ?_
    refine WPe_getR (pc := 17) (t := 4) (C := RX4) (T := TX4) 4 (dd dtX4_work 12 rfl) (shE h2) rfl (Nat.le_of_ble_eq_true rfl) rfl (bw_mem2 11 rfl rfl) ?_
    refine WPe_ck fun h3 => ?_
    refine WPe_alen (pc := 20) (dd dtX4_work 13 rfl) (shL (shE h3)) ⟨(Nat.le_of_ble_eq_true rfl), (Nat.le_of_ble_eq_true rfl)⟩ ?_
    refine WPe_icmp_lt (pc := 21) 26 (dd dtX4_work 14 rfl) (by decide) (fun h4 => ?_) (fun h4 => ?_)
    · refine WPe_aload_n (pc := 26) 2 (dd dtX4_work 17 rfl) rfl ?_
      refine WPe_getR (pc := 27) (t := 4) (C := RX4) (T := TX4) 4 (dd dtX4_work 18 rfl) (shE h2) rfl (Nat.le_of_ble_eq_true rfl) rfl (bw_mem2 11 rfl rfl) ?_
      refine WPe_iload (pc := 30) 0 (dd dtX4_work 19 rfl) rfl ?_
      refine WPe_ck fun h5 => ?_
      refine WPe_iald (pc := 32) (dd dtX4_work 20 rfl) (shL (shE h3)) h5 ?_
      refine WPe_istore (pc := 33) (ls' := [(5, vI (wi w (wr w x0 4) ((x2 - (1 : Int32))).toNatClampNeg)), (4, vI (x2 - (1 : Int32))), (3, vI (x2 - (2 : Int32))), (0, vR x0), (1, vI x1), (2, vI x2)]) (dd dtX4_work 21 rfl) (Nat.le_of_ble_eq_true rfl) rfl ?_
      refine WPe_iload_n (pc := 35) 4 (dd dtX4_work 22 rfl) rfl ?_
      refine WPe_sipush (pc := 36) (10012 : Int32) (dd dtX4_work 23 rfl) (by decide) ?_
      refine WPe_icmp_eq (pc := 39) 49 (dd dtX4_work 24 rfl) (by decide) (fun h6 => ?_) (fun h6 => ?_)
      · refine WPe_sub [3, 4, 5, 1, 0] rfl ?_
        exact wpj4_work_49 X w0  x0 x1 x2 (x2 - (1 : Int32)) (wi w (wr w x0 4) ((x2 - (1 : Int32))).toNatClampNeg) w
      · refine WPe_iload_n (pc := 42) 4 (dd dtX4_work 25 rfl) rfl ?_
        refine WPe_sipush (pc := 43) (10013 : Int32) (dd dtX4_work 26 rfl) (by decide) ?_
        refine WPe_icmp_ne (pc := 46) 81 (dd dtX4_work 27 rfl) (by decide) (fun h19 => ?_) (fun h19 => ?_)
        · refine WPe_sub [3, 4, 5, 1, 0] rfl ?_
          exact wpj4_work_49 X w0  x0 x1 x2 (x2 - (1 : Int32)) (wi w (wr w x0 4) ((x2 - (1 : Int32))).toNatClampNeg) w
        · refine WPe_iload_n (pc := 81) 2 (dd dtX4_work 45 rfl) rfl ?_
          refine WPe_if_ge (pc := 82) 87 (dd dtX4_work 46 rfl) (by decide) (fun h20 => ?_) (fun h20 => ?_)
          · refine WPe_aload_n (pc := 87) 3 (dd dtX4_work 49 rfl) rfl ?_
            refine WPe_getR (pc := 88) (t := 4) (C := RX4) (T := TX4) 4 (dd dtX4_work 50 rfl) (shE h2) rfl (Nat.le_of_ble_eq_true rfl) rfl (bw_mem2 11 rfl rfl) ?_
            refine WPe_iload_n (pc := 91) 2 (dd dtX4_work 51 rfl) rfl ?_
            refine WPe_ck fun h21 => ?_
            refine WPe_iald (pc := 92) (dd dtX4_work 52 rfl) (shL (shE h3)) h21 ?_
            refine WPe_istore (pc := 93) (ls' := [(6, vI (wi w (wr w x0 4) ((x2 - (2 : Int32))).toNatClampNeg)), (5, vI (wi w (wr w x0 4) ((x2 - (1 : Int32))).toNatClampNeg)), (4, vI (x2 - (1 : Int32))), (3, vI (x2 - (2 : Int32))), (0, vR x0), (1, vI x1), (2, vI x2)]) (dd dtX4_work 53 rfl) (Nat.le_of_ble_eq_true rfl) rfl ?_
            refine WPe_iload_n (pc := 95) 5 (dd dtX4_work 54 rfl) rfl ?_
            refine WPe_ite (fun h22 => ?_) (fun h22 => ?_)
            · refine WPe_tabIn (pc := 96) (10010 : Int32) 144 (dd dtX4_work 55 rfl) h22 (by decide) (by decide) rfl (by decide) ?_
              refine WPe_aload_n (pc := 144) 4 (dd dtX4_work 56 rfl) rfl ?_
              refine WPe_getR (pc := 145) (t := 4) (C := RX4) (T := TX4) 4 (dd dtX4_work 57 rfl) (shE h2) rfl (Nat.le_of_ble_eq_true rfl) rfl (bw_mem2 11 rfl rfl) ?_
              refine WPe_iload_n (pc := 148) 3 (dd dtX4_work 58 rfl) rfl ?_
              refine WPe_iload (pc := 149) 0 (dd dtX4_work 59 rfl) rfl ?_
              refine WPe_if_ne (pc := 151) 159 (dd dtX4_work 60 rfl) (by decide) (fun h23 => ?_) (fun h23 => ?_)
              · refine WPe_iload (pc := 154) 1 (dd dtX4_work 61 rfl) rfl ?_
                refine WPe_if_eq (pc := 156) 163 (dd dtX4_work 62 rfl) (by decide) (fun h24 => ?_) (fun h24 => ?_)
                · refine WPe_iconst (pc := 163) (0 : Int32) (dd dtX4_work 65 rfl) (by decide) ?_
                  refine WPe_ck fun h25 => ?_
                  refine WPe_iast (pc := 164) (dd dtX4_work 66 rfl) (shL (shE h3)) h25 ?_
                  refine WPe_lw fun w26 e27 => ?_
                  refine WPe_goto (pc := 165) 273 (dd dtX4_work 67 rfl) (by decide) ?_
                  refine WPe_iload (pc := 273) 2 (dd dtX4_work 125 rfl) rfl ?_
                  exact WPe_ireturn (pc := 275) (dd dtX4_work 126 rfl) rfl rfl ⟨(Nat.le_of_ble_eq_true rfl), (Nat.le_of_ble_eq_true rfl)⟩
                · refine WPe_iconst (pc := 159) (1 : Int32) (dd dtX4_work 63 rfl) (by decide) ?_
                  refine WPe_goto (pc := 160) 164 (dd dtX4_work 64 rfl) (by decide) ?_
                  refine WPe_ck fun h28 => ?_
                  refine WPe_iast (pc := 164) (dd dtX4_work 66 rfl) (shL (shE h3)) h28 ?_
                  refine WPe_lw fun w29 e30 => ?_
                  refine WPe_goto (pc := 165) 273 (dd dtX4_work 67 rfl) (by decide) ?_
                  refine WPe_iload (pc := 273) 2 (dd dtX4_work 125 rfl) rfl ?_
                  exact WPe_ireturn (pc := 275) (dd dtX4_work 126 rfl) rfl rfl ⟨(Nat.le_of_ble_eq_true rfl), (Nat.le_of_ble_eq_true rfl)⟩
              · refine WPe_iconst (pc := 159) (1 : Int32) (dd dtX4_work 63 rfl) (by decide) ?_
                refine WPe_goto (pc := 160) 164 (dd dtX4_work 64 rfl) (by decide) ?_
                refine WPe_ck fun h31 => ?_
                refine WPe_iast (pc := 164) (dd dtX4_work 66 rfl) (shL (shE h3)) h31 ?_
                refine WPe_lw fun w32 e33 => ?_
                refine WPe_goto (pc := 165) 273 (dd dtX4_work 67 rfl) (by decide) ?_
                refine WPe_iload (pc := 273) 2 (dd dtX4_work 125 rfl) rfl ?_
                exact WPe_ireturn (pc := 275) (dd dtX4_work 126 rfl) rfl rfl ⟨(Nat.le_of_ble_eq_true rfl), (Nat.le_of_ble_eq_true rfl)⟩
            · refine WPe_ite (fun h34 => ?_) (fun h34 => ?_)
              · refine WPe_tabIn (pc := 96) (10011 : Int32) 168 (dd dtX4_work 55 rfl) h34 (by decide) (by decide) rfl (by decide) ?_
                refine WPe_aload_n (pc := 168) 4 (dd dtX4_work 68 rfl) rfl ?_
                refine WPe_getR (pc := 169) (t := 4) (C := RX4) (T := TX4) 4 (dd dtX4_work 69 rfl) (shE h2) rfl (Nat.le_of_ble_eq_true rfl) rfl (bw_mem2 11 rfl rfl) ?_
                refine WPe_iload_n (pc := 172) 3 (dd dtX4_work 70 rfl) rfl ?_
                refine WPe_iload (pc := 173) 0 (dd dtX4_work 71 rfl) rfl ?_
                refine WPe_if_eq (pc := 175) 187 (dd dtX4_work 72 rfl) (by decide) (fun h35 => ?_) (fun h35 => ?_)
                · refine WPe_iconst (pc := 187) (0 : Int32) (dd dtX4_work 77 rfl) (by decide) ?_
                  refine WPe_ck fun h36 => ?_
                  refine WPe_iast (pc := 188) (dd dtX4_work 78 rfl) (shL (shE h3)) h36 ?_
                  refine WPe_lw fun w37 e38 => ?_
                  refine WPe_goto (pc := 189) 273 (dd dtX4_work 79 rfl) (by decide) ?_
                  refine WPe_iload (pc := 273) 2 (dd dtX4_work 125 rfl) rfl ?_
                  exact WPe_ireturn (pc := 275) (dd dtX4_work 126 rfl) rfl rfl ⟨(Nat.le_of_ble_eq_true rfl), (Nat.le_of_ble_eq_true rfl)⟩
                · refine WPe_iload (pc := 178) 1 (dd dtX4_work 73 rfl) rfl ?_
                  refine WPe_if_eq (pc := 180) 187 (dd dtX4_work 74 rfl) (by decide) (fun h39 => ?_) (fun h39 => ?_)
                  · refine WPe_iconst (pc := 187) (0 : Int32) (dd dtX4_work 77 rfl) (by decide) ?_
                    refine WPe_ck fun h40 => ?_
                    refine WPe_iast (pc := 188) (dd dtX4_work 78 rfl) (shL (shE h3)) h40 ?_
                    refine WPe_lw fun w41 e42 => ?_
                    refine WPe_goto (pc := 189) 273 (dd dtX4_work 79 rfl) (by decide) ?_
                    refine WPe_iload (pc := 273) 2 (dd dtX4_work 125 rfl) rfl ?_
                    exact WPe_ireturn (pc := 275) (dd dtX4_work 126 rfl) rfl rfl ⟨(Nat.le_of_ble_eq_true rfl), (Nat.le_of_ble_eq_true rfl)⟩
                  · refine WPe_iconst (pc := 183) (1 : Int32) (dd dtX4_work 75 rfl) (by decide) ?_
                    refine WPe_goto (pc := 184) 188 (dd dtX4_work 76 rfl) (by decide) ?_
                    refine WPe_ck fun h43 => ?_
                    refine WPe_iast (pc := 188) (dd dtX4_work 78 rfl) (shL (shE h3)) h43 ?_
                    refine WPe_lw fun w44 e45 => ?_
                    refine WPe_goto (pc := 189) 273 (dd dtX4_work 79 rfl) (by decide) ?_
                    refine WPe_iload (pc := 273) 2 (dd dtX4_work 125 rfl) rfl ?_
                    exact WPe_ireturn (pc := 275) (dd dtX4_work 126 rfl) rfl rfl ⟨(Nat.le_of_ble_eq_true rfl), (Nat.le_of_ble_eq_true rfl)⟩
              · refine WPe_ite (fun h46 => ?_) (fun h46 => ?_)
                · refine WPe_tabIn (pc := 96) (10014 : Int32) 192 (dd dtX4_work 55 rfl) h46 (by decide) (by decide) rfl (by decide) ?_
                  refine WPe_aload_n (pc := 192) 4 (dd dtX4_work 80 rfl) rfl ?_
                  refine WPe_getR (pc := 193) (t := 4) (C := RX4) (T := TX4) 4 (dd dtX4_work 81 rfl) (shE h2) rfl (Nat.le_of_ble_eq_true rfl) rfl (bw_mem2 11 rfl rfl) ?_
                  refine WPe_iload_n (pc := 196) 3 (dd dtX4_work 82 rfl) rfl ?_
                  refine WPe_iload (pc := 197) 0 (dd dtX4_work 83 rfl) rfl ?_
                  refine WPe_iload (pc := 199) 1 (dd dtX4_work 84 rfl) rfl ?_
                  refine WPe_icmp_ge (pc := 201) 208 (dd dtX4_work 85 rfl) (by decide) (fun h47 => ?_) (fun h47 => ?_)
                  · refine WPe_iconst (pc := 208) (0 : Int32) (dd dtX4_work 88 rfl) (by decide) ?_
                    refine WPe_ck fun h48 => ?_
                    refine WPe_iast (pc := 209) (dd dtX4_work 89 rfl) (shL (shE h3)) h48 ?_
                    refine WPe_lw fun w49 e50 => ?_
                    refine WPe_goto (pc := 210) 273 (dd dtX4_work 90 rfl) (by decide) ?_
                    refine WPe_iload (pc := 273) 2 (dd dtX4_work 125 rfl) rfl ?_
                    exact WPe_ireturn (pc := 275) (dd dtX4_work 126 rfl) rfl rfl ⟨(Nat.le_of_ble_eq_true rfl), (Nat.le_of_ble_eq_true rfl)⟩
                  · refine WPe_iconst (pc := 204) (1 : Int32) (dd dtX4_work 86 rfl) (by decide) ?_
                    refine WPe_goto (pc := 205) 209 (dd dtX4_work 87 rfl) (by decide) ?_
                    refine WPe_ck fun h51 => ?_
                    refine WPe_iast (pc := 209) (dd dtX4_work 89 rfl) (shL (shE h3)) h51 ?_
                    refine WPe_lw fun w52 e53 => ?_
                    refine WPe_goto (pc := 210) 273 (dd dtX4_work 90 rfl) (by decide) ?_
                    refine WPe_iload (pc := 273) 2 (dd dtX4_work 125 rfl) rfl ?_
                    exact WPe_ireturn (pc := 275) (dd dtX4_work 126 rfl) rfl rfl ⟨(Nat.le_of_ble_eq_true rfl), (Nat.le_of_ble_eq_true rfl)⟩
                · refine WPe_ite (fun h54 => ?_) (fun h54 => ?_)
                  · refine WPe_tabIn (pc := 96) (10015 : Int32) 213 (dd dtX4_work 55 rfl) h54 (by decide) (by decide) rfl (by decide) ?_
                    refine WPe_aload_n (pc := 213) 4 (dd dtX4_work 91 rfl) rfl ?_
                    refine WPe_getR (pc := 214) (t := 4) (C := RX4) (T := TX4) 4 (dd dtX4_work 92 rfl) (shE h2) rfl (Nat.le_of_ble_eq_true rfl) rfl (bw_mem2 11 rfl rfl) ?_
                    refine WPe_iload_n (pc := 217) 3 (dd dtX4_work 93 rfl) rfl ?_
                    refine WPe_iload (pc := 218) 0 (dd dtX4_work 94 rfl) rfl ?_
                    refine WPe_iload (pc := 220) 1 (dd dtX4_work 95 rfl) rfl ?_
                    refine WPe_icmp_ne (pc := 222) 229 (dd dtX4_work 96 rfl) (by decide) (fun h55 => ?_) (fun h55 => ?_)
                    · refine WPe_iconst (pc := 225) (1 : Int32) (dd dtX4_work 97 rfl) (by decide) ?_
                      refine WPe_goto (pc := 226) 230 (dd dtX4_work 98 rfl) (by decide) ?_
                      refine WPe_ck fun h56 => ?_
                      refine WPe_iast (pc := 230) (dd dtX4_work 100 rfl) (shL (shE h3)) h56 ?_
                      refine WPe_lw fun w57 e58 => ?_
                      refine WPe_goto (pc := 231) 273 (dd dtX4_work 101 rfl) (by decide) ?_
                      refine WPe_iload (pc := 273) 2 (dd dtX4_work 125 rfl) rfl ?_
                      exact WPe_ireturn (pc := 275) (dd dtX4_work 126 rfl) rfl rfl ⟨(Nat.le_of_ble_eq_true rfl), (Nat.le_of_ble_eq_true rfl)⟩
                    · refine WPe_iconst (pc := 229) (0 : Int32) (dd dtX4_work 99 rfl) (by decide) ?_
                      refine WPe_ck fun h59 => ?_
                      refine WPe_iast (pc := 230) (dd dtX4_work 100 rfl) (shL (shE h3)) h59 ?_
                      refine WPe_lw fun w60 e61 => ?_
                      refine WPe_goto (pc := 231) 273 (dd dtX4_work 101 rfl) (by decide) ?_
                      refine WPe_iload (pc := 273) 2 (dd dtX4_work 125 rfl) rfl ?_
                      exact WPe_ireturn (pc := 275) (dd dtX4_work 126 rfl) rfl rfl ⟨(Nat.le_of_ble_eq_true rfl), (Nat.le_of_ble_eq_true rfl)⟩
                  · refine WPe_ite (fun h62 => ?_) (fun h62 => ?_)
                    · refine WPe_tabIn (pc := 96) (10016 : Int32) 234 (dd dtX4_work 55 rfl) h62 (by decide) (by decide) rfl (by decide) ?_
                      refine WPe_aload_n (pc := 234) 4 (dd dtX4_work 102 rfl) rfl ?_
                      refine WPe_getR (pc := 235) (t := 4) (C := RX4) (T := TX4) 4 (dd dtX4_work 103 rfl) (shE h2) rfl (Nat.le_of_ble_eq_true rfl) rfl (bw_mem2 11 rfl rfl) ?_
                      refine WPe_iload_n (pc := 238) 3 (dd dtX4_work 104 rfl) rfl ?_
                      refine WPe_iload (pc := 239) 0 (dd dtX4_work 105 rfl) rfl ?_
                      refine WPe_iload (pc := 241) 1 (dd dtX4_work 106 rfl) rfl ?_
                      refine WPe_iadd (pc := 243) (dd dtX4_work 107 rfl) ?_
                      refine WPe_ck fun h63 => ?_
                      refine WPe_iast (pc := 244) (dd dtX4_work 108 rfl) (shL (shE h3)) h63 ?_
                      refine WPe_lw fun w64 e65 => ?_
                      refine WPe_goto (pc := 245) 273 (dd dtX4_work 109 rfl) (by decide) ?_
                      refine WPe_iload (pc := 273) 2 (dd dtX4_work 125 rfl) rfl ?_
                      exact WPe_ireturn (pc := 275) (dd dtX4_work 126 rfl) rfl rfl ⟨(Nat.le_of_ble_eq_true rfl), (Nat.le_of_ble_eq_true rfl)⟩
                    · refine WPe_ite (fun h66 => ?_) (fun h66 => ?_)
                      · refine WPe_tabIn (pc := 96) (10017 : Int32) 248 (dd dtX4_work 55 rfl) h66 (by decide) (by decide) rfl (by decide) ?_
                        refine WPe_aload_n (pc := 248) 4 (dd dtX4_work 110 rfl) rfl ?_
                        refine WPe_getR (pc := 249) (t := 4) (C := RX4) (T := TX4) 4 (dd dtX4_work 111 rfl) (shE h2) rfl (Nat.le_of_ble_eq_true rfl) rfl (bw_mem2 11 rfl rfl) ?_
                        refine WPe_iload_n (pc := 252) 3 (dd dtX4_work 112 rfl) rfl ?_
                        refine WPe_iload (pc := 253) 0 (dd dtX4_work 113 rfl) rfl ?_
                        refine WPe_iload (pc := 255) 1 (dd dtX4_work 114 rfl) rfl ?_
                        refine WPe_isub (pc := 257) (dd dtX4_work 115 rfl) ?_
                        refine WPe_ck fun h67 => ?_
                        refine WPe_iast (pc := 258) (dd dtX4_work 116 rfl) (shL (shE h3)) h67 ?_
                        refine WPe_lw fun w68 e69 => ?_
                        refine WPe_goto (pc := 259) 273 (dd dtX4_work 117 rfl) (by decide) ?_
                        refine WPe_iload (pc := 273) 2 (dd dtX4_work 125 rfl) rfl ?_
                        exact WPe_ireturn (pc := 275) (dd dtX4_work 126 rfl) rfl rfl ⟨(Nat.le_of_ble_eq_true rfl), (Nat.le_of_ble_eq_true rfl)⟩
                      · refine WPe_tabOut (pc := 96) 262 (dd dtX4_work 55 rfl) (fun j hj => ?_) (by decide) ?_
                        · match j, hj with
                          | 0, _ => exact Or.inr (tneq h22 (by decide))
                          | 1, _ => exact Or.inr (tneq h34 (by decide))
                          | 2, _ => exact Or.inl rfl
                          | 3, _ => exact Or.inl rfl
                          | 4, _ => exact Or.inr (tneq h46 (by decide))
                          | 5, _ => exact Or.inr (tneq h54 (by decide))
                          | 6, _ => exact Or.inr (tneq h62 (by decide))
                          | 7, _ => exact Or.inr (tneq h66 (by decide))
                          | j + 8, h => exact absurd h (by omega)
                        refine WPe_aload_n (pc := 262) 4 (dd dtX4_work 118 rfl) rfl ?_
                        refine WPe_getR (pc := 263) (t := 4) (C := RX4) (T := TX4) 4 (dd dtX4_work 119 rfl) (shE h2) rfl (Nat.le_of_ble_eq_true rfl) rfl (bw_mem2 11 rfl rfl) ?_
                        refine WPe_iload_n (pc := 266) 3 (dd dtX4_work 120 rfl) rfl ?_
                        refine WPe_iload (pc := 267) 0 (dd dtX4_work 121 rfl) rfl ?_
                        refine WPe_iload (pc := 269) 1 (dd dtX4_work 122 rfl) rfl ?_
                        refine WPe_imul (pc := 271) (dd dtX4_work 123 rfl) ?_
                        refine WPe_ck fun h70 => ?_
                        refine WPe_iast (pc := 272) (dd dtX4_work 124 rfl) (shL (shE h3)) h70 ?_
                        refine WPe_lw fun w71 e72 => ?_
                        refine WPe_iload (pc := 273) 2 (dd dtX4_work 125 rfl) rfl ?_
                        exact WPe_ireturn (pc := 275) (dd dtX4_work 126 rfl) rfl rfl ⟨(Nat.le_of_ble_eq_true rfl), (Nat.le_of_ble_eq_true rfl)⟩
          · refine WPe_iload_n (pc := 85) 5 (dd dtX4_work 47 rfl) rfl ?_
            exact WPe_ireturn (pc := 86) (dd dtX4_work 48 rfl) rfl rfl ⟨(Nat.le_of_ble_eq_true rfl), (Nat.le_of_ble_eq_true rfl)⟩
    · refine WPe_iload_n (pc := 24) 4 (dd dtX4_work 15 rfl) rfl ?_
      exact WPe_ireturn (pc := 25) (dd dtX4_work 16 rfl) rfl rfl ⟨(Nat.le_of_ble_eq_true rfl), (Nat.le_of_ble_eq_true rfl)⟩
theorem okf4_work (x0 : Nat) (x1 : Int32) (x2 : Int32) (w : Wd) : ∀ z, f4_work x0 x1 x2 w = some z → OkM mX4_work 1 0 0 [vR x0, vI x1, vI x2] w (rtI z.1) z.2 :=
  OkM.of (rt := rtI) moX4_work (Nat.le_of_ble_eq_true rfl) (fun X => wpf4_work X w x0 x1 x2 w)
def tbX4_named : List (Nat × Instr × Nat) := [(0, .iload_n 0, 1), (1, .tableswitch 72 10000 10004 #[35, 40, 45, 62, 67], 35), (36, .aload_n 1, 1), (37, .getfield 40, 3), (40, .ireturn, 1), (41, .aload_n 1, 1), (42, .getfield 45, 3), (45, .ireturn, 1), (46, .aload_n 2, 1), (47, .getfield 48, 3), (50, .iconst 3, 1), (51, .if_icmp .ne 7, 3), (54, .iconst 0, 1), (55, .goto 7, 3), (58, .aload_n 2, 1), (59, .getfield 48, 3), (62, .ireturn, 1), (63, .aload_n 1, 1), (64, .getfield 53, 3), (67, .ireturn, 1), (68, .aload_n 2, 1), (69, .getfield 56, 3), (72, .ireturn, 1), (73, .aload_n 2, 1), (74, .getfield 59, 3), (77, .ireturn, 1)]
set_option maxRecDepth 20000 in
theorem dtX4_named : ∀ x ∈ tbX4_named, decode cX4_named x.1 = .ok x.2 := by decide +kernel
noncomputable def f4_named (x0 : Int32) (x1 : Nat) (x2 : Nat) (w : Wd) : Option (Int32 × Wd) :=
  if x0 = (10000 : Int32) then (ck (tg w x1 = 1) (some ((wi w x1 1), w))) else (if x0 = (10001 : Int32) then (ck (tg w x1 = 1) (some ((wi w x1 2), w))) else (if x0 = (10002 : Int32) then (ck (tg w x2 = 0) (if (wi w x2 2) = (3 : Int32) then (some ((0 : Int32), w)) else (some ((wi w x2 2), w)))) else (if x0 = (10003 : Int32) then (ck (tg w x1 = 1) (some ((wi w x1 0), w))) else (if x0 = (10004 : Int32) then (ck (tg w x2 = 0) (some ((wi w x2 3), w))) else (ck (tg w x2 = 0) (some ((wi w x2 1), w)))))))
theorem wpf4_named (X : CX) (w0 : Wd) (x0 : Int32) (x1 : Nat) (x2 : Nat) (w : Wd) : WPe rtI X (mX4_named, 1, 0, 0, w0) 0 0 (f4_named x0 x1 x2 w) 0 [(0, vI x0), (1, vR x1), (2, vR x2)] [] w := by
  unfold f4_named
  refine WPe_iload_n (pc := 0) 0 (dd dtX4_named 0 rfl) rfl ?_
  refine WPe_ite (fun h1 => ?_) (fun h1 => ?_)
  · refine WPe_tabIn (pc := 1) (10000 : Int32) 36 (dd dtX4_named 1 rfl) h1 (by decide) (by decide) rfl (by decide) ?_
    refine WPe_aload_n (pc := 36) 1 (dd dtX4_named 2 rfl) rfl ?_
    refine WPe_ck fun h2 => ?_
    refine WPe_getI (pc := 37) (t := 1) (C := RX1) (T := TX1) 1 (dd dtX4_named 3 rfl) (shE h2) rfl (Nat.le_of_ble_eq_true rfl) rfl (bw_mem2 72 rfl rfl) ?_
    exact WPe_ireturn (pc := 40) (dd dtX4_named 4 rfl) rfl rfl ⟨(Nat.le_of_ble_eq_true rfl), (Nat.le_of_ble_eq_true rfl)⟩
  · refine WPe_ite (fun h3 => ?_) (fun h3 => ?_)
    · refine WPe_tabIn (pc := 1) (10001 : Int32) 41 (dd dtX4_named 1 rfl) h3 (by decide) (by decide) rfl (by decide) ?_
      refine WPe_aload_n (pc := 41) 1 (dd dtX4_named 5 rfl) rfl ?_
      refine WPe_ck fun h4 => ?_
      refine WPe_getI (pc := 42) (t := 1) (C := RX1) (T := TX1) 2 (dd dtX4_named 6 rfl) (shE h4) rfl (Nat.le_of_ble_eq_true rfl) rfl (bw_mem2 75 rfl rfl) ?_
      exact WPe_ireturn (pc := 45) (dd dtX4_named 7 rfl) rfl rfl ⟨(Nat.le_of_ble_eq_true rfl), (Nat.le_of_ble_eq_true rfl)⟩
    · refine WPe_ite (fun h5 => ?_) (fun h5 => ?_)
      · refine WPe_tabIn (pc := 1) (10002 : Int32) 46 (dd dtX4_named 1 rfl) h5 (by decide) (by decide) rfl (by decide) ?_
        refine WPe_aload_n (pc := 46) 2 (dd dtX4_named 8 rfl) rfl ?_
        refine WPe_ck fun h6 => ?_
        refine WPe_getI (pc := 47) (t := 0) (C := RX0) (T := TX0) 2 (dd dtX4_named 9 rfl) (shE h6) rfl (Nat.le_of_ble_eq_true rfl) rfl (bw_mem2 47 rfl rfl) ?_
        refine WPe_iconst (pc := 50) (3 : Int32) (dd dtX4_named 10 rfl) (by decide) ?_
        refine WPe_icmp_ne (pc := 51) 58 (dd dtX4_named 11 rfl) (by decide) (fun h7 => ?_) (fun h7 => ?_)
        · refine WPe_iconst (pc := 54) (0 : Int32) (dd dtX4_named 12 rfl) (by decide) ?_
          refine WPe_goto (pc := 55) 62 (dd dtX4_named 13 rfl) (by decide) ?_
          exact WPe_ireturn (pc := 62) (dd dtX4_named 16 rfl) rfl rfl ⟨(Nat.le_of_ble_eq_true rfl), (Nat.le_of_ble_eq_true rfl)⟩
        · refine WPe_aload_n (pc := 58) 2 (dd dtX4_named 14 rfl) rfl ?_
          refine WPe_getI (pc := 59) (t := 0) (C := RX0) (T := TX0) 2 (dd dtX4_named 15 rfl) (shE h6) rfl (Nat.le_of_ble_eq_true rfl) rfl (bw_mem2 47 rfl rfl) ?_
          exact WPe_ireturn (pc := 62) (dd dtX4_named 16 rfl) rfl rfl ⟨(Nat.le_of_ble_eq_true rfl), (Nat.le_of_ble_eq_true rfl)⟩
      · refine WPe_ite (fun h8 => ?_) (fun h8 => ?_)
        · refine WPe_tabIn (pc := 1) (10003 : Int32) 63 (dd dtX4_named 1 rfl) h8 (by decide) (by decide) rfl (by decide) ?_
          refine WPe_aload_n (pc := 63) 1 (dd dtX4_named 17 rfl) rfl ?_
          refine WPe_ck fun h9 => ?_
          refine WPe_getI (pc := 64) (t := 1) (C := RX1) (T := TX1) 0 (dd dtX4_named 18 rfl) (shE h9) rfl (Nat.le_of_ble_eq_true rfl) rfl (bw_mem2 70 rfl rfl) ?_
          exact WPe_ireturn (pc := 67) (dd dtX4_named 19 rfl) rfl rfl ⟨(Nat.le_of_ble_eq_true rfl), (Nat.le_of_ble_eq_true rfl)⟩
        · refine WPe_ite (fun h10 => ?_) (fun h10 => ?_)
          · refine WPe_tabIn (pc := 1) (10004 : Int32) 68 (dd dtX4_named 1 rfl) h10 (by decide) (by decide) rfl (by decide) ?_
            refine WPe_aload_n (pc := 68) 2 (dd dtX4_named 20 rfl) rfl ?_
            refine WPe_ck fun h11 => ?_
            refine WPe_getI (pc := 69) (t := 0) (C := RX0) (T := TX0) 3 (dd dtX4_named 21 rfl) (shE h11) rfl (Nat.le_of_ble_eq_true rfl) rfl (bw_mem2 51 rfl rfl) ?_
            exact WPe_ireturn (pc := 72) (dd dtX4_named 22 rfl) rfl rfl ⟨(Nat.le_of_ble_eq_true rfl), (Nat.le_of_ble_eq_true rfl)⟩
          · refine WPe_tabOut (pc := 1) 73 (dd dtX4_named 1 rfl) (fun j hj => ?_) (by decide) ?_
            · match j, hj with
              | 0, _ => exact Or.inr (tneq h1 (by decide))
              | 1, _ => exact Or.inr (tneq h3 (by decide))
              | 2, _ => exact Or.inr (tneq h5 (by decide))
              | 3, _ => exact Or.inr (tneq h8 (by decide))
              | 4, _ => exact Or.inr (tneq h10 (by decide))
              | j + 5, h => exact absurd h (by omega)
            refine WPe_aload_n (pc := 73) 2 (dd dtX4_named 23 rfl) rfl ?_
            refine WPe_ck fun h12 => ?_
            refine WPe_getI (pc := 74) (t := 0) (C := RX0) (T := TX0) 1 (dd dtX4_named 24 rfl) (shE h12) rfl (Nat.le_of_ble_eq_true rfl) rfl (bw_mem2 43 rfl rfl) ?_
            exact WPe_ireturn (pc := 77) (dd dtX4_named 25 rfl) rfl rfl ⟨(Nat.le_of_ble_eq_true rfl), (Nat.le_of_ble_eq_true rfl)⟩
theorem okf4_named (x0 : Int32) (x1 : Nat) (x2 : Nat) (w : Wd) : ∀ z, f4_named x0 x1 x2 w = some z → OkM mX4_named 1 0 0 [vI x0, vR x1, vR x2] w (rtI z.1) z.2 :=
  OkM.of (rt := rtI) moX4_named (Nat.le_of_ble_eq_true rfl) (fun X => wpf4_named X w x0 x1 x2 w)
def tbX5_bounded : List (Nat × Instr × Nat) := [(0, .iload_n 1, 1), (1, .iload_n 2, 1), (2, .iload_n 0, 1), (3, .invokestatic 264, 3), (6, .invokestatic 269, 3), (9, .ireturn, 1)]
set_option maxRecDepth 20000 in
theorem dtX5_bounded : ∀ x ∈ tbX5_bounded, decode cX5_bounded x.1 = .ok x.2 := by decide +kernel
noncomputable def f5_bounded (x0 : Int32) (x1 : Int32) (x2 : Int32) (w : Wd) : Option (Int32 × Wd) :=
  some ((if x1 < (if x0 < x2 then x0 else x2) then (if x0 < x2 then x0 else x2) else x1), w)
theorem wpf5_bounded (X : CX) (w0 : Wd) (x0 : Int32) (x1 : Int32) (x2 : Int32) (w : Wd) : WPe rtI X (mX5_bounded, 1, 0, 0, w0) 0 0 (f5_bounded x0 x1 x2 w) 0 [(0, vI x0), (1, vI x1), (2, vI x2)] [] w := by
  unfold f5_bounded
  refine WPe_iload_n (pc := 0) 1 (dd dtX5_bounded 0 rfl) rfl ?_
  refine WPe_iload_n (pc := 1) 2 (dd dtX5_bounded 1 rfl) rfl ?_
  refine WPe_iload_n (pc := 2) 0 (dd dtX5_bounded 2 rfl) rfl ?_
  refine WPe_mmin (pc := 3) (dd dtX5_bounded 3 rfl) (bw_mem2 211 rfl rfl) mmmin1 mm2 mmmin3 (Nat.le_of_ble_eq_true rfl) (Nat.le_of_ble_eq_true rfl) ⟨(Nat.le_of_ble_eq_true rfl), (Nat.le_of_ble_eq_true rfl)⟩ ?_
  refine WPe_mmax (pc := 6) (dd dtX5_bounded 4 rfl) (bw_mem2 212 rfl rfl) mmmax1 mm2 mmmax3 (Nat.le_of_ble_eq_true rfl) (Nat.le_of_ble_eq_true rfl) ⟨(Nat.le_of_ble_eq_true rfl), (Nat.le_of_ble_eq_true rfl)⟩ ?_
  exact WPe_ireturn (pc := 9) (dd dtX5_bounded 5 rfl) rfl rfl ⟨(Nat.le_of_ble_eq_true rfl), (Nat.le_of_ble_eq_true rfl)⟩
theorem okf5_bounded (x0 : Int32) (x1 : Int32) (x2 : Int32) (w : Wd) : ∀ z, f5_bounded x0 x1 x2 w = some z → OkM mX5_bounded 1 0 0 [vI x0, vI x1, vI x2] w (rtI z.1) z.2 :=
  OkM.of (rt := rtI) moX5_bounded (Nat.le_of_ble_eq_true rfl) (fun X => wpf5_bounded X w x0 x1 x2 w)
def tbX4_says : List (Nat × Instr × Nat) := [(0, .iload_n 1, 1), (1, .ifCond .ne 7, 3), (4, .iconst 0, 1), (5, .goto 19, 3), (8, .iload_n 1, 1), (9, .iconst 1, 1), (10, .if_icmp .ne 10, 3), (13, .aload_n 0, 1), (14, .getfield 22, 3), (17, .goto 7, 3), (20, .aload_n 0, 1), (21, .getfield 25, 3), (24, .istore 4, 2), (26, .iload_n 1, 1), (27, .ifCond .ne 10, 3), (30, .aload_n 0, 1), (31, .getfield 22, 3), (34, .goto 20, 3), (37, .iload_n 1, 1), (38, .iconst 1, 1), (39, .if_icmp .ne 10, 3), (42, .aload_n 0, 1), (43, .getfield 25, 3), (46, .goto 8, 3), (49, .aload_n 0, 1), (50, .getfield 19, 3), (53, .arraylength, 1), (54, .istore 5, 2), (56, .iconst 0, 1), (57, .istore 6, 2), (59, .iload 4, 2), (61, .istore 7, 2), (63, .iload 7, 2), (65, .iload 5, 2), (67, .if_icmp .ge 89, 3), (70, .iload 7, 2), (72, .aload_n 0, 1), (73, .getfield 19, 3), (76, .arraylength, 1), (77, .if_icmp .ge 79, 3), (80, .aload_n 0, 1), (81, .getfield 19, 3), (84, .iload 7, 2), (86, .iaload, 1), (87, .istore 8, 2), (89, .iload 8, 2), (91, .sipush 10010, 3), (94, .if_icmp .lt 16, 3), (97, .aload_n 0, 1), (98, .iload 8, 2), (100, .iload 6, 2), (102, .invokevirtual 28, 3), (105, .istore 6, 2), (107, .goto 43, 3), (110, .iload 6, 2), (112, .aload_n 0, 1), (113, .getfield 9, 3), (116, .arraylength, 1), (117, .if_icmp .ge 33, 3), (120, .aload_n 0, 1), (121, .getfield 9, 3), (124, .iload 6, 2), (126, .iload 8, 2), (128, .sipush 10000, 3), (131, .if_icmp .ge 8, 3), (134, .iload 8, 2), (136, .goto 10, 3), (139, .iload 8, 2), (141, .aload_n 2, 1), (142, .aload_n 3, 1), (143, .invokestatic 32, 3), (146, .iastore, 1), (147, .iinc 6 1, 3), (150, .iinc 7 1, 3), (153, .goto (-90), 3), (156, .iload 6, 2), (158, .ifCond .le 12, 3), (161, .aload_n 0, 1), (162, .getfield 9, 3), (165, .iconst 0, 1), (166, .iaload, 1), (167, .goto 4, 3), (170, .iconst 0, 1), (171, .istore 7, 2), (173, .iload_n 1, 1), (174, .iconst 1, 1), (175, .if_icmp .ne 15, 3), (178, .iload 7, 2), (180, .iconst 0, 1), (181, .sipush 999, 3), (184, .invokestatic 36, 3), (187, .goto 12, 3), (190, .iload 7, 2), (192, .bipush (-99), 2), (194, .bipush 99, 2), (196, .invokestatic 36, 3), (199, .ireturn, 1)]
set_option maxRecDepth 20000 in
theorem dtX4_says : ∀ x ∈ tbX4_says, decode cX4_says x.1 = .ok x.2 := by decide +kernel
noncomputable def j4_says_171  (x1 : Int32) (s0 : Int32) (w : Wd) : Option (Int32 × Wd) :=
  if x1 = (1 : Int32) then ((f5_bounded s0 (0 : Int32) (999 : Int32) w).bind fun z7 => (some (z7.1, z7.2))) else ((f5_bounded s0 (-99 : Int32) (99 : Int32) w).bind fun z10 => (some (z10.1, z10.2)))
theorem wpj4_says_171 (X : CX) (w0 : Wd)  (x1 : Int32) (s0 : Int32) (w : Wd) : WPe rtI X (mX4_says, 2, 0, 0, w0) 0 0 (j4_says_171  x1 s0 w) 171 [(1, vI x1)] [vI s0] w := by
  unfold j4_says_171
  refine WPe_istore (pc := 171) (ls' := [(7, vI s0), (1, vI x1)]) (dd dtX4_says 83 rfl) (Nat.le_of_ble_eq_true rfl) rfl ?_
  refine WPe_iload_n (pc := 173) 1 (dd dtX4_says 84 rfl) rfl ?_
  refine WPe_iconst (pc := 174) (1 : Int32) (dd dtX4_says 85 rfl) (by decide) ?_
  refine WPe_icmp_ne (pc := 175) 190 (dd dtX4_says 86 rfl) (by decide) (fun h6 => ?_) (fun h6 => ?_)
  · refine WPe_iload (pc := 178) 0 (dd dtX4_says 87 rfl) rfl ?_
    refine WPe_iconst (pc := 180) (0 : Int32) (dd dtX4_says 88 rfl) (by decide) ?_
    refine WPe_sipush (pc := 181) (999 : Int32) (dd dtX4_says 89 rfl) (by decide) ?_
    refine WPe_callSN (pc := 184) (host := "SteamOnBench") (rtc := rtI) (Mc := mX5_bounded) (d' := 1) (mc' := 0) (ms' := 0) [vI s0, vI (0 : Int32), vI (999 : Int32)] [] rfl (dd dtX4_says 90 rfl) (okf5_bounded s0 (0 : Int32) (999 : Int32) w) moX5_bounded msX5_bounded (List.mem_of_getElem? (i := 3) rfl) rfl (Nat.le_of_ble_eq_true rfl) ⟨(Nat.le_of_ble_eq_true rfl), (Nat.le_of_ble_eq_true rfl)⟩ ⟨(Nat.le_of_ble_eq_true rfl), (Nat.le_of_ble_eq_true rfl)⟩ (fun z7 h8 e9 => ?_)
    refine WPe_st (st2 := [vI z7.1]) rfl ?_
    refine WPe_goto (pc := 187) 199 (dd dtX4_says 91 rfl) (by decide) ?_
    exact WPe_ireturn (pc := 199) (dd dtX4_says 96 rfl) rfl rfl ⟨(Nat.le_of_ble_eq_true rfl), (Nat.le_of_ble_eq_true rfl)⟩
  · refine WPe_iload (pc := 190) 0 (dd dtX4_says 92 rfl) rfl ?_
    refine WPe_bipush (pc := 192) (-99 : Int32) (dd dtX4_says 93 rfl) (by decide) ?_
    refine WPe_bipush (pc := 194) (99 : Int32) (dd dtX4_says 94 rfl) (by decide) ?_
    refine WPe_callSN (pc := 196) (host := "SteamOnBench") (rtc := rtI) (Mc := mX5_bounded) (d' := 1) (mc' := 0) (ms' := 0) [vI s0, vI (-99 : Int32), vI (99 : Int32)] [] rfl (dd dtX4_says 95 rfl) (okf5_bounded s0 (-99 : Int32) (99 : Int32) w) moX5_bounded msX5_bounded (List.mem_of_getElem? (i := 3) rfl) rfl (Nat.le_of_ble_eq_true rfl) ⟨(Nat.le_of_ble_eq_true rfl), (Nat.le_of_ble_eq_true rfl)⟩ ⟨(Nat.le_of_ble_eq_true rfl), (Nat.le_of_ble_eq_true rfl)⟩ (fun z10 h11 e12 => ?_)
    refine WPe_st (st2 := [vI z10.1]) rfl ?_
    exact WPe_ireturn (pc := 199) (dd dtX4_says 96 rfl) rfl rfl ⟨(Nat.le_of_ble_eq_true rfl), (Nat.le_of_ble_eq_true rfl)⟩
noncomputable def j4_says_156  (x0 : Nat) (x1 : Int32) (x6 : Int32) (w : Wd) : Option (Int32 × Wd) :=
  if x6 ≤ (0 : Int32) then (j4_says_171 x1 (0 : Int32) w) else (ck (tg w x0 = 4) (ck (tg w (wr w x0 4) = 20 ∧ vp_in (0 : Int32) (ln w (wr w x0 4))) (j4_says_171 x1 (wi w (wr w x0 4) ((0 : Int32)).toNatClampNeg) w)))
theorem wpj4_says_156 (X : CX) (w0 : Wd)  (x0 : Nat) (x1 : Int32) (x6 : Int32) (w : Wd) : WPe rtI X (mX4_says, 2, 0, 0, w0) 0 0 (j4_says_156  x0 x1 x6 w) 156 [(0, vR x0), (1, vI x1), (6, vI x6)] [] w := by
  unfold j4_says_156
  refine WPe_iload (pc := 156) 2 (dd dtX4_says 75 rfl) rfl ?_
  refine WPe_if_le (pc := 158) 170 (dd dtX4_says 76 rfl) (by decide) (fun h5 => ?_) (fun h5 => ?_)
  · refine WPe_iconst (pc := 170) (0 : Int32) (dd dtX4_says 82 rfl) (by decide) ?_
    refine WPe_sub [1] rfl ?_
    exact wpj4_says_171 X w0  x1 (0 : Int32) w
  · refine WPe_aload_n (pc := 161) 0 (dd dtX4_says 77 rfl) rfl ?_
    refine WPe_ck fun h13 => ?_
    refine WPe_getR (pc := 162) (t := 4) (C := RX4) (T := TX4) 4 (dd dtX4_says 78 rfl) (shE h13) rfl (Nat.le_of_ble_eq_true rfl) rfl (bw_mem2 11 rfl rfl) ?_
    refine WPe_iconst (pc := 165) (0 : Int32) (dd dtX4_says 79 rfl) (by decide) ?_
    refine WPe_ck fun h14 => ?_
    refine WPe_iald (pc := 166) (dd dtX4_says 80 rfl) (shE h14.1) h14.2 ?_
    refine WPe_goto (pc := 167) 171 (dd dtX4_says 81 rfl) (by decide) ?_
    refine WPe_sub [1] rfl ?_
    exact wpj4_says_171 X w0  x1 (wi w (wr w x0 4) ((0 : Int32)).toNatClampNeg) w
noncomputable def j4_says_150 (k63 : Nat × Int32 × Nat × Nat × Int32 × Int32 × Int32 → Wd → Option (Int32 × Wd)) (x0 : Nat) (x1 : Int32) (x2 : Nat) (x3 : Nat) (x5 : Int32) (x6 : Int32) (x7 : Int32) (w : Wd) : Option (Int32 × Wd) :=
  k63 (x0, x1, x2, x3, x5, x6, (x7 + (1 : Int32))) w
theorem wpj4_says_150 (X : CX) (w0 : Wd) (k63 : Nat × Int32 × Nat × Nat × Int32 × Int32 × Int32 → Wd → Option (Int32 × Wd)) (hk63 : ∀ (v : Nat × Int32 × Nat × Nat × Int32 × Int32 × Int32) (w : Wd), WPe rtI X (mX4_says, 2, 0, 0, w0) 0 0 (k63 v w) 63 [(0, vR v.1), (1, vI v.2.1), (2, vR v.2.2.1), (3, vR v.2.2.2.1), (5, vI v.2.2.2.2.1), (6, vI v.2.2.2.2.2.1), (7, vI v.2.2.2.2.2.2)] [] w) (x0 : Nat) (x1 : Int32) (x2 : Nat) (x3 : Nat) (x5 : Int32) (x6 : Int32) (x7 : Int32) (w : Wd) : WPe rtI X (mX4_says, 2, 0, 0, w0) 0 0 (j4_says_150 k63 x0 x1 x2 x3 x5 x6 x7 w) 150 [(0, vR x0), (1, vI x1), (2, vR x2), (3, vR x3), (5, vI x5), (6, vI x6), (7, vI x7)] [] w := by
  unfold j4_says_150
  refine WPe_iinc (pc := 150) (ls' := [(7, vI (x7 + (1 : Int32))), (0, vR x0), (1, vI x1), (2, vR x2), (3, vR x3), (5, vI x5), (6, vI x6)]) 6 (x7 + (1 : Int32)) (dd dtX4_says 73 rfl) rfl (congrArg (HAdd.hAdd _) (by decide : Int32.ofInt (1) = (1 : Int32))) (Nat.le_of_ble_eq_true rfl) rfl ?_
  refine WPe_goto (pc := 153) 63 (dd dtX4_says 74 rfl) (by decide) ?_
  refine WPe_sub [1, 2, 3, 4, 5, 6, 0] rfl ?_
  exact hk63 (x0, x1, x2, x3, x5, x6, (x7 + (1 : Int32))) w
noncomputable def j4_says_146 (k63 : Nat × Int32 × Nat × Nat × Int32 × Int32 × Int32 → Wd → Option (Int32 × Wd)) (x0 : Nat) (x1 : Int32) (x2 : Nat) (x3 : Nat) (x5 : Int32) (x6 : Int32) (x7 : Int32) (s0 : Int32) (s1 : Int32) (s2 : Nat) (w : Wd) : Option (Int32 × Wd) :=
  ck (tg w s2 = 20 ∧ vp_in s1 (ln w s2)) (lw (sI w s2 (s1).toNatClampNeg s0) fun w27 => (j4_says_150 k63 x0 x1 x2 x3 x5 (x6 + (1 : Int32)) x7 w27))
theorem wpj4_says_146 (X : CX) (w0 : Wd) (k63 : Nat × Int32 × Nat × Nat × Int32 × Int32 × Int32 → Wd → Option (Int32 × Wd)) (hk63 : ∀ (v : Nat × Int32 × Nat × Nat × Int32 × Int32 × Int32) (w : Wd), WPe rtI X (mX4_says, 2, 0, 0, w0) 0 0 (k63 v w) 63 [(0, vR v.1), (1, vI v.2.1), (2, vR v.2.2.1), (3, vR v.2.2.2.1), (5, vI v.2.2.2.2.1), (6, vI v.2.2.2.2.2.1), (7, vI v.2.2.2.2.2.2)] [] w) (x0 : Nat) (x1 : Int32) (x2 : Nat) (x3 : Nat) (x5 : Int32) (x6 : Int32) (x7 : Int32) (s0 : Int32) (s1 : Int32) (s2 : Nat) (w : Wd) : WPe rtI X (mX4_says, 2, 0, 0, w0) 0 0 (j4_says_146 k63 x0 x1 x2 x3 x5 x6 x7 s0 s1 s2 w) 146 [(0, vR x0), (1, vI x1), (2, vR x2), (3, vR x3), (5, vI x5), (6, vI x6), (7, vI x7)] [vI s0, vI s1, vR s2] w := by
  unfold j4_says_146
  refine WPe_ck fun h26 => ?_
  refine WPe_iast (pc := 146) (dd dtX4_says 71 rfl) (shE h26.1) h26.2 ?_
  refine WPe_lw fun w27 e28 => ?_
  refine WPe_iinc (pc := 147) (ls' := [(6, vI (x6 + (1 : Int32))), (0, vR x0), (1, vI x1), (2, vR x2), (3, vR x3), (5, vI x5), (7, vI x7)]) 5 (x6 + (1 : Int32)) (dd dtX4_says 72 rfl) rfl (congrArg (HAdd.hAdd _) (by decide : Int32.ofInt (1) = (1 : Int32))) (Nat.le_of_ble_eq_true rfl) rfl ?_
  refine WPe_sub [1, 2, 3, 4, 5, 0, 6] rfl ?_
  exact wpj4_says_150 X w0 k63 hk63 x0 x1 x2 x3 x5 (x6 + (1 : Int32)) x7 w27
noncomputable def b4_says_63 (k63 : Nat × Int32 × Nat × Nat × Int32 × Int32 × Int32 → Wd → Option (Int32 × Wd)) (v : Nat × Int32 × Nat × Nat × Int32 × Int32 × Int32) (w : Wd) : Option (Int32 × Wd) :=
  if v.2.2.2.2.1 ≤ v.2.2.2.2.2.2 then (j4_says_156 v.1 v.2.1 v.2.2.2.2.2.1 w) else (ck (tg w v.1 = 4) (ck (tg w (wr w v.1 1) = 20) (if (Int32.ofNat (ln w (wr w v.1 1))) ≤ v.2.2.2.2.2.2 then (j4_says_156 v.1 v.2.1 v.2.2.2.2.2.1 w) else (ck (vp_in v.2.2.2.2.2.2 (ln w (wr w v.1 1))) (if (wi w (wr w v.1 1) (v.2.2.2.2.2.2).toNatClampNeg) < (10010 : Int32) then (ck (tg w (wr w v.1 4) = 20) (if (Int32.ofNat (ln w (wr w v.1 4))) ≤ v.2.2.2.2.2.1 then (j4_says_150 k63 v.1 v.2.1 v.2.2.1 v.2.2.2.1 v.2.2.2.2.1 v.2.2.2.2.2.1 v.2.2.2.2.2.2 w) else (if (10000 : Int32) ≤ (wi w (wr w v.1 1) (v.2.2.2.2.2.2).toNatClampNeg) then ((f4_named (wi w (wr w v.1 1) (v.2.2.2.2.2.2).toNatClampNeg) v.2.2.1 v.2.2.2.1 w).bind fun z23 => (j4_says_146 k63 v.1 v.2.1 v.2.2.1 v.2.2.2.1 v.2.2.2.2.1 v.2.2.2.2.2.1 v.2.2.2.2.2.2 z23.1 v.2.2.2.2.2.1 (wr w v.1 4) z23.2)) else (j4_says_146 k63 v.1 v.2.1 v.2.2.1 v.2.2.2.1 v.2.2.2.2.1 v.2.2.2.2.2.1 v.2.2.2.2.2.2 (wi w (wr w v.1 1) (v.2.2.2.2.2.2).toNatClampNeg) v.2.2.2.2.2.1 (wr w v.1 4) w)))) else ((f4_work v.1 (wi w (wr w v.1 1) (v.2.2.2.2.2.2).toNatClampNeg) v.2.2.2.2.2.1 w).bind fun z29 => (j4_says_150 k63 v.1 v.2.1 v.2.2.1 v.2.2.2.1 v.2.2.2.2.1 z29.1 v.2.2.2.2.2.2 z29.2)))))))
theorem wpb4_says_63 (X : CX) (w0 : Wd) (k63 : Nat × Int32 × Nat × Nat × Int32 × Int32 × Int32 → Wd → Option (Int32 × Wd)) (hk63 : ∀ (v : Nat × Int32 × Nat × Nat × Int32 × Int32 × Int32) (w : Wd), WPe rtI X (mX4_says, 2, 0, 0, w0) 0 0 (k63 v w) 63 [(0, vR v.1), (1, vI v.2.1), (2, vR v.2.2.1), (3, vR v.2.2.2.1), (5, vI v.2.2.2.2.1), (6, vI v.2.2.2.2.2.1), (7, vI v.2.2.2.2.2.2)] [] w) (v : Nat × Int32 × Nat × Nat × Int32 × Int32 × Int32) (w : Wd) : WPe rtI X (mX4_says, 2, 0, 0, w0) 0 0 (b4_says_63 k63 v w) 63 [(0, vR v.1), (1, vI v.2.1), (2, vR v.2.2.1), (3, vR v.2.2.2.1), (5, vI v.2.2.2.2.1), (6, vI v.2.2.2.2.2.1), (7, vI v.2.2.2.2.2.2)] [] w := by
  unfold b4_says_63
  refine WPe_iload (pc := 63) 6 (dd dtX4_says 32 rfl) rfl ?_
  refine WPe_iload (pc := 65) 4 (dd dtX4_says 33 rfl) rfl ?_
  refine WPe_icmp_ge (pc := 67) 156 (dd dtX4_says 34 rfl) (by decide) (fun h4 => ?_) (fun h4 => ?_)
  · refine WPe_sub [0, 1, 5] rfl ?_
    exact wpj4_says_156 X w0  v.1 v.2.1 v.2.2.2.2.2.1 w
  · refine WPe_iload (pc := 70) 6 (dd dtX4_says 35 rfl) rfl ?_
    refine WPe_aload_n (pc := 72) 0 (dd dtX4_says 36 rfl) rfl ?_
    refine WPe_ck fun h15 => ?_
    refine WPe_getR (pc := 73) (t := 4) (C := RX4) (T := TX4) 1 (dd dtX4_says 37 rfl) (shE h15) rfl (Nat.le_of_ble_eq_true rfl) rfl (bw_mem2 8 rfl rfl) ?_
    refine WPe_ck fun h16 => ?_
    refine WPe_alen (pc := 76) (dd dtX4_says 38 rfl) (shL (shE h16)) ⟨(Nat.le_of_ble_eq_true rfl), (Nat.le_of_ble_eq_true rfl)⟩ ?_
    refine WPe_icmp_ge (pc := 77) 156 (dd dtX4_says 39 rfl) (by decide) (fun h17 => ?_) (fun h17 => ?_)
    · refine WPe_sub [0, 1, 5] rfl ?_
      exact wpj4_says_156 X w0  v.1 v.2.1 v.2.2.2.2.2.1 w
    · refine WPe_aload_n (pc := 80) 0 (dd dtX4_says 40 rfl) rfl ?_
      refine WPe_getR (pc := 81) (t := 4) (C := RX4) (T := TX4) 1 (dd dtX4_says 41 rfl) (shE h15) rfl (Nat.le_of_ble_eq_true rfl) rfl (bw_mem2 8 rfl rfl) ?_
      refine WPe_iload (pc := 84) 6 (dd dtX4_says 42 rfl) rfl ?_
      refine WPe_ck fun h18 => ?_
      refine WPe_iald (pc := 86) (dd dtX4_says 43 rfl) (shL (shE h16)) h18 ?_
      refine WPe_istore (pc := 87) (ls' := [(8, vI (wi w (wr w v.1 1) (v.2.2.2.2.2.2).toNatClampNeg)), (0, vR v.1), (1, vI v.2.1), (2, vR v.2.2.1), (3, vR v.2.2.2.1), (5, vI v.2.2.2.2.1), (6, vI v.2.2.2.2.2.1), (7, vI v.2.2.2.2.2.2)]) (dd dtX4_says 44 rfl) (Nat.le_of_ble_eq_true rfl) rfl ?_
      refine WPe_iload (pc := 89) 0 (dd dtX4_says 45 rfl) rfl ?_
      refine WPe_sipush (pc := 91) (10010 : Int32) (dd dtX4_says 46 rfl) (by decide) ?_
      refine WPe_icmp_lt (pc := 94) 110 (dd dtX4_says 47 rfl) (by decide) (fun h19 => ?_) (fun h19 => ?_)
      · refine WPe_iload (pc := 110) 6 (dd dtX4_says 54 rfl) rfl ?_
        refine WPe_aload_n (pc := 112) 1 (dd dtX4_says 55 rfl) rfl ?_
        refine WPe_getR (pc := 113) (t := 4) (C := RX4) (T := TX4) 4 (dd dtX4_says 56 rfl) (shE h15) rfl (Nat.le_of_ble_eq_true rfl) rfl (bw_mem2 11 rfl rfl) ?_
        refine WPe_ck fun h20 => ?_
        refine WPe_alen (pc := 116) (dd dtX4_says 57 rfl) (shL (shE h20)) ⟨(Nat.le_of_ble_eq_true rfl), (Nat.le_of_ble_eq_true rfl)⟩ ?_
        refine WPe_icmp_ge (pc := 117) 150 (dd dtX4_says 58 rfl) (by decide) (fun h21 => ?_) (fun h21 => ?_)
        · refine WPe_sub [1, 2, 3, 4, 5, 6, 7] rfl ?_
          exact wpj4_says_150 X w0 k63 hk63 v.1 v.2.1 v.2.2.1 v.2.2.2.1 v.2.2.2.2.1 v.2.2.2.2.2.1 v.2.2.2.2.2.2 w
        · refine WPe_aload_n (pc := 120) 1 (dd dtX4_says 59 rfl) rfl ?_
          refine WPe_getR (pc := 121) (t := 4) (C := RX4) (T := TX4) 4 (dd dtX4_says 60 rfl) (shE h15) rfl (Nat.le_of_ble_eq_true rfl) rfl (bw_mem2 11 rfl rfl) ?_
          refine WPe_iload (pc := 124) 6 (dd dtX4_says 61 rfl) rfl ?_
          refine WPe_iload (pc := 126) 0 (dd dtX4_says 62 rfl) rfl ?_
          refine WPe_sipush (pc := 128) (10000 : Int32) (dd dtX4_says 63 rfl) (by decide) ?_
          refine WPe_icmp_ge (pc := 131) 139 (dd dtX4_says 64 rfl) (by decide) (fun h22 => ?_) (fun h22 => ?_)
          · refine WPe_iload (pc := 139) 0 (dd dtX4_says 67 rfl) rfl ?_
            refine WPe_aload_n (pc := 141) 3 (dd dtX4_says 68 rfl) rfl ?_
            refine WPe_aload_n (pc := 142) 4 (dd dtX4_says 69 rfl) rfl ?_
            refine WPe_callS (pc := 143) (rtc := rtI) (Mc := mX4_named) (d' := 1) (mc' := 0) (ms' := 0) [vI (wi w (wr w v.1 1) (v.2.2.2.2.2.2).toNatClampNeg), vR v.2.2.1, vR v.2.2.2.1] [vI v.2.2.2.2.2.1, vR (wr w v.1 4)] rfl (dd dtX4_says 70 rfl) (okf4_named (wi w (wr w v.1 1) (v.2.2.2.2.2.2).toNatClampNeg) v.2.2.1 v.2.2.2.1 w) moX4_named msX4_named (bw_mem2 205 rfl rfl) rfl (Nat.le_of_ble_eq_true rfl) ⟨(Nat.le_of_ble_eq_true rfl), (Nat.le_of_ble_eq_true rfl)⟩ ⟨(Nat.le_of_ble_eq_true rfl), (Nat.le_of_ble_eq_true rfl)⟩ (fun z23 h24 e25 => ?_)
            refine WPe_st (st2 := [vI z23.1, vI v.2.2.2.2.2.1, vR (wr w v.1 4)]) rfl ?_
            refine WPe_sub [1, 2, 3, 4, 5, 6, 7] rfl ?_
            exact wpj4_says_146 X w0 k63 hk63 v.1 v.2.1 v.2.2.1 v.2.2.2.1 v.2.2.2.2.1 v.2.2.2.2.2.1 v.2.2.2.2.2.2 z23.1 v.2.2.2.2.2.1 (wr w v.1 4) z23.2
          · refine WPe_iload (pc := 134) 0 (dd dtX4_says 65 rfl) rfl ?_
            refine WPe_goto (pc := 136) 146 (dd dtX4_says 66 rfl) (by decide) ?_
            refine WPe_sub [1, 2, 3, 4, 5, 6, 7] rfl ?_
            exact wpj4_says_146 X w0 k63 hk63 v.1 v.2.1 v.2.2.1 v.2.2.2.1 v.2.2.2.2.1 v.2.2.2.2.2.1 v.2.2.2.2.2.2 (wi w (wr w v.1 1) (v.2.2.2.2.2.2).toNatClampNeg) v.2.2.2.2.2.1 (wr w v.1 4) w
      · refine WPe_aload_n (pc := 97) 1 (dd dtX4_says 48 rfl) rfl ?_
        refine WPe_iload (pc := 98) 0 (dd dtX4_says 49 rfl) rfl ?_
        refine WPe_iload (pc := 100) 6 (dd dtX4_says 50 rfl) rfl ?_
        refine WPe_callV (pc := 102) (rtc := rtI) (Mc := mX4_work) (d' := 1) (mc' := 0) (ms' := 0) [vI (wi w (wr w v.1 1) (v.2.2.2.2.2.2).toNatClampNeg), vI v.2.2.2.2.2.1] [] rfl (dd dtX4_says 51 rfl) (okf4_work v.1 (wi w (wr w v.1 1) (v.2.2.2.2.2.2).toNatClampNeg) v.2.2.2.2.2.1 w) moX4_work miX4_work (bw_mem2 201 rfl rfl) (Or.inl ⟨_, _, _, _, (shE h15), rfl⟩) rfl (Nat.le_of_ble_eq_true rfl) ⟨(Nat.le_of_ble_eq_true rfl), (Nat.le_of_ble_eq_true rfl)⟩ ⟨(Nat.le_of_ble_eq_true rfl), (Nat.le_of_ble_eq_true rfl)⟩ (fun z29 h30 e31 => ?_)
        refine WPe_st (st2 := [vI z29.1]) rfl ?_
        refine WPe_istore (pc := 105) (ls' := [(6, vI z29.1), (8, vI (wi w (wr w v.1 1) (v.2.2.2.2.2.2).toNatClampNeg)), (0, vR v.1), (1, vI v.2.1), (2, vR v.2.2.1), (3, vR v.2.2.2.1), (5, vI v.2.2.2.2.1), (7, vI v.2.2.2.2.2.2)]) (dd dtX4_says 52 rfl) (Nat.le_of_ble_eq_true rfl) rfl ?_
        refine WPe_goto (pc := 107) 150 (dd dtX4_says 53 rfl) (by decide) ?_
        refine WPe_sub [2, 3, 4, 5, 6, 0, 7] rfl ?_
        exact wpj4_says_150 X w0 k63 hk63 v.1 v.2.1 v.2.2.1 v.2.2.2.1 v.2.2.2.2.1 z29.1 v.2.2.2.2.2.2 z29.2
theorem wplb4_says_63 (X : CX) (w0 : Wd)  : ∀ (n9 : Nat) (v : Nat × Int32 × Nat × Nat × Int32 × Int32 × Int32) (w : Wd), WPe rtI X (mX4_says, 2, 0, 0, w0) 0 0 (loopF (b4_says_63 ) n9 v w) 63 [(0, vR v.1), (1, vI v.2.1), (2, vR v.2.2.1), (3, vR v.2.2.2.1), (5, vI v.2.2.2.2.1), (6, vI v.2.2.2.2.2.1), (7, vI v.2.2.2.2.2.2)] [] w :=
  WPe_loop (rt := rtI) (X := X) (M := (mX4_says, 2, 0, 0, w0)) (fun v : Nat × Int32 × Nat × Nat × Int32 × Int32 × Int32 => [(0, vR v.1), (1, vI v.2.1), (2, vR v.2.2.1), (3, vR v.2.2.2.1), (5, vI v.2.2.2.2.1), (6, vI v.2.2.2.2.2.1), (7, vI v.2.2.2.2.2.2)]) (fun k hk v w => wpb4_says_63 X w0  k hk v w)
noncomputable def j4_says_54  (x0 : Nat) (x1 : Int32) (x2 : Nat) (x3 : Nat) (x4 : Int32) (s0 : Int32) (w : Wd) : Option (Int32 × Wd) :=
  loopF (b4_says_63) FU (x0, x1, x2, x3, s0, (0 : Int32), x4) w
theorem wpj4_says_54 (X : CX) (w0 : Wd)  (x0 : Nat) (x1 : Int32) (x2 : Nat) (x3 : Nat) (x4 : Int32) (s0 : Int32) (w : Wd) : WPe rtI X (mX4_says, 2, 0, 0, w0) 0 0 (j4_says_54  x0 x1 x2 x3 x4 s0 w) 54 [(0, vR x0), (1, vI x1), (2, vR x2), (3, vR x3), (4, vI x4)] [vI s0] w := by
  unfold j4_says_54
  refine WPe_istore (pc := 54) (ls' := [(5, vI s0), (0, vR x0), (1, vI x1), (2, vR x2), (3, vR x3), (4, vI x4)]) (dd dtX4_says 27 rfl) (Nat.le_of_ble_eq_true rfl) rfl ?_
  refine WPe_iconst (pc := 56) (0 : Int32) (dd dtX4_says 28 rfl) (by decide) ?_
  refine WPe_istore (pc := 57) (ls' := [(6, vI (0 : Int32)), (5, vI s0), (0, vR x0), (1, vI x1), (2, vR x2), (3, vR x3), (4, vI x4)]) (dd dtX4_says 29 rfl) (Nat.le_of_ble_eq_true rfl) rfl ?_
  refine WPe_iload (pc := 59) 6 (dd dtX4_says 30 rfl) rfl ?_
  refine WPe_istore (pc := 61) (ls' := [(7, vI x4), (6, vI (0 : Int32)), (5, vI s0), (0, vR x0), (1, vI x1), (2, vR x2), (3, vR x3), (4, vI x4)]) (dd dtX4_says 31 rfl) (Nat.le_of_ble_eq_true rfl) rfl ?_
  refine WPe_sub [3, 4, 5, 6, 2, 1, 0] rfl ?_
  exact wplb4_says_63 X w0  FU _ _
noncomputable def j4_says_24  (x0 : Nat) (x1 : Int32) (x2 : Nat) (x3 : Nat) (s0 : Int32) (w : Wd) : Option (Int32 × Wd) :=
  if x1 = (0 : Int32) then (ck (tg w x0 = 4) (j4_says_54 x0 x1 x2 x3 s0 (wi w x0 2) w)) else (if x1 = (1 : Int32) then (ck (tg w x0 = 4) (j4_says_54 x0 x1 x2 x3 s0 (wi w x0 3) w)) else (ck (tg w x0 = 4) (ck (tg w (wr w x0 1) = 20) (j4_says_54 x0 x1 x2 x3 s0 (Int32.ofNat (ln w (wr w x0 1))) w))))
theorem wpj4_says_24 (X : CX) (w0 : Wd)  (x0 : Nat) (x1 : Int32) (x2 : Nat) (x3 : Nat) (s0 : Int32) (w : Wd) : WPe rtI X (mX4_says, 2, 0, 0, w0) 0 0 (j4_says_24  x0 x1 x2 x3 s0 w) 24 [(0, vR x0), (1, vI x1), (2, vR x2), (3, vR x3)] [vI s0] w := by
  unfold j4_says_24
  refine WPe_istore (pc := 24) (ls' := [(4, vI s0), (0, vR x0), (1, vI x1), (2, vR x2), (3, vR x3)]) (dd dtX4_says 12 rfl) (Nat.le_of_ble_eq_true rfl) rfl ?_
  refine WPe_iload_n (pc := 26) 2 (dd dtX4_says 13 rfl) rfl ?_
  refine WPe_if_ne (pc := 27) 37 (dd dtX4_says 14 rfl) (by decide) (fun h2 => ?_) (fun h2 => ?_)
  · refine WPe_aload_n (pc := 30) 1 (dd dtX4_says 15 rfl) rfl ?_
    refine WPe_ck fun h3 => ?_
    refine WPe_getI (pc := 31) (t := 4) (C := RX4) (T := TX4) 2 (dd dtX4_says 16 rfl) (shE h3) rfl (Nat.le_of_ble_eq_true rfl) rfl (bw_mem2 9 rfl rfl) ?_
    refine WPe_goto (pc := 34) 54 (dd dtX4_says 17 rfl) (by decide) ?_
    refine WPe_sub [1, 2, 3, 4, 0] rfl ?_
    exact wpj4_says_54 X w0  x0 x1 x2 x3 s0 (wi w x0 2) w
  · refine WPe_iload_n (pc := 37) 2 (dd dtX4_says 18 rfl) rfl ?_
    refine WPe_iconst (pc := 38) (1 : Int32) (dd dtX4_says 19 rfl) (by decide) ?_
    refine WPe_icmp_ne (pc := 39) 49 (dd dtX4_says 20 rfl) (by decide) (fun h32 => ?_) (fun h32 => ?_)
    · refine WPe_aload_n (pc := 42) 1 (dd dtX4_says 21 rfl) rfl ?_
      refine WPe_ck fun h33 => ?_
      refine WPe_getI (pc := 43) (t := 4) (C := RX4) (T := TX4) 3 (dd dtX4_says 22 rfl) (shE h33) rfl (Nat.le_of_ble_eq_true rfl) rfl (bw_mem2 10 rfl rfl) ?_
      refine WPe_goto (pc := 46) 54 (dd dtX4_says 23 rfl) (by decide) ?_
      refine WPe_sub [1, 2, 3, 4, 0] rfl ?_
      exact wpj4_says_54 X w0  x0 x1 x2 x3 s0 (wi w x0 3) w
    · refine WPe_aload_n (pc := 49) 1 (dd dtX4_says 24 rfl) rfl ?_
      refine WPe_ck fun h34 => ?_
      refine WPe_getR (pc := 50) (t := 4) (C := RX4) (T := TX4) 1 (dd dtX4_says 25 rfl) (shE h34) rfl (Nat.le_of_ble_eq_true rfl) rfl (bw_mem2 8 rfl rfl) ?_
      refine WPe_ck fun h35 => ?_
      refine WPe_alen (pc := 53) (dd dtX4_says 26 rfl) (shL (shE h35)) ⟨(Nat.le_of_ble_eq_true rfl), (Nat.le_of_ble_eq_true rfl)⟩ ?_
      refine WPe_sub [1, 2, 3, 4, 0] rfl ?_
      exact wpj4_says_54 X w0  x0 x1 x2 x3 s0 (Int32.ofNat (ln w (wr w x0 1))) w
noncomputable def f4_says (x0 : Nat) (x1 : Int32) (x2 : Nat) (x3 : Nat) (w : Wd) : Option (Int32 × Wd) :=
  if x1 = (0 : Int32) then (j4_says_24 x0 x1 x2 x3 (0 : Int32) w) else (if x1 = (1 : Int32) then (ck (tg w x0 = 4) (j4_says_24 x0 x1 x2 x3 (wi w x0 2) w)) else (ck (tg w x0 = 4) (j4_says_24 x0 x1 x2 x3 (wi w x0 3) w)))
theorem wpf4_says (X : CX) (w0 : Wd) (x0 : Nat) (x1 : Int32) (x2 : Nat) (x3 : Nat) (w : Wd) : WPe rtI X (mX4_says, 2, 0, 0, w0) 0 0 (f4_says x0 x1 x2 x3 w) 0 [(0, vR x0), (1, vI x1), (2, vR x2), (3, vR x3)] [] w := by
  unfold f4_says
  refine WPe_iload_n (pc := 0) 1 (dd dtX4_says 0 rfl) rfl ?_
  refine WPe_if_ne (pc := 1) 8 (dd dtX4_says 1 rfl) (by decide) (fun h1 => ?_) (fun h1 => ?_)
  · refine WPe_iconst (pc := 4) (0 : Int32) (dd dtX4_says 2 rfl) (by decide) ?_
    refine WPe_goto (pc := 5) 24 (dd dtX4_says 3 rfl) (by decide) ?_
    refine WPe_sub [0, 1, 2, 3] rfl ?_
    exact wpj4_says_24 X w0  x0 x1 x2 x3 (0 : Int32) w
  · refine WPe_iload_n (pc := 8) 1 (dd dtX4_says 4 rfl) rfl ?_
    refine WPe_iconst (pc := 9) (1 : Int32) (dd dtX4_says 5 rfl) (by decide) ?_
    refine WPe_icmp_ne (pc := 10) 20 (dd dtX4_says 6 rfl) (by decide) (fun h36 => ?_) (fun h36 => ?_)
    · refine WPe_aload_n (pc := 13) 0 (dd dtX4_says 7 rfl) rfl ?_
      refine WPe_ck fun h37 => ?_
      refine WPe_getI (pc := 14) (t := 4) (C := RX4) (T := TX4) 2 (dd dtX4_says 8 rfl) (shE h37) rfl (Nat.le_of_ble_eq_true rfl) rfl (bw_mem2 9 rfl rfl) ?_
      refine WPe_goto (pc := 17) 24 (dd dtX4_says 9 rfl) (by decide) ?_
      refine WPe_sub [0, 1, 2, 3] rfl ?_
      exact wpj4_says_24 X w0  x0 x1 x2 x3 (wi w x0 2) w
    · refine WPe_aload_n (pc := 20) 0 (dd dtX4_says 10 rfl) rfl ?_
      refine WPe_ck fun h38 => ?_
      refine WPe_getI (pc := 21) (t := 4) (C := RX4) (T := TX4) 3 (dd dtX4_says 11 rfl) (shE h38) rfl (Nat.le_of_ble_eq_true rfl) rfl (bw_mem2 10 rfl rfl) ?_
      refine WPe_sub [0, 1, 2, 3] rfl ?_
      exact wpj4_says_24 X w0  x0 x1 x2 x3 (wi w x0 3) w
theorem okf4_says (x0 : Nat) (x1 : Int32) (x2 : Nat) (x3 : Nat) (w : Wd) : ∀ z, f4_says x0 x1 x2 x3 w = some z → OkM mX4_says 2 0 0 [vR x0, vI x1, vR x2, vR x3] w (rtI z.1) z.2 :=
  OkM.of (rt := rtI) moX4_says (Nat.le_of_ble_eq_true rfl) (fun X => wpf4_says X w x0 x1 x2 x3 w)
def tbX1_feelsOf : List (Nat × Instr × Nat) := [(0, .aload_n 1, 1), (1, .getfield 48, 3), (4, .iconst 5, 1), (5, .if_icmp .ne 8, 3), (8, .aload_n 1, 1), (9, .getfield 51, 3), (12, .ireturn, 1), (13, .aload_n 0, 1), (14, .getfield 24, 3), (17, .iconst 0, 1), (18, .aload_n 0, 1), (19, .aload_n 1, 1), (20, .invokevirtual 54, 3), (23, .istore_n 2, 1), (24, .aload_n 1, 1), (25, .getfield 48, 3), (28, .iconst 3, 1), (29, .if_icmp .ne 20, 3), (32, .aload_n 0, 1), (33, .getfield 32, 3), (36, .bipush 9, 2), (38, .if_icmp .le 9, 3), (41, .iconst 2, 1), (42, .iload_n 2, 1), (43, .imul, 1), (44, .goto 4, 3), (47, .iload_n 2, 1), (48, .ireturn, 1), (49, .aload_n 1, 1), (50, .getfield 48, 3), (53, .iconst 2, 1), (54, .if_icmp .eq 13, 3), (57, .aload_n 1, 1), (58, .getfield 48, 3), (61, .iconst 4, 1), (62, .if_icmp .eq 5, 3), (65, .iload_n 2, 1), (66, .ireturn, 1), (67, .aload_n 1, 1), (68, .getfield 42, 3), (71, .ifCond .ne 9, 3), (74, .iload_n 2, 1), (75, .iconst 2, 1), (76, .idiv, 1), (77, .goto 4, 3), (80, .iload_n 2, 1), (81, .istore_n 3, 1), (82, .aload_n 1, 1), (83, .getfield 48, 3), (86, .iconst 4, 1), (87, .if_icmp .ne 12, 3), (90, .iload_n 3, 1), (91, .aload_n 1, 1), (92, .getfield 51, 3), (95, .isub, 1), (96, .goto 4, 3), (99, .iload_n 3, 1), (100, .ireturn, 1)]
set_option maxRecDepth 20000 in
theorem dtX1_feelsOf : ∀ x ∈ tbX1_feelsOf, decode cX1_feelsOf x.1 = .ok x.2 := by decide +kernel
noncomputable def j1_feelsOf_81  (x1 : Nat) (s0 : Int32) (w : Wd) : Option (Int32 × Wd) :=
  ck (tg w x1 = 0) (if (wi w x1 0) = (4 : Int32) then (some ((s0 - (wi w x1 1)), w)) else (some (s0, w)))
theorem wpj1_feelsOf_81 (X : CX) (w0 : Wd)  (x1 : Nat) (s0 : Int32) (w : Wd) : WPe rtI X (mX1_feelsOf, 3, 0, 0, w0) 0 0 (j1_feelsOf_81  x1 s0 w) 81 [(1, vR x1)] [vI s0] w := by
  unfold j1_feelsOf_81
  refine WPe_istore_n (pc := 81) (ls' := [(3, vI s0), (1, vR x1)]) (dd dtX1_feelsOf 46 rfl) (Nat.le_of_ble_eq_true rfl) rfl ?_
  refine WPe_aload_n (pc := 82) 1 (dd dtX1_feelsOf 47 rfl) rfl ?_
  refine WPe_ck fun h13 => ?_
  refine WPe_getI (pc := 83) (t := 0) (C := RX0) (T := TX0) 0 (dd dtX1_feelsOf 48 rfl) (shE h13) rfl (Nat.le_of_ble_eq_true rfl) rfl (bw_mem2 40 rfl rfl) ?_
  refine WPe_iconst (pc := 86) (4 : Int32) (dd dtX1_feelsOf 49 rfl) (by decide) ?_
  refine WPe_icmp_ne (pc := 87) 99 (dd dtX1_feelsOf 50 rfl) (by decide) (fun h14 => ?_) (fun h14 => ?_)
  · refine WPe_iload_n (pc := 90) 0 (dd dtX1_feelsOf 51 rfl) rfl ?_
    refine WPe_aload_n (pc := 91) 1 (dd dtX1_feelsOf 52 rfl) rfl ?_
    refine WPe_getI (pc := 92) (t := 0) (C := RX0) (T := TX0) 1 (dd dtX1_feelsOf 53 rfl) (shE h13) rfl (Nat.le_of_ble_eq_true rfl) rfl (bw_mem2 44 rfl rfl) ?_
    refine WPe_isub (pc := 95) (dd dtX1_feelsOf 54 rfl) ?_
    refine WPe_goto (pc := 96) 100 (dd dtX1_feelsOf 55 rfl) (by decide) ?_
    exact WPe_ireturn (pc := 100) (dd dtX1_feelsOf 57 rfl) rfl rfl ⟨(Nat.le_of_ble_eq_true rfl), (Nat.le_of_ble_eq_true rfl)⟩
  · refine WPe_iload_n (pc := 99) 0 (dd dtX1_feelsOf 56 rfl) rfl ?_
    exact WPe_ireturn (pc := 100) (dd dtX1_feelsOf 57 rfl) rfl rfl ⟨(Nat.le_of_ble_eq_true rfl), (Nat.le_of_ble_eq_true rfl)⟩
noncomputable def j1_feelsOf_67  (x1 : Nat) (x2 : Int32) (w : Wd) : Option (Int32 × Wd) :=
  ck (tg w x1 = 0) (if (wi w x1 2) = (0 : Int32) then (j1_feelsOf_81 x1 (x2 / (2 : Int32)) w) else (j1_feelsOf_81 x1 x2 w))
theorem wpj1_feelsOf_67 (X : CX) (w0 : Wd)  (x1 : Nat) (x2 : Int32) (w : Wd) : WPe rtI X (mX1_feelsOf, 3, 0, 0, w0) 0 0 (j1_feelsOf_67  x1 x2 w) 67 [(1, vR x1), (2, vI x2)] [] w := by
  unfold j1_feelsOf_67
  refine WPe_aload_n (pc := 67) 0 (dd dtX1_feelsOf 38 rfl) rfl ?_
  refine WPe_ck fun h11 => ?_
  refine WPe_getI (pc := 68) (t := 0) (C := RX0) (T := TX0) 2 (dd dtX1_feelsOf 39 rfl) (shE h11) rfl (Nat.le_of_ble_eq_true rfl) rfl (bw_mem2 48 rfl rfl) ?_
  refine WPe_if_ne (pc := 71) 80 (dd dtX1_feelsOf 40 rfl) (by decide) (fun h12 => ?_) (fun h12 => ?_)
  · refine WPe_iload_n (pc := 74) 1 (dd dtX1_feelsOf 41 rfl) rfl ?_
    refine WPe_iconst (pc := 75) (2 : Int32) (dd dtX1_feelsOf 42 rfl) (by decide) ?_
    refine WPe_idiv (pc := 76) (dd dtX1_feelsOf 43 rfl) (by decide) ?_
    refine WPe_goto (pc := 77) 81 (dd dtX1_feelsOf 44 rfl) (by decide) ?_
    refine WPe_sub [0] rfl ?_
    exact wpj1_feelsOf_81 X w0  x1 (x2 / (2 : Int32)) w
  · refine WPe_iload_n (pc := 80) 1 (dd dtX1_feelsOf 45 rfl) rfl ?_
    refine WPe_sub [0] rfl ?_
    exact wpj1_feelsOf_81 X w0  x1 x2 w
noncomputable def f1_feelsOf (x0 : Nat) (x1 : Nat) (w : Wd) : Option (Int32 × Wd) :=
  ck (tg w x1 = 0) (if (wi w x1 0) = (5 : Int32) then (some ((wi w x1 1), w)) else (ck (tg w x0 = 1) (ck (tg w (wr w x0 5) = 4) ((f4_says (wr w x0 5) (0 : Int32) x0 x1 w).bind fun z5 => (if (wi z5.2 x1 0) = (3 : Int32) then (if (wi z5.2 x0 2) ≤ (9 : Int32) then (some (z5.1, z5.2)) else (some (((2 : Int32) * z5.1), z5.2))) else (if (wi z5.2 x1 0) = (2 : Int32) then (j1_feelsOf_67 x1 z5.1 z5.2) else (if (wi z5.2 x1 0) = (4 : Int32) then (j1_feelsOf_67 x1 z5.1 z5.2) else (some (z5.1, z5.2)))))))))
theorem wpf1_feelsOf (X : CX) (w0 : Wd) (x0 : Nat) (x1 : Nat) (w : Wd) : WPe rtI X (mX1_feelsOf, 3, 0, 0, w0) 0 0 (f1_feelsOf x0 x1 w) 0 [(0, vR x0), (1, vR x1)] [] w := by
  unfold f1_feelsOf
  refine WPe_aload_n (pc := 0) 1 (dd dtX1_feelsOf 0 rfl) rfl ?_
  refine WPe_ck fun h1 => ?_
  refine WPe_getI (pc := 1) (t := 0) (C := RX0) (T := TX0) 0 (dd dtX1_feelsOf 1 rfl) (shE h1) rfl (Nat.le_of_ble_eq_true rfl) rfl (bw_mem2 40 rfl rfl) ?_
  refine WPe_iconst (pc := 4) (5 : Int32) (dd dtX1_feelsOf 2 rfl) (by decide) ?_
  refine WPe_icmp_ne (pc := 5) 13 (dd dtX1_feelsOf 3 rfl) (by decide) (fun h2 => ?_) (fun h2 => ?_)
  · refine WPe_aload_n (pc := 8) 1 (dd dtX1_feelsOf 4 rfl) rfl ?_
    refine WPe_getI (pc := 9) (t := 0) (C := RX0) (T := TX0) 1 (dd dtX1_feelsOf 5 rfl) (shE h1) rfl (Nat.le_of_ble_eq_true rfl) rfl (bw_mem2 44 rfl rfl) ?_
    exact WPe_ireturn (pc := 12) (dd dtX1_feelsOf 6 rfl) rfl rfl ⟨(Nat.le_of_ble_eq_true rfl), (Nat.le_of_ble_eq_true rfl)⟩
  · refine WPe_aload_n (pc := 13) 0 (dd dtX1_feelsOf 7 rfl) rfl ?_
    refine WPe_ck fun h3 => ?_
    refine WPe_getR (pc := 14) (t := 1) (C := RX1) (T := TX1) 5 (dd dtX1_feelsOf 8 rfl) (shE h3) rfl (Nat.le_of_ble_eq_true rfl) rfl (bw_mem2 81 rfl rfl) ?_
    refine WPe_iconst (pc := 17) (0 : Int32) (dd dtX1_feelsOf 9 rfl) (by decide) ?_
    refine WPe_aload_n (pc := 18) 0 (dd dtX1_feelsOf 10 rfl) rfl ?_
    refine WPe_aload_n (pc := 19) 1 (dd dtX1_feelsOf 11 rfl) rfl ?_
    refine WPe_ck fun h4 => ?_
    refine WPe_callV (pc := 20) (rtc := rtI) (Mc := mX4_says) (d' := 2) (mc' := 0) (ms' := 0) [vI (0 : Int32), vR x0, vR x1] [] rfl (dd dtX1_feelsOf 12 rfl) (okf4_says (wr w x0 5) (0 : Int32) x0 x1 w) moX4_says miX4_says (bw_mem2 235 rfl rfl) (Or.inl ⟨_, _, _, _, (shE h4), rfl⟩) rfl (Nat.le_of_ble_eq_true rfl) ⟨(Nat.le_of_ble_eq_true rfl), (Nat.le_of_ble_eq_true rfl)⟩ ⟨(Nat.le_of_ble_eq_true rfl), (Nat.le_of_ble_eq_true rfl)⟩ (fun z5 h6 e7 => ?_)
    refine WPe_st (st2 := [vI z5.1]) rfl ?_
    refine WPe_istore_n (pc := 23) (ls' := [(2, vI z5.1), (0, vR x0), (1, vR x1)]) (dd dtX1_feelsOf 13 rfl) (Nat.le_of_ble_eq_true rfl) rfl ?_
    refine WPe_aload_n (pc := 24) 2 (dd dtX1_feelsOf 14 rfl) rfl ?_
    refine WPe_getI (pc := 25) (t := 0) (C := RX0) (T := TX0) 0 (dd dtX1_feelsOf 15 rfl) (e7.at (shE h1) (by decide)) rfl (Nat.le_of_ble_eq_true rfl) rfl (bw_mem2 40 rfl rfl) ?_
    refine WPe_iconst (pc := 28) (3 : Int32) (dd dtX1_feelsOf 16 rfl) (by decide) ?_
    refine WPe_icmp_ne (pc := 29) 49 (dd dtX1_feelsOf 17 rfl) (by decide) (fun h8 => ?_) (fun h8 => ?_)
    · refine WPe_aload_n (pc := 32) 1 (dd dtX1_feelsOf 18 rfl) rfl ?_
      refine WPe_getI (pc := 33) (t := 1) (C := RX1) (T := TX1) 2 (dd dtX1_feelsOf 19 rfl) (e7.at (shE h3) (by decide)) rfl (Nat.le_of_ble_eq_true rfl) rfl (bw_mem2 74 rfl rfl) ?_
      refine WPe_bipush (pc := 36) (9 : Int32) (dd dtX1_feelsOf 20 rfl) (by decide) ?_
      refine WPe_icmp_le (pc := 38) 47 (dd dtX1_feelsOf 21 rfl) (by decide) (fun h9 => ?_) (fun h9 => ?_)
      · refine WPe_iload_n (pc := 47) 0 (dd dtX1_feelsOf 26 rfl) rfl ?_
        exact WPe_ireturn (pc := 48) (dd dtX1_feelsOf 27 rfl) rfl rfl ⟨(Nat.le_of_ble_eq_true rfl), (Nat.le_of_ble_eq_true rfl)⟩
      · refine WPe_iconst (pc := 41) (2 : Int32) (dd dtX1_feelsOf 22 rfl) (by decide) ?_
        refine WPe_iload_n (pc := 42) 0 (dd dtX1_feelsOf 23 rfl) rfl ?_
        refine WPe_imul (pc := 43) (dd dtX1_feelsOf 24 rfl) ?_
        refine WPe_goto (pc := 44) 48 (dd dtX1_feelsOf 25 rfl) (by decide) ?_
        exact WPe_ireturn (pc := 48) (dd dtX1_feelsOf 27 rfl) rfl rfl ⟨(Nat.le_of_ble_eq_true rfl), (Nat.le_of_ble_eq_true rfl)⟩
    · refine WPe_aload_n (pc := 49) 2 (dd dtX1_feelsOf 28 rfl) rfl ?_
      refine WPe_getI (pc := 50) (t := 0) (C := RX0) (T := TX0) 0 (dd dtX1_feelsOf 29 rfl) (e7.at (shE h1) (by decide)) rfl (Nat.le_of_ble_eq_true rfl) rfl (bw_mem2 40 rfl rfl) ?_
      refine WPe_iconst (pc := 53) (2 : Int32) (dd dtX1_feelsOf 30 rfl) (by decide) ?_
      refine WPe_icmp_eq (pc := 54) 67 (dd dtX1_feelsOf 31 rfl) (by decide) (fun h10 => ?_) (fun h10 => ?_)
      · refine WPe_sub [2, 0] rfl ?_
        exact wpj1_feelsOf_67 X w0  x1 z5.1 z5.2
      · refine WPe_aload_n (pc := 57) 2 (dd dtX1_feelsOf 32 rfl) rfl ?_
        refine WPe_getI (pc := 58) (t := 0) (C := RX0) (T := TX0) 0 (dd dtX1_feelsOf 33 rfl) (e7.at (shE h1) (by decide)) rfl (Nat.le_of_ble_eq_true rfl) rfl (bw_mem2 40 rfl rfl) ?_
        refine WPe_iconst (pc := 61) (4 : Int32) (dd dtX1_feelsOf 34 rfl) (by decide) ?_
        refine WPe_icmp_eq (pc := 62) 67 (dd dtX1_feelsOf 35 rfl) (by decide) (fun h15 => ?_) (fun h15 => ?_)
        · refine WPe_sub [2, 0] rfl ?_
          exact wpj1_feelsOf_67 X w0  x1 z5.1 z5.2
        · refine WPe_iload_n (pc := 65) 0 (dd dtX1_feelsOf 36 rfl) rfl ?_
          exact WPe_ireturn (pc := 66) (dd dtX1_feelsOf 37 rfl) rfl rfl ⟨(Nat.le_of_ble_eq_true rfl), (Nat.le_of_ble_eq_true rfl)⟩
theorem okf1_feelsOf (x0 : Nat) (x1 : Nat) (w : Wd) : ∀ z, f1_feelsOf x0 x1 w = some z → OkM mX1_feelsOf 3 0 0 [vR x0, vR x1] w (rtI z.1) z.2 :=
  OkM.of (rt := rtI) moX1_feelsOf (Nat.le_of_ble_eq_true rfl) (fun X => wpf1_feelsOf X w x0 x1 w)
def tbX1_bearsOf : List (Nat × Instr × Nat) := [(0, .aload_n 0, 1), (1, .getfield 24, 3), (4, .iconst 1, 1), (5, .aload_n 0, 1), (6, .aload_n 1, 1), (7, .invokevirtual 54, 3), (10, .istore_n 2, 1), (11, .aload_n 1, 1), (12, .getfield 48, 3), (15, .tableswitch 43 1 4 #[29, 39, 29, 39], 29), (44, .iload_n 2, 1), (45, .bipush 10, 2), (47, .aload_n 1, 1), (48, .getfield 51, 3), (51, .imul, 1), (52, .iadd, 1), (53, .ireturn, 1), (54, .iload_n 2, 1), (55, .iconst 2, 1), (56, .idiv, 1), (57, .ireturn, 1), (58, .iload_n 2, 1), (59, .ireturn, 1)]
set_option maxRecDepth 20000 in
theorem dtX1_bearsOf : ∀ x ∈ tbX1_bearsOf, decode cX1_bearsOf x.1 = .ok x.2 := by decide +kernel
noncomputable def f1_bearsOf (x0 : Nat) (x1 : Nat) (w : Wd) : Option (Int32 × Wd) :=
  ck (tg w x0 = 1) (ck (tg w (wr w x0 5) = 4) ((f4_says (wr w x0 5) (1 : Int32) x0 x1 w).bind fun z3 => (ck (tg z3.2 x1 = 0) (if (wi z3.2 x1 0) = (1 : Int32) then (some ((z3.1 + ((10 : Int32) * (wi z3.2 x1 1))), z3.2)) else (if (wi z3.2 x1 0) = (2 : Int32) then (some ((z3.1 / (2 : Int32)), z3.2)) else (if (wi z3.2 x1 0) = (3 : Int32) then (some ((z3.1 + ((10 : Int32) * (wi z3.2 x1 1))), z3.2)) else (if (wi z3.2 x1 0) = (4 : Int32) then (some ((z3.1 / (2 : Int32)), z3.2)) else (some (z3.1, z3.2)))))))))
theorem wpf1_bearsOf (X : CX) (w0 : Wd) (x0 : Nat) (x1 : Nat) (w : Wd) : WPe rtI X (mX1_bearsOf, 3, 0, 0, w0) 0 0 (f1_bearsOf x0 x1 w) 0 [(0, vR x0), (1, vR x1)] [] w := by
  unfold f1_bearsOf
  refine WPe_aload_n (pc := 0) 0 (dd dtX1_bearsOf 0 rfl) rfl ?_
  refine WPe_ck fun h1 => ?_
  refine WPe_getR (pc := 1) (t := 1) (C := RX1) (T := TX1) 5 (dd dtX1_bearsOf 1 rfl) (shE h1) rfl (Nat.le_of_ble_eq_true rfl) rfl (bw_mem2 81 rfl rfl) ?_
  refine WPe_iconst (pc := 4) (1 : Int32) (dd dtX1_bearsOf 2 rfl) (by decide) ?_
  refine WPe_aload_n (pc := 5) 0 (dd dtX1_bearsOf 3 rfl) rfl ?_
  refine WPe_aload_n (pc := 6) 1 (dd dtX1_bearsOf 4 rfl) rfl ?_
  refine WPe_ck fun h2 => ?_
  refine WPe_callV (pc := 7) (rtc := rtI) (Mc := mX4_says) (d' := 2) (mc' := 0) (ms' := 0) [vI (1 : Int32), vR x0, vR x1] [] rfl (dd dtX1_bearsOf 5 rfl) (okf4_says (wr w x0 5) (1 : Int32) x0 x1 w) moX4_says miX4_says (bw_mem2 235 rfl rfl) (Or.inl ⟨_, _, _, _, (shE h2), rfl⟩) rfl (Nat.le_of_ble_eq_true rfl) ⟨(Nat.le_of_ble_eq_true rfl), (Nat.le_of_ble_eq_true rfl)⟩ ⟨(Nat.le_of_ble_eq_true rfl), (Nat.le_of_ble_eq_true rfl)⟩ (fun z3 h4 e5 => ?_)
  refine WPe_st (st2 := [vI z3.1]) rfl ?_
  refine WPe_istore_n (pc := 10) (ls' := [(2, vI z3.1), (0, vR x0), (1, vR x1)]) (dd dtX1_bearsOf 6 rfl) (Nat.le_of_ble_eq_true rfl) rfl ?_
  refine WPe_aload_n (pc := 11) 2 (dd dtX1_bearsOf 7 rfl) rfl ?_
  refine WPe_ck fun h6 => ?_
  refine WPe_getI (pc := 12) (t := 0) (C := RX0) (T := TX0) 0 (dd dtX1_bearsOf 8 rfl) (shE h6) rfl (Nat.le_of_ble_eq_true rfl) rfl (bw_mem2 40 rfl rfl) ?_
  refine WPe_ite (fun h7 => ?_) (fun h7 => ?_)
  · refine WPe_tabIn (pc := 15) (1 : Int32) 44 (dd dtX1_bearsOf 9 rfl) h7 (by decide) (by decide) rfl (by decide) ?_
    refine WPe_iload_n (pc := 44) 0 (dd dtX1_bearsOf 10 rfl) rfl ?_
    refine WPe_bipush (pc := 45) (10 : Int32) (dd dtX1_bearsOf 11 rfl) (by decide) ?_
    refine WPe_aload_n (pc := 47) 2 (dd dtX1_bearsOf 12 rfl) rfl ?_
    refine WPe_getI (pc := 48) (t := 0) (C := RX0) (T := TX0) 1 (dd dtX1_bearsOf 13 rfl) (shE h6) rfl (Nat.le_of_ble_eq_true rfl) rfl (bw_mem2 44 rfl rfl) ?_
    refine WPe_imul (pc := 51) (dd dtX1_bearsOf 14 rfl) ?_
    refine WPe_iadd (pc := 52) (dd dtX1_bearsOf 15 rfl) ?_
    exact WPe_ireturn (pc := 53) (dd dtX1_bearsOf 16 rfl) rfl rfl ⟨(Nat.le_of_ble_eq_true rfl), (Nat.le_of_ble_eq_true rfl)⟩
  · refine WPe_ite (fun h8 => ?_) (fun h8 => ?_)
    · refine WPe_tabIn (pc := 15) (2 : Int32) 54 (dd dtX1_bearsOf 9 rfl) h8 (by decide) (by decide) rfl (by decide) ?_
      refine WPe_iload_n (pc := 54) 0 (dd dtX1_bearsOf 17 rfl) rfl ?_
      refine WPe_iconst (pc := 55) (2 : Int32) (dd dtX1_bearsOf 18 rfl) (by decide) ?_
      refine WPe_idiv (pc := 56) (dd dtX1_bearsOf 19 rfl) (by decide) ?_
      exact WPe_ireturn (pc := 57) (dd dtX1_bearsOf 20 rfl) rfl rfl ⟨(Nat.le_of_ble_eq_true rfl), (Nat.le_of_ble_eq_true rfl)⟩
    · refine WPe_ite (fun h9 => ?_) (fun h9 => ?_)
      · refine WPe_tabIn (pc := 15) (3 : Int32) 44 (dd dtX1_bearsOf 9 rfl) h9 (by decide) (by decide) rfl (by decide) ?_
        refine WPe_iload_n (pc := 44) 0 (dd dtX1_bearsOf 10 rfl) rfl ?_
        refine WPe_bipush (pc := 45) (10 : Int32) (dd dtX1_bearsOf 11 rfl) (by decide) ?_
        refine WPe_aload_n (pc := 47) 2 (dd dtX1_bearsOf 12 rfl) rfl ?_
        refine WPe_getI (pc := 48) (t := 0) (C := RX0) (T := TX0) 1 (dd dtX1_bearsOf 13 rfl) (shE h6) rfl (Nat.le_of_ble_eq_true rfl) rfl (bw_mem2 44 rfl rfl) ?_
        refine WPe_imul (pc := 51) (dd dtX1_bearsOf 14 rfl) ?_
        refine WPe_iadd (pc := 52) (dd dtX1_bearsOf 15 rfl) ?_
        exact WPe_ireturn (pc := 53) (dd dtX1_bearsOf 16 rfl) rfl rfl ⟨(Nat.le_of_ble_eq_true rfl), (Nat.le_of_ble_eq_true rfl)⟩
      · refine WPe_ite (fun h10 => ?_) (fun h10 => ?_)
        · refine WPe_tabIn (pc := 15) (4 : Int32) 54 (dd dtX1_bearsOf 9 rfl) h10 (by decide) (by decide) rfl (by decide) ?_
          refine WPe_iload_n (pc := 54) 0 (dd dtX1_bearsOf 17 rfl) rfl ?_
          refine WPe_iconst (pc := 55) (2 : Int32) (dd dtX1_bearsOf 18 rfl) (by decide) ?_
          refine WPe_idiv (pc := 56) (dd dtX1_bearsOf 19 rfl) (by decide) ?_
          exact WPe_ireturn (pc := 57) (dd dtX1_bearsOf 20 rfl) rfl rfl ⟨(Nat.le_of_ble_eq_true rfl), (Nat.le_of_ble_eq_true rfl)⟩
        · refine WPe_tabOut (pc := 15) 58 (dd dtX1_bearsOf 9 rfl) (fun j hj => ?_) (by decide) ?_
          · match j, hj with
            | 0, _ => exact Or.inr (tneq h7 (by decide))
            | 1, _ => exact Or.inr (tneq h8 (by decide))
            | 2, _ => exact Or.inr (tneq h9 (by decide))
            | 3, _ => exact Or.inr (tneq h10 (by decide))
            | j + 4, h => exact absurd h (by omega)
          refine WPe_iload_n (pc := 58) 0 (dd dtX1_bearsOf 21 rfl) rfl ?_
          exact WPe_ireturn (pc := 59) (dd dtX1_bearsOf 22 rfl) rfl rfl ⟨(Nat.le_of_ble_eq_true rfl), (Nat.le_of_ble_eq_true rfl)⟩
theorem okf1_bearsOf (x0 : Nat) (x1 : Nat) (w : Wd) : ∀ z, f1_bearsOf x0 x1 w = some z → OkM mX1_bearsOf 3 0 0 [vR x0, vR x1] w (rtI z.1) z.2 :=
  OkM.of (rt := rtI) moX1_bearsOf (Nat.le_of_ble_eq_true rfl) (fun X => wpf1_bearsOf X w x0 x1 w)
def tbX1_gladOf : List (Nat × Instr × Nat) := [(0, .aload_n 1, 1), (1, .getfield 48, 3), (4, .iconst 5, 1), (5, .if_icmp .ne 16, 3), (8, .aload_n 0, 1), (9, .getfield 9, 3), (12, .sipush 300, 3), (15, .if_icmp .le 6, 3), (18, .bipush 99, 2), (20, .ireturn, 1), (21, .aload_n 0, 1), (22, .getfield 24, 3), (25, .iconst 2, 1), (26, .aload_n 0, 1), (27, .aload_n 1, 1), (28, .invokevirtual 54, 3), (31, .istore_n 2, 1), (32, .aload_n 1, 1), (33, .getfield 48, 3), (36, .iconst 4, 1), (37, .if_icmp .ne 10, 3), (40, .iload_n 2, 1), (41, .aload_n 0, 1), (42, .invokevirtual 60, 3), (45, .iadd, 1), (46, .ireturn, 1), (47, .aload_n 1, 1), (48, .getfield 48, 3), (51, .iconst 1, 1), (52, .if_icmp .eq 13, 3), (55, .aload_n 1, 1), (56, .getfield 48, 3), (59, .iconst 3, 1), (60, .if_icmp .eq 5, 3), (63, .iload_n 2, 1), (64, .ireturn, 1), (65, .aload_n 1, 1), (66, .getfield 42, 3), (69, .iconst 2, 1), (70, .if_icmp .ne 12, 3), (73, .iload_n 2, 1), (74, .aload_n 1, 1), (75, .getfield 51, 3), (78, .iadd, 1), (79, .goto 4, 3), (82, .iload_n 2, 1), (83, .istore_n 3, 1), (84, .aload_n 1, 1), (85, .getfield 48, 3), (88, .iconst 3, 1), (89, .if_icmp .ne 9, 3), (92, .iload_n 3, 1), (93, .iconst 2, 1), (94, .idiv, 1), (95, .goto 4, 3), (98, .iload_n 3, 1), (99, .ireturn, 1)]
set_option maxRecDepth 20000 in
theorem dtX1_gladOf : ∀ x ∈ tbX1_gladOf, decode cX1_gladOf x.1 = .ok x.2 := by decide +kernel
noncomputable def j1_gladOf_83  (x1 : Nat) (s0 : Int32) (w : Wd) : Option (Int32 × Wd) :=
  ck (tg w x1 = 0) (if (wi w x1 0) = (3 : Int32) then (some ((s0 / (2 : Int32)), w)) else (some (s0, w)))
theorem wpj1_gladOf_83 (X : CX) (w0 : Wd)  (x1 : Nat) (s0 : Int32) (w : Wd) : WPe rtI X (mX1_gladOf, 3, 0, 0, w0) 0 0 (j1_gladOf_83  x1 s0 w) 83 [(1, vR x1)] [vI s0] w := by
  unfold j1_gladOf_83
  refine WPe_istore_n (pc := 83) (ls' := [(3, vI s0), (1, vR x1)]) (dd dtX1_gladOf 46 rfl) (Nat.le_of_ble_eq_true rfl) rfl ?_
  refine WPe_aload_n (pc := 84) 1 (dd dtX1_gladOf 47 rfl) rfl ?_
  refine WPe_ck fun h18 => ?_
  refine WPe_getI (pc := 85) (t := 0) (C := RX0) (T := TX0) 0 (dd dtX1_gladOf 48 rfl) (shE h18) rfl (Nat.le_of_ble_eq_true rfl) rfl (bw_mem2 40 rfl rfl) ?_
  refine WPe_iconst (pc := 88) (3 : Int32) (dd dtX1_gladOf 49 rfl) (by decide) ?_
  refine WPe_icmp_ne (pc := 89) 98 (dd dtX1_gladOf 50 rfl) (by decide) (fun h19 => ?_) (fun h19 => ?_)
  · refine WPe_iload_n (pc := 92) 0 (dd dtX1_gladOf 51 rfl) rfl ?_
    refine WPe_iconst (pc := 93) (2 : Int32) (dd dtX1_gladOf 52 rfl) (by decide) ?_
    refine WPe_idiv (pc := 94) (dd dtX1_gladOf 53 rfl) (by decide) ?_
    refine WPe_goto (pc := 95) 99 (dd dtX1_gladOf 54 rfl) (by decide) ?_
    exact WPe_ireturn (pc := 99) (dd dtX1_gladOf 56 rfl) rfl rfl ⟨(Nat.le_of_ble_eq_true rfl), (Nat.le_of_ble_eq_true rfl)⟩
  · refine WPe_iload_n (pc := 98) 0 (dd dtX1_gladOf 55 rfl) rfl ?_
    exact WPe_ireturn (pc := 99) (dd dtX1_gladOf 56 rfl) rfl rfl ⟨(Nat.le_of_ble_eq_true rfl), (Nat.le_of_ble_eq_true rfl)⟩
noncomputable def j1_gladOf_65  (x1 : Nat) (x2 : Int32) (w : Wd) : Option (Int32 × Wd) :=
  ck (tg w x1 = 0) (if (wi w x1 2) = (2 : Int32) then (j1_gladOf_83 x1 (x2 + (wi w x1 1)) w) else (j1_gladOf_83 x1 x2 w))
theorem wpj1_gladOf_65 (X : CX) (w0 : Wd)  (x1 : Nat) (x2 : Int32) (w : Wd) : WPe rtI X (mX1_gladOf, 3, 0, 0, w0) 0 0 (j1_gladOf_65  x1 x2 w) 65 [(1, vR x1), (2, vI x2)] [] w := by
  unfold j1_gladOf_65
  refine WPe_aload_n (pc := 65) 0 (dd dtX1_gladOf 36 rfl) rfl ?_
  refine WPe_ck fun h16 => ?_
  refine WPe_getI (pc := 66) (t := 0) (C := RX0) (T := TX0) 2 (dd dtX1_gladOf 37 rfl) (shE h16) rfl (Nat.le_of_ble_eq_true rfl) rfl (bw_mem2 48 rfl rfl) ?_
  refine WPe_iconst (pc := 69) (2 : Int32) (dd dtX1_gladOf 38 rfl) (by decide) ?_
  refine WPe_icmp_ne (pc := 70) 82 (dd dtX1_gladOf 39 rfl) (by decide) (fun h17 => ?_) (fun h17 => ?_)
  · refine WPe_iload_n (pc := 73) 1 (dd dtX1_gladOf 40 rfl) rfl ?_
    refine WPe_aload_n (pc := 74) 0 (dd dtX1_gladOf 41 rfl) rfl ?_
    refine WPe_getI (pc := 75) (t := 0) (C := RX0) (T := TX0) 1 (dd dtX1_gladOf 42 rfl) (shE h16) rfl (Nat.le_of_ble_eq_true rfl) rfl (bw_mem2 44 rfl rfl) ?_
    refine WPe_iadd (pc := 78) (dd dtX1_gladOf 43 rfl) ?_
    refine WPe_goto (pc := 79) 83 (dd dtX1_gladOf 44 rfl) (by decide) ?_
    refine WPe_sub [0] rfl ?_
    exact wpj1_gladOf_83 X w0  x1 (x2 + (wi w x1 1)) w
  · refine WPe_iload_n (pc := 82) 1 (dd dtX1_gladOf 45 rfl) rfl ?_
    refine WPe_sub [0] rfl ?_
    exact wpj1_gladOf_83 X w0  x1 x2 w
noncomputable def j1_gladOf_21  (x0 : Nat) (x1 : Nat) (w : Wd) : Option (Int32 × Wd) :=
  ck (tg w x0 = 1) (ck (tg w (wr w x0 5) = 4) ((f4_says (wr w x0 5) (2 : Int32) x0 x1 w).bind fun z7 => (ck (tg z7.2 x1 = 0) (if (wi z7.2 x1 0) = (4 : Int32) then ((f1_bathersIn x0 z7.2).bind fun z12 => (some ((z7.1 + z12.1), z12.2))) else (if (wi z7.2 x1 0) = (1 : Int32) then (j1_gladOf_65 x1 z7.1 z7.2) else (if (wi z7.2 x1 0) = (3 : Int32) then (j1_gladOf_65 x1 z7.1 z7.2) else (some (z7.1, z7.2))))))))
theorem wpj1_gladOf_21 (X : CX) (w0 : Wd)  (x0 : Nat) (x1 : Nat) (w : Wd) : WPe rtI X (mX1_gladOf, 3, 0, 0, w0) 0 0 (j1_gladOf_21  x0 x1 w) 21 [(0, vR x0), (1, vR x1)] [] w := by
  unfold j1_gladOf_21
  refine WPe_aload_n (pc := 21) 0 (dd dtX1_gladOf 10 rfl) rfl ?_
  refine WPe_ck fun h5 => ?_
  refine WPe_getR (pc := 22) (t := 1) (C := RX1) (T := TX1) 5 (dd dtX1_gladOf 11 rfl) (shE h5) rfl (Nat.le_of_ble_eq_true rfl) rfl (bw_mem2 81 rfl rfl) ?_
  refine WPe_iconst (pc := 25) (2 : Int32) (dd dtX1_gladOf 12 rfl) (by decide) ?_
  refine WPe_aload_n (pc := 26) 0 (dd dtX1_gladOf 13 rfl) rfl ?_
  refine WPe_aload_n (pc := 27) 1 (dd dtX1_gladOf 14 rfl) rfl ?_
  refine WPe_ck fun h6 => ?_
  refine WPe_callV (pc := 28) (rtc := rtI) (Mc := mX4_says) (d' := 2) (mc' := 0) (ms' := 0) [vI (2 : Int32), vR x0, vR x1] [] rfl (dd dtX1_gladOf 15 rfl) (okf4_says (wr w x0 5) (2 : Int32) x0 x1 w) moX4_says miX4_says (bw_mem2 235 rfl rfl) (Or.inl ⟨_, _, _, _, (shE h6), rfl⟩) rfl (Nat.le_of_ble_eq_true rfl) ⟨(Nat.le_of_ble_eq_true rfl), (Nat.le_of_ble_eq_true rfl)⟩ ⟨(Nat.le_of_ble_eq_true rfl), (Nat.le_of_ble_eq_true rfl)⟩ (fun z7 h8 e9 => ?_)
  refine WPe_st (st2 := [vI z7.1]) rfl ?_
  refine WPe_istore_n (pc := 31) (ls' := [(2, vI z7.1), (0, vR x0), (1, vR x1)]) (dd dtX1_gladOf 16 rfl) (Nat.le_of_ble_eq_true rfl) rfl ?_
  refine WPe_aload_n (pc := 32) 2 (dd dtX1_gladOf 17 rfl) rfl ?_
  refine WPe_ck fun h10 => ?_
  refine WPe_getI (pc := 33) (t := 0) (C := RX0) (T := TX0) 0 (dd dtX1_gladOf 18 rfl) (shE h10) rfl (Nat.le_of_ble_eq_true rfl) rfl (bw_mem2 40 rfl rfl) ?_
  refine WPe_iconst (pc := 36) (4 : Int32) (dd dtX1_gladOf 19 rfl) (by decide) ?_
  refine WPe_icmp_ne (pc := 37) 47 (dd dtX1_gladOf 20 rfl) (by decide) (fun h11 => ?_) (fun h11 => ?_)
  · refine WPe_iload_n (pc := 40) 0 (dd dtX1_gladOf 21 rfl) rfl ?_
    refine WPe_aload_n (pc := 41) 1 (dd dtX1_gladOf 22 rfl) rfl ?_
    refine WPe_callV (pc := 42) (rtc := rtI) (Mc := mX1_bathersIn) (d' := 1) (mc' := 0) (ms' := 0) [] [vI z7.1] rfl (dd dtX1_gladOf 23 rfl) (okf1_bathersIn x0 z7.2) moX1_bathersIn miX1_bathersIn (bw_mem3 4 rfl rfl) (Or.inl ⟨_, _, _, _, (e9.at (shE h5) (by decide)), rfl⟩) rfl (Nat.le_of_ble_eq_true rfl) ⟨(Nat.le_of_ble_eq_true rfl), (Nat.le_of_ble_eq_true rfl)⟩ ⟨(Nat.le_of_ble_eq_true rfl), (Nat.le_of_ble_eq_true rfl)⟩ (fun z12 h13 e14 => ?_)
    refine WPe_st (st2 := [vI z12.1, vI z7.1]) rfl ?_
    refine WPe_iadd (pc := 45) (dd dtX1_gladOf 24 rfl) ?_
    exact WPe_ireturn (pc := 46) (dd dtX1_gladOf 25 rfl) rfl rfl ⟨(Nat.le_of_ble_eq_true rfl), (Nat.le_of_ble_eq_true rfl)⟩
  · refine WPe_aload_n (pc := 47) 2 (dd dtX1_gladOf 26 rfl) rfl ?_
    refine WPe_getI (pc := 48) (t := 0) (C := RX0) (T := TX0) 0 (dd dtX1_gladOf 27 rfl) (shE h10) rfl (Nat.le_of_ble_eq_true rfl) rfl (bw_mem2 40 rfl rfl) ?_
    refine WPe_iconst (pc := 51) (1 : Int32) (dd dtX1_gladOf 28 rfl) (by decide) ?_
    refine WPe_icmp_eq (pc := 52) 65 (dd dtX1_gladOf 29 rfl) (by decide) (fun h15 => ?_) (fun h15 => ?_)
    · refine WPe_sub [2, 0] rfl ?_
      exact wpj1_gladOf_65 X w0  x1 z7.1 z7.2
    · refine WPe_aload_n (pc := 55) 2 (dd dtX1_gladOf 30 rfl) rfl ?_
      refine WPe_getI (pc := 56) (t := 0) (C := RX0) (T := TX0) 0 (dd dtX1_gladOf 31 rfl) (shE h10) rfl (Nat.le_of_ble_eq_true rfl) rfl (bw_mem2 40 rfl rfl) ?_
      refine WPe_iconst (pc := 59) (3 : Int32) (dd dtX1_gladOf 32 rfl) (by decide) ?_
      refine WPe_icmp_eq (pc := 60) 65 (dd dtX1_gladOf 33 rfl) (by decide) (fun h20 => ?_) (fun h20 => ?_)
      · refine WPe_sub [2, 0] rfl ?_
        exact wpj1_gladOf_65 X w0  x1 z7.1 z7.2
      · refine WPe_iload_n (pc := 63) 0 (dd dtX1_gladOf 34 rfl) rfl ?_
        exact WPe_ireturn (pc := 64) (dd dtX1_gladOf 35 rfl) rfl rfl ⟨(Nat.le_of_ble_eq_true rfl), (Nat.le_of_ble_eq_true rfl)⟩
noncomputable def f1_gladOf (x0 : Nat) (x1 : Nat) (w : Wd) : Option (Int32 × Wd) :=
  ck (tg w x1 = 0) (if (wi w x1 0) = (5 : Int32) then (ck (tg w x0 = 1) (if (wi w x0 1) ≤ (300 : Int32) then (j1_gladOf_21 x0 x1 w) else (some ((99 : Int32), w)))) else (j1_gladOf_21 x0 x1 w))
theorem wpf1_gladOf (X : CX) (w0 : Wd) (x0 : Nat) (x1 : Nat) (w : Wd) : WPe rtI X (mX1_gladOf, 3, 0, 0, w0) 0 0 (f1_gladOf x0 x1 w) 0 [(0, vR x0), (1, vR x1)] [] w := by
  unfold f1_gladOf
  refine WPe_aload_n (pc := 0) 1 (dd dtX1_gladOf 0 rfl) rfl ?_
  refine WPe_ck fun h1 => ?_
  refine WPe_getI (pc := 1) (t := 0) (C := RX0) (T := TX0) 0 (dd dtX1_gladOf 1 rfl) (shE h1) rfl (Nat.le_of_ble_eq_true rfl) rfl (bw_mem2 40 rfl rfl) ?_
  refine WPe_iconst (pc := 4) (5 : Int32) (dd dtX1_gladOf 2 rfl) (by decide) ?_
  refine WPe_icmp_ne (pc := 5) 21 (dd dtX1_gladOf 3 rfl) (by decide) (fun h2 => ?_) (fun h2 => ?_)
  · refine WPe_aload_n (pc := 8) 0 (dd dtX1_gladOf 4 rfl) rfl ?_
    refine WPe_ck fun h3 => ?_
    refine WPe_getI (pc := 9) (t := 1) (C := RX1) (T := TX1) 1 (dd dtX1_gladOf 5 rfl) (shE h3) rfl (Nat.le_of_ble_eq_true rfl) rfl (bw_mem2 71 rfl rfl) ?_
    refine WPe_sipush (pc := 12) (300 : Int32) (dd dtX1_gladOf 6 rfl) (by decide) ?_
    refine WPe_icmp_le (pc := 15) 21 (dd dtX1_gladOf 7 rfl) (by decide) (fun h4 => ?_) (fun h4 => ?_)
    · refine WPe_sub [0, 1] rfl ?_
      exact wpj1_gladOf_21 X w0  x0 x1 w
    · refine WPe_bipush (pc := 18) (99 : Int32) (dd dtX1_gladOf 8 rfl) (by decide) ?_
      exact WPe_ireturn (pc := 20) (dd dtX1_gladOf 9 rfl) rfl rfl ⟨(Nat.le_of_ble_eq_true rfl), (Nat.le_of_ble_eq_true rfl)⟩
  · refine WPe_sub [0, 1] rfl ?_
    exact wpj1_gladOf_21 X w0  x0 x1 w
theorem okf1_gladOf (x0 : Nat) (x1 : Nat) (w : Wd) : ∀ z, f1_gladOf x0 x1 w = some z → OkM mX1_gladOf 3 0 0 [vR x0, vR x1] w (rtI z.1) z.2 :=
  OkM.of (rt := rtI) moX1_gladOf (Nat.le_of_ble_eq_true rfl) (fun X => wpf1_gladOf X w x0 x1 w)
def tbX1_loseSteam : List (Nat × Instr × Nat) := [(0, .aload_n 0, 1), (1, .iconst 0, 1), (2, .aload_n 0, 1), (3, .getfield 32, 3), (6, .iconst 1, 1), (7, .isub, 1), (8, .invokestatic 67, 3), (11, .putfield 32, 3), (14, .return_, 1)]
set_option maxRecDepth 20000 in
theorem dtX1_loseSteam : ∀ x ∈ tbX1_loseSteam, decode cX1_loseSteam x.1 = .ok x.2 := by decide +kernel
noncomputable def f1_loseSteam (x0 : Nat) (w : Wd) : Option (Unit × Wd) :=
  ck (tg w x0 = 1) (lw (sI w x0 2 (if (0 : Int32) < ((wi w x0 2) - (1 : Int32)) then ((wi w x0 2) - (1 : Int32)) else (0 : Int32))) fun w2 => (some ((), w2)))
theorem wpf1_loseSteam (X : CX) (w0 : Wd) (x0 : Nat) (w : Wd) : WPe rtV X (mX1_loseSteam, 1, 0, 0, w0) 0 0 (f1_loseSteam x0 w) 0 [(0, vR x0)] [] w := by
  unfold f1_loseSteam
  refine WPe_aload_n (pc := 0) 0 (dd dtX1_loseSteam 0 rfl) rfl ?_
  refine WPe_iconst (pc := 1) (0 : Int32) (dd dtX1_loseSteam 1 rfl) (by decide) ?_
  refine WPe_aload_n (pc := 2) 0 (dd dtX1_loseSteam 2 rfl) rfl ?_
  refine WPe_ck fun h1 => ?_
  refine WPe_getI (pc := 3) (t := 1) (C := RX1) (T := TX1) 2 (dd dtX1_loseSteam 3 rfl) (shE h1) rfl (Nat.le_of_ble_eq_true rfl) rfl (bw_mem2 74 rfl rfl) ?_
  refine WPe_iconst (pc := 6) (1 : Int32) (dd dtX1_loseSteam 4 rfl) (by decide) ?_
  refine WPe_isub (pc := 7) (dd dtX1_loseSteam 5 rfl) ?_
  refine WPe_mmax (pc := 8) (dd dtX1_loseSteam 6 rfl) (bw_mem3 31 rfl rfl) mmmax1 mm2 mmmax3 (Nat.le_of_ble_eq_true rfl) (Nat.le_of_ble_eq_true rfl) ⟨(Nat.le_of_ble_eq_true rfl), (Nat.le_of_ble_eq_true rfl)⟩ ?_
  refine WPe_putI (pc := 11) (t := 1) (C := RX1) (T := TX1) 2 (dd dtX1_loseSteam 7 rfl) (shE h1) rfl (Nat.le_of_ble_eq_true rfl) (bw_mem2 74 rfl rfl) (Or.inl rfl) rfl rfl rfl ?_
  refine WPe_lw fun w2 e3 => ?_
  exact WPe_return (pc := 14) (dd dtX1_loseSteam 8 rfl) rfl rfl ⟨(Nat.le_of_ble_eq_true rfl), (Nat.le_of_ble_eq_true rfl)⟩
theorem okf1_loseSteam (x0 : Nat) (w : Wd) : ∀ z, f1_loseSteam x0 w = some z → OkM mX1_loseSteam 1 0 0 [vR x0] w (rtV z.1) z.2 :=
  OkM.of (rt := rtV) moX1_loseSteam (Nat.le_of_ble_eq_true rfl) (fun X => wpf1_loseSteam X w x0 w)
def tbX1_sweatsOut : List (Nat × Instr × Nat) := [(0, .aload_n 0, 1), (1, .aload_n 1, 1), (2, .invokevirtual 80, 3), (5, .istore_n 2, 1), (6, .aload_n 0, 1), (7, .aload_n 1, 1), (8, .invokevirtual 84, 3), (11, .istore_n 3, 1), (12, .aload_n 1, 1), (13, .aload_n 1, 1), (14, .getfield 64, 3), (17, .iload_n 2, 1), (18, .iadd, 1), (19, .iconst 0, 1), (20, .sipush 999, 3), (23, .invokestatic 87, 3), (26, .putfield 64, 3), (29, .aload_n 1, 1), (30, .aload_n 1, 1), (31, .getfield 45, 3), (34, .iload_n 3, 1), (35, .iadd, 1), (36, .iconst 0, 1), (37, .sipush 999, 3), (40, .invokestatic 87, 3), (43, .putfield 45, 3), (46, .aload_n 1, 1), (47, .getfield 64, 3), (50, .aload_n 0, 1), (51, .aload_n 1, 1), (52, .invokevirtual 91, 3), (55, .if_icmp .gt 5, 3), (58, .iconst 0, 1), (59, .ireturn, 1), (60, .aload_n 1, 1), (61, .iconst 3, 1), (62, .putfield 42, 3), (65, .aload_n 0, 1), (66, .invokevirtual 77, 3), (69, .iconst 1, 1), (70, .ireturn, 1)]
set_option maxRecDepth 20000 in
theorem dtX1_sweatsOut : ∀ x ∈ tbX1_sweatsOut, decode cX1_sweatsOut x.1 = .ok x.2 := by decide +kernel
noncomputable def f1_sweatsOut (x0 : Nat) (x1 : Nat) (w : Wd) : Option (Int32 × Wd) :=
  ck (tg w x0 = 1) ((f1_feelsOf x0 x1 w).bind fun z2 => ((f1_gladOf x0 x1 z2.2).bind fun z5 => (ck (tg z5.2 x1 = 0) ((f5_bounded ((wi z5.2 x1 3) + z2.1) (0 : Int32) (999 : Int32) z5.2).bind fun z9 => (lw (sI z9.2 x1 3 z9.1) fun w12 => ((f5_bounded ((wi w12 x1 4) + z5.1) (0 : Int32) (999 : Int32) w12).bind fun z14 => (lw (sI z14.2 x1 4 z14.1) fun w17 => ((f1_bearsOf x0 x1 w17).bind fun z19 => (if z19.1 < (wi w17 x1 3) then (lw (sI z19.2 x1 2 (3 : Int32)) fun w23 => ((f1_loseSteam x0 w23).bind fun z25 => (some ((1 : Int32), z25.2)))) else (some ((0 : Int32), z19.2)))))))))))
theorem wpf1_sweatsOut (X : CX) (w0 : Wd) (x0 : Nat) (x1 : Nat) (w : Wd) : WPe rtI X (mX1_sweatsOut, 4, 0, 0, w0) 0 0 (f1_sweatsOut x0 x1 w) 0 [(0, vR x0), (1, vR x1)] [] w := by
  unfold f1_sweatsOut
  refine WPe_aload_n (pc := 0) 0 (dd dtX1_sweatsOut 0 rfl) rfl ?_
  refine WPe_aload_n (pc := 1) 1 (dd dtX1_sweatsOut 1 rfl) rfl ?_
  refine WPe_ck fun h1 => ?_
  refine WPe_callV (pc := 2) (rtc := rtI) (Mc := mX1_feelsOf) (d' := 3) (mc' := 0) (ms' := 0) [vR x1] [] rfl (dd dtX1_sweatsOut 2 rfl) (okf1_feelsOf x0 x1 w) moX1_feelsOf miX1_feelsOf (bw_mem3 44 rfl rfl) (Or.inl ⟨_, _, _, _, (shE h1), rfl⟩) rfl (Nat.le_of_ble_eq_true rfl) ⟨(Nat.le_of_ble_eq_true rfl), (Nat.le_of_ble_eq_true rfl)⟩ ⟨(Nat.le_of_ble_eq_true rfl), (Nat.le_of_ble_eq_true rfl)⟩ (fun z2 h3 e4 => ?_)
  refine WPe_st (st2 := [vI z2.1]) rfl ?_
  refine WPe_istore_n (pc := 5) (ls' := [(2, vI z2.1), (0, vR x0), (1, vR x1)]) (dd dtX1_sweatsOut 3 rfl) (Nat.le_of_ble_eq_true rfl) rfl ?_
  refine WPe_aload_n (pc := 6) 1 (dd dtX1_sweatsOut 4 rfl) rfl ?_
  refine WPe_aload_n (pc := 7) 2 (dd dtX1_sweatsOut 5 rfl) rfl ?_
  refine WPe_callV (pc := 8) (rtc := rtI) (Mc := mX1_gladOf) (d' := 3) (mc' := 0) (ms' := 0) [vR x1] [] rfl (dd dtX1_sweatsOut 6 rfl) (okf1_gladOf x0 x1 z2.2) moX1_gladOf miX1_gladOf (bw_mem3 45 rfl rfl) (Or.inl ⟨_, _, _, _, (e4.at (shE h1) (by decide)), rfl⟩) rfl (Nat.le_of_ble_eq_true rfl) ⟨(Nat.le_of_ble_eq_true rfl), (Nat.le_of_ble_eq_true rfl)⟩ ⟨(Nat.le_of_ble_eq_true rfl), (Nat.le_of_ble_eq_true rfl)⟩ (fun z5 h6 e7 => ?_)
  refine WPe_st (st2 := [vI z5.1]) rfl ?_
  refine WPe_istore_n (pc := 11) (ls' := [(3, vI z5.1), (2, vI z2.1), (0, vR x0), (1, vR x1)]) (dd dtX1_sweatsOut 7 rfl) (Nat.le_of_ble_eq_true rfl) rfl ?_
  refine WPe_aload_n (pc := 12) 3 (dd dtX1_sweatsOut 8 rfl) rfl ?_
  refine WPe_aload_n (pc := 13) 3 (dd dtX1_sweatsOut 9 rfl) rfl ?_
  refine WPe_ck fun h8 => ?_
  refine WPe_getI (pc := 14) (t := 0) (C := RX0) (T := TX0) 3 (dd dtX1_sweatsOut 10 rfl) (shE h8) rfl (Nat.le_of_ble_eq_true rfl) rfl (bw_mem2 52 rfl rfl) ?_
  refine WPe_iload_n (pc := 17) 1 (dd dtX1_sweatsOut 11 rfl) rfl ?_
  refine WPe_iadd (pc := 18) (dd dtX1_sweatsOut 12 rfl) ?_
  refine WPe_iconst (pc := 19) (0 : Int32) (dd dtX1_sweatsOut 13 rfl) (by decide) ?_
  refine WPe_sipush (pc := 20) (999 : Int32) (dd dtX1_sweatsOut 14 rfl) (by decide) ?_
  refine WPe_callSN (pc := 23) (host := "SteamOnBench") (rtc := rtI) (Mc := mX5_bounded) (d' := 1) (mc' := 0) (ms' := 0) [vI ((wi z5.2 x1 3) + z2.1), vI (0 : Int32), vI (999 : Int32)] [vR x1] rfl (dd dtX1_sweatsOut 15 rfl) (okf5_bounded ((wi z5.2 x1 3) + z2.1) (0 : Int32) (999 : Int32) z5.2) moX5_bounded msX5_bounded (List.mem_of_getElem? (i := 4) rfl) rfl (Nat.le_of_ble_eq_true rfl) ⟨(Nat.le_of_ble_eq_true rfl), (Nat.le_of_ble_eq_true rfl)⟩ ⟨(Nat.le_of_ble_eq_true rfl), (Nat.le_of_ble_eq_true rfl)⟩ (fun z9 h10 e11 => ?_)
  refine WPe_st (st2 := [vI z9.1, vR x1]) rfl ?_
  refine WPe_putI (pc := 26) (t := 0) (C := RX0) (T := TX0) 3 (dd dtX1_sweatsOut 16 rfl) (e11.at (shE h8) (by decide)) rfl (Nat.le_of_ble_eq_true rfl) (bw_mem2 52 rfl rfl) (Or.inl rfl) rfl rfl rfl ?_
  refine WPe_lw fun w12 e13 => ?_
  refine WPe_aload_n (pc := 29) 3 (dd dtX1_sweatsOut 17 rfl) rfl ?_
  refine WPe_aload_n (pc := 30) 3 (dd dtX1_sweatsOut 18 rfl) rfl ?_
  refine WPe_getI (pc := 31) (t := 0) (C := RX0) (T := TX0) 4 (dd dtX1_sweatsOut 19 rfl) (shI e13 (e11.at (shE h8) (by decide))) rfl (Nat.le_of_ble_eq_true rfl) rfl (bw_mem2 55 rfl rfl) ?_
  refine WPe_iload_n (pc := 34) 0 (dd dtX1_sweatsOut 20 rfl) rfl ?_
  refine WPe_iadd (pc := 35) (dd dtX1_sweatsOut 21 rfl) ?_
  refine WPe_iconst (pc := 36) (0 : Int32) (dd dtX1_sweatsOut 22 rfl) (by decide) ?_
  refine WPe_sipush (pc := 37) (999 : Int32) (dd dtX1_sweatsOut 23 rfl) (by decide) ?_
  refine WPe_callSN (pc := 40) (host := "SteamOnBench") (rtc := rtI) (Mc := mX5_bounded) (d' := 1) (mc' := 0) (ms' := 0) [vI ((wi w12 x1 4) + z5.1), vI (0 : Int32), vI (999 : Int32)] [vR x1] rfl (dd dtX1_sweatsOut 24 rfl) (okf5_bounded ((wi w12 x1 4) + z5.1) (0 : Int32) (999 : Int32) w12) moX5_bounded msX5_bounded (List.mem_of_getElem? (i := 4) rfl) rfl (Nat.le_of_ble_eq_true rfl) ⟨(Nat.le_of_ble_eq_true rfl), (Nat.le_of_ble_eq_true rfl)⟩ ⟨(Nat.le_of_ble_eq_true rfl), (Nat.le_of_ble_eq_true rfl)⟩ (fun z14 h15 e16 => ?_)
  refine WPe_st (st2 := [vI z14.1, vR x1]) rfl ?_
  refine WPe_putI (pc := 43) (t := 0) (C := RX0) (T := TX0) 4 (dd dtX1_sweatsOut 25 rfl) (e16.at (shI e13 (e11.at (shE h8) (by decide))) (by decide)) rfl (Nat.le_of_ble_eq_true rfl) (bw_mem2 55 rfl rfl) (Or.inl rfl) rfl rfl rfl ?_
  refine WPe_lw fun w17 e18 => ?_
  refine WPe_aload_n (pc := 46) 3 (dd dtX1_sweatsOut 26 rfl) rfl ?_
  refine WPe_getI (pc := 47) (t := 0) (C := RX0) (T := TX0) 3 (dd dtX1_sweatsOut 27 rfl) (shI e18 (e16.at (shI e13 (e11.at (shE h8) (by decide))) (by decide))) rfl (Nat.le_of_ble_eq_true rfl) rfl (bw_mem2 52 rfl rfl) ?_
  refine WPe_aload_n (pc := 50) 2 (dd dtX1_sweatsOut 28 rfl) rfl ?_
  refine WPe_aload_n (pc := 51) 3 (dd dtX1_sweatsOut 29 rfl) rfl ?_
  refine WPe_callV (pc := 52) (rtc := rtI) (Mc := mX1_bearsOf) (d' := 3) (mc' := 0) (ms' := 0) [vR x1] [vI (wi w17 x1 3)] rfl (dd dtX1_sweatsOut 30 rfl) (okf1_bearsOf x0 x1 w17) moX1_bearsOf miX1_bearsOf (bw_mem3 47 rfl rfl) (Or.inl ⟨_, _, _, _, (shI e18 (e16.at (shI e13 (e11.at (e7.at (e4.at (shE h1) (by decide)) (by decide)) (by decide))) (by decide))), rfl⟩) rfl (Nat.le_of_ble_eq_true rfl) ⟨(Nat.le_of_ble_eq_true rfl), (Nat.le_of_ble_eq_true rfl)⟩ ⟨(Nat.le_of_ble_eq_true rfl), (Nat.le_of_ble_eq_true rfl)⟩ (fun z19 h20 e21 => ?_)
  refine WPe_st (st2 := [vI z19.1, vI (wi w17 x1 3)]) rfl ?_
  refine WPe_icmp_gt (pc := 55) 60 (dd dtX1_sweatsOut 31 rfl) (by decide) (fun h22 => ?_) (fun h22 => ?_)
  · refine WPe_aload_n (pc := 60) 3 (dd dtX1_sweatsOut 34 rfl) rfl ?_
    refine WPe_iconst (pc := 61) (3 : Int32) (dd dtX1_sweatsOut 35 rfl) (by decide) ?_
    refine WPe_putI (pc := 62) (t := 0) (C := RX0) (T := TX0) 2 (dd dtX1_sweatsOut 36 rfl) (e21.at (shI e18 (e16.at (shI e13 (e11.at (shE h8) (by decide))) (by decide))) (by decide)) rfl (Nat.le_of_ble_eq_true rfl) (bw_mem2 48 rfl rfl) (Or.inl rfl) rfl rfl rfl ?_
    refine WPe_lw fun w23 e24 => ?_
    refine WPe_aload_n (pc := 65) 2 (dd dtX1_sweatsOut 37 rfl) rfl ?_
    refine WPe_callV (pc := 66) (rtc := rtV) (Mc := mX1_loseSteam) (d' := 1) (mc' := 0) (ms' := 0) [] [] rfl (dd dtX1_sweatsOut 38 rfl) (okf1_loseSteam x0 w23) moX1_loseSteam miX1_loseSteam (bw_mem3 48 rfl rfl) (Or.inl ⟨_, _, _, _, (shI e24 (e21.at (shI e18 (e16.at (shI e13 (e11.at (e7.at (e4.at (shE h1) (by decide)) (by decide)) (by decide))) (by decide))) (by decide))), rfl⟩) rfl (Nat.le_of_ble_eq_true rfl) ⟨(Nat.le_of_ble_eq_true rfl), (Nat.le_of_ble_eq_true rfl)⟩ ⟨(Nat.le_of_ble_eq_true rfl), (Nat.le_of_ble_eq_true rfl)⟩ (fun z25 h26 e27 => ?_)
    refine WPe_st (st2 := []) rfl ?_
    refine WPe_iconst (pc := 69) (1 : Int32) (dd dtX1_sweatsOut 39 rfl) (by decide) ?_
    exact WPe_zreturn (pc := 70) (ty := .boolean) (dd dtX1_sweatsOut 40 rfl) rfl rfl rfl ⟨(Nat.le_of_ble_eq_true rfl), (Nat.le_of_ble_eq_true rfl)⟩
  · refine WPe_iconst (pc := 58) (0 : Int32) (dd dtX1_sweatsOut 32 rfl) (by decide) ?_
    exact WPe_zreturn (pc := 59) (ty := .boolean) (dd dtX1_sweatsOut 33 rfl) rfl rfl rfl ⟨(Nat.le_of_ble_eq_true rfl), (Nat.le_of_ble_eq_true rfl)⟩
theorem okf1_sweatsOut (x0 : Nat) (x1 : Nat) (w : Wd) : ∀ z, f1_sweatsOut x0 x1 w = some z → OkM mX1_sweatsOut 4 0 0 [vR x0, vR x1] w (rtI z.1) z.2 :=
  OkM.of (rt := rtI) moX1_sweatsOut (Nat.le_of_ble_eq_true rfl) (fun X => wpf1_sweatsOut X w x0 x1 w)
def tbX1_passMinute : List (Nat × Instr × Nat) := [(0, .iconst 0, 1), (1, .istore_n 1, 1), (2, .iconst 0, 1), (3, .istore_n 2, 1), (4, .iload_n 2, 1), (5, .aload_n 0, 1), (6, .getfield 35, 3), (9, .if_icmp .ge 55, 3), (12, .aload_n 0, 1), (13, .getfield 20, 3), (16, .iload_n 2, 1), (17, .aaload, 1), (18, .astore_n 3, 1), (19, .aload_n 3, 1), (20, .getfield 42, 3), (23, .iconst 3, 1), (24, .if_icmp .ne 20, 3), (27, .aload_n 3, 1), (28, .iconst 0, 1), (29, .aload_n 3, 1), (30, .getfield 64, 3), (33, .iconst 5, 1), (34, .isub, 1), (35, .invokestatic 67, 3), (38, .putfield 64, 3), (41, .goto 17, 3), (44, .aload_n 0, 1), (45, .aload_n 3, 1), (46, .invokevirtual 73, 3), (49, .ifCond .eq 9, 3), (52, .iload_n 1, 1), (53, .iconst 1, 1), (54, .iload_n 2, 1), (55, .ishl, 1), (56, .ior, 1), (57, .istore_n 1, 1), (58, .iinc 2 1, 3), (61, .goto (-57), 3), (64, .aload_n 0, 1), (65, .invokevirtual 77, 3), (68, .aload_n 0, 1), (69, .iconst 0, 1), (70, .aload_n 0, 1), (71, .getfield 9, 3), (74, .iconst 2, 1), (75, .isub, 1), (76, .invokestatic 67, 3), (79, .putfield 9, 3), (82, .aload_n 0, 1), (83, .dup, 1), (84, .getfield 29, 3), (87, .iconst 1, 1), (88, .iadd, 1), (89, .putfield 29, 3), (92, .iload_n 1, 1), (93, .ireturn, 1)]
set_option maxRecDepth 20000 in
theorem dtX1_passMinute : ∀ x ∈ tbX1_passMinute, decode cX1_passMinute x.1 = .ok x.2 := by decide +kernel
noncomputable def j1_passMinute_58 (k4 : Nat × Int32 × Int32 → Wd → Option (Int32 × Wd)) (x0 : Nat) (x1 : Int32) (x2 : Int32) (w : Wd) : Option (Int32 × Wd) :=
  k4 (x0, x1, (x2 + (1 : Int32))) w
theorem wpj1_passMinute_58 (X : CX) (w0 : Wd) (k4 : Nat × Int32 × Int32 → Wd → Option (Int32 × Wd)) (hk4 : ∀ (v : Nat × Int32 × Int32) (w : Wd), WPe rtI X (mX1_passMinute, 5, 0, 0, w0) 0 0 (k4 v w) 4 [(0, vR v.1), (1, vI v.2.1), (2, vI v.2.2)] [] w) (x0 : Nat) (x1 : Int32) (x2 : Int32) (w : Wd) : WPe rtI X (mX1_passMinute, 5, 0, 0, w0) 0 0 (j1_passMinute_58 k4 x0 x1 x2 w) 58 [(0, vR x0), (1, vI x1), (2, vI x2)] [] w := by
  unfold j1_passMinute_58
  refine WPe_iinc (pc := 58) (ls' := [(2, vI (x2 + (1 : Int32))), (0, vR x0), (1, vI x1)]) 2 (x2 + (1 : Int32)) (dd dtX1_passMinute 36 rfl) rfl (congrArg (HAdd.hAdd _) (by decide : Int32.ofInt (1) = (1 : Int32))) (Nat.le_of_ble_eq_true rfl) rfl ?_
  refine WPe_goto (pc := 61) 4 (dd dtX1_passMinute 37 rfl) (by decide) ?_
  refine WPe_sub [1, 2, 0] rfl ?_
  exact hk4 (x0, x1, (x2 + (1 : Int32))) w
noncomputable def b1_passMinute_4 (k4 : Nat × Int32 × Int32 → Wd → Option (Int32 × Wd)) (v : Nat × Int32 × Int32) (w : Wd) : Option (Int32 × Wd) :=
  ck (tg w v.1 = 1) (if (wi w v.1 4) ≤ v.2.2 then ((f1_loseSteam v.1 w).bind fun z3 => (lw (sI z3.2 v.1 1 (if (0 : Int32) < ((wi z3.2 v.1 1) - (2 : Int32)) then ((wi z3.2 v.1 1) - (2 : Int32)) else (0 : Int32))) fun w6 => (lw (sI w6 v.1 0 ((wi w6 v.1 0) + (1 : Int32))) fun w8 => (some (v.2.1, w8))))) else (ck (tg w (wr w v.1 6) = 22 ∧ vp_in v.2.2 (ln w (wr w v.1 6))) (ck (tg w (wr w (wr w v.1 6) (v.2.2).toNatClampNeg) = 0) (if (wi w (wr w (wr w v.1 6) (v.2.2).toNatClampNeg) 2) = (3 : Int32) then (lw (sI w (wr w (wr w v.1 6) (v.2.2).toNatClampNeg) 3 (if (0 : Int32) < ((wi w (wr w (wr w v.1 6) (v.2.2).toNatClampNeg) 3) - (5 : Int32)) then ((wi w (wr w (wr w v.1 6) (v.2.2).toNatClampNeg) 3) - (5 : Int32)) else (0 : Int32))) fun w13 => (j1_passMinute_58 k4 v.1 v.2.1 v.2.2 w13)) else ((f1_sweatsOut v.1 (wr w (wr w v.1 6) (v.2.2).toNatClampNeg) w).bind fun z15 => (if z15.1 = (0 : Int32) then (j1_passMinute_58 k4 v.1 v.2.1 v.2.2 z15.2) else (j1_passMinute_58 k4 v.1 (v.2.1 ||| ((1 : Int32) <<< (v.2.2 &&& 31))) v.2.2 z15.2)))))))
theorem wpb1_passMinute_4 (X : CX) (w0 : Wd) (k4 : Nat × Int32 × Int32 → Wd → Option (Int32 × Wd)) (hk4 : ∀ (v : Nat × Int32 × Int32) (w : Wd), WPe rtI X (mX1_passMinute, 5, 0, 0, w0) 0 0 (k4 v w) 4 [(0, vR v.1), (1, vI v.2.1), (2, vI v.2.2)] [] w) (v : Nat × Int32 × Int32) (w : Wd) : WPe rtI X (mX1_passMinute, 5, 0, 0, w0) 0 0 (b1_passMinute_4 k4 v w) 4 [(0, vR v.1), (1, vI v.2.1), (2, vI v.2.2)] [] w := by
  unfold b1_passMinute_4
  refine WPe_iload_n (pc := 4) 2 (dd dtX1_passMinute 4 rfl) rfl ?_
  refine WPe_aload_n (pc := 5) 0 (dd dtX1_passMinute 5 rfl) rfl ?_
  refine WPe_ck fun h1 => ?_
  refine WPe_getI (pc := 6) (t := 1) (C := RX1) (T := TX1) 4 (dd dtX1_passMinute 6 rfl) (shE h1) rfl (Nat.le_of_ble_eq_true rfl) rfl (bw_mem2 79 rfl rfl) ?_
  refine WPe_icmp_ge (pc := 9) 64 (dd dtX1_passMinute 7 rfl) (by decide) (fun h2 => ?_) (fun h2 => ?_)
  · refine WPe_aload_n (pc := 64) 0 (dd dtX1_passMinute 38 rfl) rfl ?_
    refine WPe_callV (pc := 65) (rtc := rtV) (Mc := mX1_loseSteam) (d' := 1) (mc' := 0) (ms' := 0) [] [] rfl (dd dtX1_passMinute 39 rfl) (okf1_loseSteam v.1 w) moX1_loseSteam miX1_loseSteam (bw_mem3 48 rfl rfl) (Or.inl ⟨_, _, _, _, (shE h1), rfl⟩) rfl (Nat.le_of_ble_eq_true rfl) ⟨(Nat.le_of_ble_eq_true rfl), (Nat.le_of_ble_eq_true rfl)⟩ ⟨(Nat.le_of_ble_eq_true rfl), (Nat.le_of_ble_eq_true rfl)⟩ (fun z3 h4 e5 => ?_)
    refine WPe_st (st2 := []) rfl ?_
    refine WPe_aload_n (pc := 68) 0 (dd dtX1_passMinute 40 rfl) rfl ?_
    refine WPe_iconst (pc := 69) (0 : Int32) (dd dtX1_passMinute 41 rfl) (by decide) ?_
    refine WPe_aload_n (pc := 70) 0 (dd dtX1_passMinute 42 rfl) rfl ?_
    refine WPe_getI (pc := 71) (t := 1) (C := RX1) (T := TX1) 1 (dd dtX1_passMinute 43 rfl) (e5.at (shE h1) (by decide)) rfl (Nat.le_of_ble_eq_true rfl) rfl (bw_mem2 71 rfl rfl) ?_
    refine WPe_iconst (pc := 74) (2 : Int32) (dd dtX1_passMinute 44 rfl) (by decide) ?_
    refine WPe_isub (pc := 75) (dd dtX1_passMinute 45 rfl) ?_
    refine WPe_mmax (pc := 76) (dd dtX1_passMinute 46 rfl) (bw_mem3 31 rfl rfl) mmmax1 mm2 mmmax3 (Nat.le_of_ble_eq_true rfl) (Nat.le_of_ble_eq_true rfl) ⟨(Nat.le_of_ble_eq_true rfl), (Nat.le_of_ble_eq_true rfl)⟩ ?_
    refine WPe_putI (pc := 79) (t := 1) (C := RX1) (T := TX1) 1 (dd dtX1_passMinute 47 rfl) (e5.at (shE h1) (by decide)) rfl (Nat.le_of_ble_eq_true rfl) (bw_mem2 71 rfl rfl) (Or.inl rfl) rfl rfl rfl ?_
    refine WPe_lw fun w6 e7 => ?_
    refine WPe_aload_n (pc := 82) 0 (dd dtX1_passMinute 48 rfl) rfl ?_
    refine WPe_dup (pc := 83) (dd dtX1_passMinute 49 rfl) rfl ?_
    refine WPe_getI (pc := 84) (t := 1) (C := RX1) (T := TX1) 0 (dd dtX1_passMinute 50 rfl) (shI e7 (e5.at (shE h1) (by decide))) rfl (Nat.le_of_ble_eq_true rfl) rfl (bw_mem2 68 rfl rfl) ?_
    refine WPe_iconst (pc := 87) (1 : Int32) (dd dtX1_passMinute 51 rfl) (by decide) ?_
    refine WPe_iadd (pc := 88) (dd dtX1_passMinute 52 rfl) ?_
    refine WPe_putI (pc := 89) (t := 1) (C := RX1) (T := TX1) 0 (dd dtX1_passMinute 53 rfl) (shI e7 (e5.at (shE h1) (by decide))) rfl (Nat.le_of_ble_eq_true rfl) (bw_mem2 68 rfl rfl) (Or.inl rfl) rfl rfl rfl ?_
    refine WPe_lw fun w8 e9 => ?_
    refine WPe_iload_n (pc := 92) 1 (dd dtX1_passMinute 54 rfl) rfl ?_
    exact WPe_ireturn (pc := 93) (dd dtX1_passMinute 55 rfl) rfl rfl ⟨(Nat.le_of_ble_eq_true rfl), (Nat.le_of_ble_eq_true rfl)⟩
  · refine WPe_aload_n (pc := 12) 0 (dd dtX1_passMinute 8 rfl) rfl ?_
    refine WPe_getR (pc := 13) (t := 1) (C := RX1) (T := TX1) 6 (dd dtX1_passMinute 9 rfl) (shE h1) rfl (Nat.le_of_ble_eq_true rfl) rfl (bw_mem2 83 rfl rfl) ?_
    refine WPe_iload_n (pc := 16) 2 (dd dtX1_passMinute 10 rfl) rfl ?_
    refine WPe_ck fun h10 => ?_
    refine WPe_aald (pc := 17) (dd dtX1_passMinute 11 rfl) (shE h10.1) ⟨(Nat.le_of_ble_eq_true rfl), (Nat.le_of_ble_eq_true rfl)⟩ h10.2 ?_
    refine WPe_astore_n (pc := 18) (ls' := [(3, vR (wr w (wr w v.1 6) (v.2.2).toNatClampNeg)), (0, vR v.1), (1, vI v.2.1), (2, vI v.2.2)]) (dd dtX1_passMinute 12 rfl) (Nat.le_of_ble_eq_true rfl) rfl ?_
    refine WPe_aload_n (pc := 19) 0 (dd dtX1_passMinute 13 rfl) rfl ?_
    refine WPe_ck fun h11 => ?_
    refine WPe_getI (pc := 20) (t := 0) (C := RX0) (T := TX0) 2 (dd dtX1_passMinute 14 rfl) (shE h11) rfl (Nat.le_of_ble_eq_true rfl) rfl (bw_mem2 48 rfl rfl) ?_
    refine WPe_iconst (pc := 23) (3 : Int32) (dd dtX1_passMinute 15 rfl) (by decide) ?_
    refine WPe_icmp_ne (pc := 24) 44 (dd dtX1_passMinute 16 rfl) (by decide) (fun h12 => ?_) (fun h12 => ?_)
    · refine WPe_aload_n (pc := 27) 0 (dd dtX1_passMinute 17 rfl) rfl ?_
      refine WPe_iconst (pc := 28) (0 : Int32) (dd dtX1_passMinute 18 rfl) (by decide) ?_
      refine WPe_aload_n (pc := 29) 0 (dd dtX1_passMinute 19 rfl) rfl ?_
      refine WPe_getI (pc := 30) (t := 0) (C := RX0) (T := TX0) 3 (dd dtX1_passMinute 20 rfl) (shE h11) rfl (Nat.le_of_ble_eq_true rfl) rfl (bw_mem2 52 rfl rfl) ?_
      refine WPe_iconst (pc := 33) (5 : Int32) (dd dtX1_passMinute 21 rfl) (by decide) ?_
      refine WPe_isub (pc := 34) (dd dtX1_passMinute 22 rfl) ?_
      refine WPe_mmax (pc := 35) (dd dtX1_passMinute 23 rfl) (bw_mem3 31 rfl rfl) mmmax1 mm2 mmmax3 (Nat.le_of_ble_eq_true rfl) (Nat.le_of_ble_eq_true rfl) ⟨(Nat.le_of_ble_eq_true rfl), (Nat.le_of_ble_eq_true rfl)⟩ ?_
      refine WPe_putI (pc := 38) (t := 0) (C := RX0) (T := TX0) 3 (dd dtX1_passMinute 24 rfl) (shE h11) rfl (Nat.le_of_ble_eq_true rfl) (bw_mem2 52 rfl rfl) (Or.inl rfl) rfl rfl rfl ?_
      refine WPe_lw fun w13 e14 => ?_
      refine WPe_goto (pc := 41) 58 (dd dtX1_passMinute 25 rfl) (by decide) ?_
      refine WPe_sub [1, 2, 3] rfl ?_
      exact wpj1_passMinute_58 X w0 k4 hk4 v.1 v.2.1 v.2.2 w13
    · refine WPe_aload_n (pc := 44) 1 (dd dtX1_passMinute 26 rfl) rfl ?_
      refine WPe_aload_n (pc := 45) 0 (dd dtX1_passMinute 27 rfl) rfl ?_
      refine WPe_callV (pc := 46) (rtc := rtI) (Mc := mX1_sweatsOut) (d' := 4) (mc' := 0) (ms' := 0) [vR (wr w (wr w v.1 6) (v.2.2).toNatClampNeg)] [] rfl (dd dtX1_passMinute 28 rfl) (okf1_sweatsOut v.1 (wr w (wr w v.1 6) (v.2.2).toNatClampNeg) w) moX1_sweatsOut miX1_sweatsOut (bw_mem3 40 rfl rfl) (Or.inl ⟨_, _, _, _, (shE h1), rfl⟩) rfl (Nat.le_of_ble_eq_true rfl) ⟨(Nat.le_of_ble_eq_true rfl), (Nat.le_of_ble_eq_true rfl)⟩ ⟨(Nat.le_of_ble_eq_true rfl), (Nat.le_of_ble_eq_true rfl)⟩ (fun z15 h16 e17 => ?_)
      refine WPe_st (st2 := [vI z15.1]) rfl ?_
      refine WPe_if_eq (pc := 49) 58 (dd dtX1_passMinute 29 rfl) (by decide) (fun h18 => ?_) (fun h18 => ?_)
      · refine WPe_sub [1, 2, 3] rfl ?_
        exact wpj1_passMinute_58 X w0 k4 hk4 v.1 v.2.1 v.2.2 z15.2
      · refine WPe_iload_n (pc := 52) 2 (dd dtX1_passMinute 30 rfl) rfl ?_
        refine WPe_iconst (pc := 53) (1 : Int32) (dd dtX1_passMinute 31 rfl) (by decide) ?_
        refine WPe_iload_n (pc := 54) 3 (dd dtX1_passMinute 32 rfl) rfl ?_
        refine WPe_ishl (pc := 55) (dd dtX1_passMinute 33 rfl) ?_
        refine WPe_ior (pc := 56) (dd dtX1_passMinute 34 rfl) ?_
        refine WPe_istore_n (pc := 57) (ls' := [(1, vI (v.2.1 ||| ((1 : Int32) <<< (v.2.2 &&& 31)))), (3, vR (wr w (wr w v.1 6) (v.2.2).toNatClampNeg)), (0, vR v.1), (2, vI v.2.2)]) (dd dtX1_passMinute 35 rfl) (Nat.le_of_ble_eq_true rfl) rfl ?_
        refine WPe_sub [2, 0, 3] rfl ?_
        exact wpj1_passMinute_58 X w0 k4 hk4 v.1 (v.2.1 ||| ((1 : Int32) <<< (v.2.2 &&& 31))) v.2.2 z15.2
theorem wplb1_passMinute_4 (X : CX) (w0 : Wd)  : ∀ (n9 : Nat) (v : Nat × Int32 × Int32) (w : Wd), WPe rtI X (mX1_passMinute, 5, 0, 0, w0) 0 0 (loopF (b1_passMinute_4 ) n9 v w) 4 [(0, vR v.1), (1, vI v.2.1), (2, vI v.2.2)] [] w :=
  WPe_loop (rt := rtI) (X := X) (M := (mX1_passMinute, 5, 0, 0, w0)) (fun v : Nat × Int32 × Int32 => [(0, vR v.1), (1, vI v.2.1), (2, vI v.2.2)]) (fun k hk v w => wpb1_passMinute_4 X w0  k hk v w)
noncomputable def f1_passMinute (x0 : Nat) (w : Wd) : Option (Int32 × Wd) :=
  loopF (b1_passMinute_4) FU (x0, (0 : Int32), (0 : Int32)) w
theorem wpf1_passMinute (X : CX) (w0 : Wd) (x0 : Nat) (w : Wd) : WPe rtI X (mX1_passMinute, 5, 0, 0, w0) 0 0 (f1_passMinute x0 w) 0 [(0, vR x0)] [] w := by
  unfold f1_passMinute
  refine WPe_iconst (pc := 0) (0 : Int32) (dd dtX1_passMinute 0 rfl) (by decide) ?_
  refine WPe_istore_n (pc := 1) (ls' := [(1, vI (0 : Int32)), (0, vR x0)]) (dd dtX1_passMinute 1 rfl) (Nat.le_of_ble_eq_true rfl) rfl ?_
  refine WPe_iconst (pc := 2) (0 : Int32) (dd dtX1_passMinute 2 rfl) (by decide) ?_
  refine WPe_istore_n (pc := 3) (ls' := [(2, vI (0 : Int32)), (1, vI (0 : Int32)), (0, vR x0)]) (dd dtX1_passMinute 3 rfl) (Nat.le_of_ble_eq_true rfl) rfl ?_
  refine WPe_sub [2, 1, 0] rfl ?_
  exact wplb1_passMinute_4 X w0  FU _ _
theorem okf1_passMinute (x0 : Nat) (w : Wd) : ∀ z, f1_passMinute x0 w = some z → OkM mX1_passMinute 5 0 0 [vR x0] w (rtI z.1) z.2 :=
  OkM.of (rt := rtI) moX1_passMinute (Nat.le_of_ble_eq_true rfl) (fun X => wpf1_passMinute X w x0 w)
def tbX1_pourLadles : List (Nat × Instr × Nat) := [(0, .aload_n 0, 1), (1, .getfield 9, 3), (4, .bipush 20, 2), (6, .iload_n 1, 1), (7, .imul, 1), (8, .if_icmp .ge 5, 3), (11, .iconst 0, 1), (12, .ireturn, 1), (13, .aload_n 0, 1), (14, .dup, 1), (15, .getfield 9, 3), (18, .bipush 10, 2), (20, .iload_n 1, 1), (21, .imul, 1), (22, .isub, 1), (23, .putfield 9, 3), (26, .aload_n 0, 1), (27, .bipush 99, 2), (29, .aload_n 0, 1), (30, .getfield 32, 3), (33, .iconst 3, 1), (34, .iload_n 1, 1), (35, .imul, 1), (36, .iadd, 1), (37, .invokestatic 94, 3), (40, .putfield 32, 3), (43, .iconst 1, 1), (44, .ireturn, 1)]
set_option maxRecDepth 20000 in
theorem dtX1_pourLadles : ∀ x ∈ tbX1_pourLadles, decode cX1_pourLadles x.1 = .ok x.2 := by decide +kernel
noncomputable def f1_pourLadles (x0 : Nat) (x1 : Int32) (w : Wd) : Option (Int32 × Wd) :=
  ck (tg w x0 = 1) (if ((20 : Int32) * x1) ≤ (wi w x0 1) then (lw (sI w x0 1 ((wi w x0 1) - ((10 : Int32) * x1))) fun w3 => (lw (sI w3 x0 2 (if ((wi w3 x0 2) + ((3 : Int32) * x1)) < (99 : Int32) then ((wi w3 x0 2) + ((3 : Int32) * x1)) else (99 : Int32))) fun w5 => (some ((1 : Int32), w5)))) else (some ((0 : Int32), w)))
theorem wpf1_pourLadles (X : CX) (w0 : Wd) (x0 : Nat) (x1 : Int32) (w : Wd) : WPe rtI X (mX1_pourLadles, 1, 0, 0, w0) 0 0 (f1_pourLadles x0 x1 w) 0 [(0, vR x0), (1, vI x1)] [] w := by
  unfold f1_pourLadles
  refine WPe_aload_n (pc := 0) 0 (dd dtX1_pourLadles 0 rfl) rfl ?_
  refine WPe_ck fun h1 => ?_
  refine WPe_getI (pc := 1) (t := 1) (C := RX1) (T := TX1) 1 (dd dtX1_pourLadles 1 rfl) (shE h1) rfl (Nat.le_of_ble_eq_true rfl) rfl (bw_mem2 71 rfl rfl) ?_
  refine WPe_bipush (pc := 4) (20 : Int32) (dd dtX1_pourLadles 2 rfl) (by decide) ?_
  refine WPe_iload_n (pc := 6) 1 (dd dtX1_pourLadles 3 rfl) rfl ?_
  refine WPe_imul (pc := 7) (dd dtX1_pourLadles 4 rfl) ?_
  refine WPe_icmp_ge (pc := 8) 13 (dd dtX1_pourLadles 5 rfl) (by decide) (fun h2 => ?_) (fun h2 => ?_)
  · refine WPe_aload_n (pc := 13) 0 (dd dtX1_pourLadles 8 rfl) rfl ?_
    refine WPe_dup (pc := 14) (dd dtX1_pourLadles 9 rfl) rfl ?_
    refine WPe_getI (pc := 15) (t := 1) (C := RX1) (T := TX1) 1 (dd dtX1_pourLadles 10 rfl) (shE h1) rfl (Nat.le_of_ble_eq_true rfl) rfl (bw_mem2 71 rfl rfl) ?_
    refine WPe_bipush (pc := 18) (10 : Int32) (dd dtX1_pourLadles 11 rfl) (by decide) ?_
    refine WPe_iload_n (pc := 20) 1 (dd dtX1_pourLadles 12 rfl) rfl ?_
    refine WPe_imul (pc := 21) (dd dtX1_pourLadles 13 rfl) ?_
    refine WPe_isub (pc := 22) (dd dtX1_pourLadles 14 rfl) ?_
    refine WPe_putI (pc := 23) (t := 1) (C := RX1) (T := TX1) 1 (dd dtX1_pourLadles 15 rfl) (shE h1) rfl (Nat.le_of_ble_eq_true rfl) (bw_mem2 71 rfl rfl) (Or.inl rfl) rfl rfl rfl ?_
    refine WPe_lw fun w3 e4 => ?_
    refine WPe_aload_n (pc := 26) 0 (dd dtX1_pourLadles 16 rfl) rfl ?_
    refine WPe_bipush (pc := 27) (99 : Int32) (dd dtX1_pourLadles 17 rfl) (by decide) ?_
    refine WPe_aload_n (pc := 29) 0 (dd dtX1_pourLadles 18 rfl) rfl ?_
    refine WPe_getI (pc := 30) (t := 1) (C := RX1) (T := TX1) 2 (dd dtX1_pourLadles 19 rfl) (shI e4 (shE h1)) rfl (Nat.le_of_ble_eq_true rfl) rfl (bw_mem2 74 rfl rfl) ?_
    refine WPe_iconst (pc := 33) (3 : Int32) (dd dtX1_pourLadles 20 rfl) (by decide) ?_
    refine WPe_iload_n (pc := 34) 1 (dd dtX1_pourLadles 21 rfl) rfl ?_
    refine WPe_imul (pc := 35) (dd dtX1_pourLadles 22 rfl) ?_
    refine WPe_iadd (pc := 36) (dd dtX1_pourLadles 23 rfl) ?_
    refine WPe_mmin (pc := 37) (dd dtX1_pourLadles 24 rfl) (bw_mem3 14 rfl rfl) mmmin1 mm2 mmmin3 (Nat.le_of_ble_eq_true rfl) (Nat.le_of_ble_eq_true rfl) ⟨(Nat.le_of_ble_eq_true rfl), (Nat.le_of_ble_eq_true rfl)⟩ ?_
    refine WPe_putI (pc := 40) (t := 1) (C := RX1) (T := TX1) 2 (dd dtX1_pourLadles 25 rfl) (shI e4 (shE h1)) rfl (Nat.le_of_ble_eq_true rfl) (bw_mem2 74 rfl rfl) (Or.inl rfl) rfl rfl rfl ?_
    refine WPe_lw fun w5 e6 => ?_
    refine WPe_iconst (pc := 43) (1 : Int32) (dd dtX1_pourLadles 26 rfl) (by decide) ?_
    exact WPe_zreturn (pc := 44) (ty := .boolean) (dd dtX1_pourLadles 27 rfl) rfl rfl rfl ⟨(Nat.le_of_ble_eq_true rfl), (Nat.le_of_ble_eq_true rfl)⟩
  · refine WPe_iconst (pc := 11) (0 : Int32) (dd dtX1_pourLadles 6 rfl) (by decide) ?_
    exact WPe_zreturn (pc := 12) (ty := .boolean) (dd dtX1_pourLadles 7 rfl) rfl rfl rfl ⟨(Nat.le_of_ble_eq_true rfl), (Nat.le_of_ble_eq_true rfl)⟩
theorem okf1_pourLadles (x0 : Nat) (x1 : Int32) (w : Wd) : ∀ z, f1_pourLadles x0 x1 w = some z → OkM mX1_pourLadles 1 0 0 [vR x0, vI x1] w (rtI z.1) z.2 :=
  OkM.of (rt := rtI) moX1_pourLadles (Nat.le_of_ble_eq_true rfl) (fun X => wpf1_pourLadles X w x0 x1 w)
def tbX1_burnLog : List (Nat × Instr × Nat) := [(0, .aload_n 0, 1), (1, .dup, 1), (2, .getfield 15, 3), (5, .iconst 1, 1), (6, .isub, 1), (7, .putfield 15, 3), (10, .aload_n 0, 1), (11, .sipush 999, 3), (14, .aload_n 0, 1), (15, .getfield 9, 3), (18, .bipush 50, 2), (20, .iadd, 1), (21, .invokestatic 94, 3), (24, .putfield 9, 3), (27, .return_, 1)]
set_option maxRecDepth 20000 in
theorem dtX1_burnLog : ∀ x ∈ tbX1_burnLog, decode cX1_burnLog x.1 = .ok x.2 := by decide +kernel
noncomputable def f1_burnLog (x0 : Nat) (w : Wd) : Option (Unit × Wd) :=
  ck (tg w x0 = 1) (lw (sI w x0 3 ((wi w x0 3) - (1 : Int32))) fun w2 => (lw (sI w2 x0 1 (if ((wi w2 x0 1) + (50 : Int32)) < (999 : Int32) then ((wi w2 x0 1) + (50 : Int32)) else (999 : Int32))) fun w4 => (some ((), w4))))
theorem wpf1_burnLog (X : CX) (w0 : Wd) (x0 : Nat) (w : Wd) : WPe rtV X (mX1_burnLog, 1, 0, 0, w0) 0 0 (f1_burnLog x0 w) 0 [(0, vR x0)] [] w := by
  unfold f1_burnLog
  refine WPe_aload_n (pc := 0) 0 (dd dtX1_burnLog 0 rfl) rfl ?_
  refine WPe_dup (pc := 1) (dd dtX1_burnLog 1 rfl) rfl ?_
  refine WPe_ck fun h1 => ?_
  refine WPe_getI (pc := 2) (t := 1) (C := RX1) (T := TX1) 3 (dd dtX1_burnLog 2 rfl) (shE h1) rfl (Nat.le_of_ble_eq_true rfl) rfl (bw_mem2 77 rfl rfl) ?_
  refine WPe_iconst (pc := 5) (1 : Int32) (dd dtX1_burnLog 3 rfl) (by decide) ?_
  refine WPe_isub (pc := 6) (dd dtX1_burnLog 4 rfl) ?_
  refine WPe_putI (pc := 7) (t := 1) (C := RX1) (T := TX1) 3 (dd dtX1_burnLog 5 rfl) (shE h1) rfl (Nat.le_of_ble_eq_true rfl) (bw_mem2 77 rfl rfl) (Or.inl rfl) rfl rfl rfl ?_
  refine WPe_lw fun w2 e3 => ?_
  refine WPe_aload_n (pc := 10) 0 (dd dtX1_burnLog 6 rfl) rfl ?_
  refine WPe_sipush (pc := 11) (999 : Int32) (dd dtX1_burnLog 7 rfl) (by decide) ?_
  refine WPe_aload_n (pc := 14) 0 (dd dtX1_burnLog 8 rfl) rfl ?_
  refine WPe_getI (pc := 15) (t := 1) (C := RX1) (T := TX1) 1 (dd dtX1_burnLog 9 rfl) (shI e3 (shE h1)) rfl (Nat.le_of_ble_eq_true rfl) rfl (bw_mem2 71 rfl rfl) ?_
  refine WPe_bipush (pc := 18) (50 : Int32) (dd dtX1_burnLog 10 rfl) (by decide) ?_
  refine WPe_iadd (pc := 20) (dd dtX1_burnLog 11 rfl) ?_
  refine WPe_mmin (pc := 21) (dd dtX1_burnLog 12 rfl) (bw_mem3 14 rfl rfl) mmmin1 mm2 mmmin3 (Nat.le_of_ble_eq_true rfl) (Nat.le_of_ble_eq_true rfl) ⟨(Nat.le_of_ble_eq_true rfl), (Nat.le_of_ble_eq_true rfl)⟩ ?_
  refine WPe_putI (pc := 24) (t := 1) (C := RX1) (T := TX1) 1 (dd dtX1_burnLog 13 rfl) (shI e3 (shE h1)) rfl (Nat.le_of_ble_eq_true rfl) (bw_mem2 71 rfl rfl) (Or.inl rfl) rfl rfl rfl ?_
  refine WPe_lw fun w4 e5 => ?_
  exact WPe_return (pc := 27) (dd dtX1_burnLog 14 rfl) rfl rfl ⟨(Nat.le_of_ble_eq_true rfl), (Nat.le_of_ble_eq_true rfl)⟩
theorem okf1_burnLog (x0 : Nat) (w : Wd) : ∀ z, f1_burnLog x0 w = some z → OkM mX1_burnLog 1 0 0 [vR x0] w (rtV z.1) z.2 :=
  OkM.of (rt := rtV) moX1_burnLog (Nat.le_of_ble_eq_true rfl) (fun X => wpf1_burnLog X w x0 w)
def tbX1_letIn : List (Nat × Instr × Nat) := [(0, .iload_n 1, 1), (1, .ifCond .lt 9, 3), (4, .iload_n 1, 1), (5, .bipush 60, 2), (7, .if_icmp .lt 6, 3), (10, .bipush (-2), 2), (12, .ireturn, 1), (13, .iload_n 2, 1), (14, .ifCond .lt 21, 3), (17, .iload_n 2, 1), (18, .bipush 10, 2), (20, .idiv, 1), (21, .sipush 999, 3), (24, .if_icmp .gt 11, 3), (27, .iload_n 2, 1), (28, .bipush 10, 2), (30, .irem, 1), (31, .iconst 3, 1), (32, .if_icmp .le 6, 3), (35, .bipush (-2), 2), (37, .ireturn, 1), (38, .aload_n 0, 1), (39, .getfield 35, 3), (42, .aload_n 0, 1), (43, .getfield 20, 3), (46, .arraylength, 1), (47, .if_icmp .lt 6, 3), (50, .bipush (-4), 2), (52, .ireturn, 1), (53, .aload_n 0, 1), (54, .getfield 20, 3), (57, .aload_n 0, 1), (58, .getfield 35, 3), (61, .aaload, 1), (62, .astore_n 3, 1), (63, .aload_n 3, 1), (64, .iload_n 1, 1), (65, .bipush 10, 2), (67, .idiv, 1), (68, .putfield 48, 3), (71, .aload_n 3, 1), (72, .iload_n 1, 1), (73, .bipush 10, 2), (75, .irem, 1), (76, .putfield 51, 3), (79, .aload_n 3, 1), (80, .iload_n 2, 1), (81, .bipush 10, 2), (83, .idiv, 1), (84, .putfield 64, 3), (87, .aload_n 3, 1), (88, .iload_n 2, 1), (89, .bipush 10, 2), (91, .irem, 1), (92, .putfield 42, 3), (95, .aload_n 3, 1), (96, .iconst 0, 1), (97, .putfield 45, 3), (100, .aload_n 0, 1), (101, .dup, 1), (102, .getfield 35, 3), (105, .iconst 1, 1), (106, .iadd, 1), (107, .putfield 35, 3), (110, .aload_n 0, 1), (111, .getfield 35, 3), (114, .iconst 1, 1), (115, .isub, 1), (116, .ireturn, 1)]
set_option maxRecDepth 20000 in
theorem dtX1_letIn : ∀ x ∈ tbX1_letIn, decode cX1_letIn x.1 = .ok x.2 := by decide +kernel
noncomputable def f1_letIn (x0 : Nat) (x1 : Int32) (x2 : Int32) (w : Wd) : Option (Int32 × Wd) :=
  if x1 < (0 : Int32) then (some ((-2 : Int32), w)) else (if x1 < (60 : Int32) then (if x2 < (0 : Int32) then (some ((-2 : Int32), w)) else (if (999 : Int32) < (x2 / (10 : Int32)) then (some ((-2 : Int32), w)) else (if (x2 - x2 / (10 : Int32) * (10 : Int32)) ≤ (3 : Int32) then (ck (tg w x0 = 1) (ck (tg w (wr w x0 6) = 22) (if (wi w x0 4) < (Int32.ofNat (ln w (wr w x0 6))) then (ck (vp_in (wi w x0 4) (ln w (wr w x0 6))) (ck (tg w (wr w (wr w x0 6) ((wi w x0 4)).toNatClampNeg) = 0) (lw (sI w (wr w (wr w x0 6) ((wi w x0 4)).toNatClampNeg) 0 (x1 / (10 : Int32))) fun w11 => (lw (sI w11 (wr w (wr w x0 6) ((wi w x0 4)).toNatClampNeg) 1 (x1 - x1 / (10 : Int32) * (10 : Int32))) fun w13 => (lw (sI w13 (wr w (wr w x0 6) ((wi w x0 4)).toNatClampNeg) 3 (x2 / (10 : Int32))) fun w15 => (lw (sI w15 (wr w (wr w x0 6) ((wi w x0 4)).toNatClampNeg) 2 (x2 - x2 / (10 : Int32) * (10 : Int32))) fun w17 => (lw (sI w17 (wr w (wr w x0 6) ((wi w x0 4)).toNatClampNeg) 4 (0 : Int32)) fun w19 => (lw (sI w19 x0 4 ((wi w19 x0 4) + (1 : Int32))) fun w21 => (some (((wi w21 x0 4) - (1 : Int32)), w21)))))))))) else (some ((-4 : Int32), w))))) else (some ((-2 : Int32), w))))) else (some ((-2 : Int32), w)))
theorem wpf1_letIn (X : CX) (w0 : Wd) (x0 : Nat) (x1 : Int32) (x2 : Int32) (w : Wd) : WPe rtI X (mX1_letIn, 1, 0, 0, w0) 0 0 (f1_letIn x0 x1 x2 w) 0 [(0, vR x0), (1, vI x1), (2, vI x2)] [] w := by
  unfold f1_letIn
  refine WPe_iload_n (pc := 0) 1 (dd dtX1_letIn 0 rfl) rfl ?_
  refine WPe_if_lt (pc := 1) 10 (dd dtX1_letIn 1 rfl) (by decide) (fun h1 => ?_) (fun h1 => ?_)
  · refine WPe_bipush (pc := 10) (-2 : Int32) (dd dtX1_letIn 5 rfl) (by decide) ?_
    exact WPe_ireturn (pc := 12) (dd dtX1_letIn 6 rfl) rfl rfl ⟨(Nat.le_of_ble_eq_true rfl), (Nat.le_of_ble_eq_true rfl)⟩
  · refine WPe_iload_n (pc := 4) 1 (dd dtX1_letIn 2 rfl) rfl ?_
    refine WPe_bipush (pc := 5) (60 : Int32) (dd dtX1_letIn 3 rfl) (by decide) ?_
    refine WPe_icmp_lt (pc := 7) 13 (dd dtX1_letIn 4 rfl) (by decide) (fun h2 => ?_) (fun h2 => ?_)
    · refine WPe_iload_n (pc := 13) 2 (dd dtX1_letIn 7 rfl) rfl ?_
      refine WPe_if_lt (pc := 14) 35 (dd dtX1_letIn 8 rfl) (by decide) (fun h3 => ?_) (fun h3 => ?_)
      · refine WPe_bipush (pc := 35) (-2 : Int32) (dd dtX1_letIn 19 rfl) (by decide) ?_
        exact WPe_ireturn (pc := 37) (dd dtX1_letIn 20 rfl) rfl rfl ⟨(Nat.le_of_ble_eq_true rfl), (Nat.le_of_ble_eq_true rfl)⟩
      · refine WPe_iload_n (pc := 17) 2 (dd dtX1_letIn 9 rfl) rfl ?_
        refine WPe_bipush (pc := 18) (10 : Int32) (dd dtX1_letIn 10 rfl) (by decide) ?_
        refine WPe_idiv (pc := 20) (dd dtX1_letIn 11 rfl) (by decide) ?_
        refine WPe_sipush (pc := 21) (999 : Int32) (dd dtX1_letIn 12 rfl) (by decide) ?_
        refine WPe_icmp_gt (pc := 24) 35 (dd dtX1_letIn 13 rfl) (by decide) (fun h4 => ?_) (fun h4 => ?_)
        · refine WPe_bipush (pc := 35) (-2 : Int32) (dd dtX1_letIn 19 rfl) (by decide) ?_
          exact WPe_ireturn (pc := 37) (dd dtX1_letIn 20 rfl) rfl rfl ⟨(Nat.le_of_ble_eq_true rfl), (Nat.le_of_ble_eq_true rfl)⟩
        · refine WPe_iload_n (pc := 27) 2 (dd dtX1_letIn 14 rfl) rfl ?_
          refine WPe_bipush (pc := 28) (10 : Int32) (dd dtX1_letIn 15 rfl) (by decide) ?_
          refine WPe_irem (pc := 30) (dd dtX1_letIn 16 rfl) (by decide) ?_
          refine WPe_iconst (pc := 31) (3 : Int32) (dd dtX1_letIn 17 rfl) (by decide) ?_
          refine WPe_icmp_le (pc := 32) 38 (dd dtX1_letIn 18 rfl) (by decide) (fun h5 => ?_) (fun h5 => ?_)
          · refine WPe_aload_n (pc := 38) 0 (dd dtX1_letIn 21 rfl) rfl ?_
            refine WPe_ck fun h6 => ?_
            refine WPe_getI (pc := 39) (t := 1) (C := RX1) (T := TX1) 4 (dd dtX1_letIn 22 rfl) (shE h6) rfl (Nat.le_of_ble_eq_true rfl) rfl (bw_mem2 79 rfl rfl) ?_
            refine WPe_aload_n (pc := 42) 0 (dd dtX1_letIn 23 rfl) rfl ?_
            refine WPe_getR (pc := 43) (t := 1) (C := RX1) (T := TX1) 6 (dd dtX1_letIn 24 rfl) (shE h6) rfl (Nat.le_of_ble_eq_true rfl) rfl (bw_mem2 83 rfl rfl) ?_
            refine WPe_ck fun h7 => ?_
            refine WPe_alen (pc := 46) (dd dtX1_letIn 25 rfl) (shL (shE h7)) ⟨(Nat.le_of_ble_eq_true rfl), (Nat.le_of_ble_eq_true rfl)⟩ ?_
            refine WPe_icmp_lt (pc := 47) 53 (dd dtX1_letIn 26 rfl) (by decide) (fun h8 => ?_) (fun h8 => ?_)
            · refine WPe_aload_n (pc := 53) 0 (dd dtX1_letIn 29 rfl) rfl ?_
              refine WPe_getR (pc := 54) (t := 1) (C := RX1) (T := TX1) 6 (dd dtX1_letIn 30 rfl) (shE h6) rfl (Nat.le_of_ble_eq_true rfl) rfl (bw_mem2 83 rfl rfl) ?_
              refine WPe_aload_n (pc := 57) 0 (dd dtX1_letIn 31 rfl) rfl ?_
              refine WPe_getI (pc := 58) (t := 1) (C := RX1) (T := TX1) 4 (dd dtX1_letIn 32 rfl) (shE h6) rfl (Nat.le_of_ble_eq_true rfl) rfl (bw_mem2 79 rfl rfl) ?_
              refine WPe_ck fun h9 => ?_
              refine WPe_aald (pc := 61) (dd dtX1_letIn 33 rfl) (shL (shE h7)) ⟨(Nat.le_of_ble_eq_true rfl), (Nat.le_of_ble_eq_true rfl)⟩ h9 ?_
              refine WPe_astore_n (pc := 62) (ls' := [(3, vR (wr w (wr w x0 6) ((wi w x0 4)).toNatClampNeg)), (0, vR x0), (1, vI x1), (2, vI x2)]) (dd dtX1_letIn 34 rfl) (Nat.le_of_ble_eq_true rfl) rfl ?_
              refine WPe_aload_n (pc := 63) 0 (dd dtX1_letIn 35 rfl) rfl ?_
              refine WPe_iload_n (pc := 64) 2 (dd dtX1_letIn 36 rfl) rfl ?_
              refine WPe_bipush (pc := 65) (10 : Int32) (dd dtX1_letIn 37 rfl) (by decide) ?_
              refine WPe_idiv (pc := 67) (dd dtX1_letIn 38 rfl) (by decide) ?_
              refine WPe_ck fun h10 => ?_
              refine WPe_putI (pc := 68) (t := 0) (C := RX0) (T := TX0) 0 (dd dtX1_letIn 39 rfl) (shE h10) rfl (Nat.le_of_ble_eq_true rfl) (bw_mem2 40 rfl rfl) (Or.inl rfl) rfl rfl rfl ?_
              refine WPe_lw fun w11 e12 => ?_
              refine WPe_aload_n (pc := 71) 0 (dd dtX1_letIn 40 rfl) rfl ?_
              refine WPe_iload_n (pc := 72) 2 (dd dtX1_letIn 41 rfl) rfl ?_
              refine WPe_bipush (pc := 73) (10 : Int32) (dd dtX1_letIn 42 rfl) (by decide) ?_
              refine WPe_irem (pc := 75) (dd dtX1_letIn 43 rfl) (by decide) ?_
              refine WPe_putI (pc := 76) (t := 0) (C := RX0) (T := TX0) 1 (dd dtX1_letIn 44 rfl) (shI e12 (shE h10)) rfl (Nat.le_of_ble_eq_true rfl) (bw_mem2 44 rfl rfl) (Or.inl rfl) rfl rfl rfl ?_
              refine WPe_lw fun w13 e14 => ?_
              refine WPe_aload_n (pc := 79) 0 (dd dtX1_letIn 45 rfl) rfl ?_
              refine WPe_iload_n (pc := 80) 3 (dd dtX1_letIn 46 rfl) rfl ?_
              refine WPe_bipush (pc := 81) (10 : Int32) (dd dtX1_letIn 47 rfl) (by decide) ?_
              refine WPe_idiv (pc := 83) (dd dtX1_letIn 48 rfl) (by decide) ?_
              refine WPe_putI (pc := 84) (t := 0) (C := RX0) (T := TX0) 3 (dd dtX1_letIn 49 rfl) (shI e14 (shI e12 (shE h10))) rfl (Nat.le_of_ble_eq_true rfl) (bw_mem2 52 rfl rfl) (Or.inl rfl) rfl rfl rfl ?_
              refine WPe_lw fun w15 e16 => ?_
              refine WPe_aload_n (pc := 87) 0 (dd dtX1_letIn 50 rfl) rfl ?_
              refine WPe_iload_n (pc := 88) 3 (dd dtX1_letIn 51 rfl) rfl ?_
              refine WPe_bipush (pc := 89) (10 : Int32) (dd dtX1_letIn 52 rfl) (by decide) ?_
              refine WPe_irem (pc := 91) (dd dtX1_letIn 53 rfl) (by decide) ?_
              refine WPe_putI (pc := 92) (t := 0) (C := RX0) (T := TX0) 2 (dd dtX1_letIn 54 rfl) (shI e16 (shI e14 (shI e12 (shE h10)))) rfl (Nat.le_of_ble_eq_true rfl) (bw_mem2 48 rfl rfl) (Or.inl rfl) rfl rfl rfl ?_
              refine WPe_lw fun w17 e18 => ?_
              refine WPe_aload_n (pc := 95) 0 (dd dtX1_letIn 55 rfl) rfl ?_
              refine WPe_iconst (pc := 96) (0 : Int32) (dd dtX1_letIn 56 rfl) (by decide) ?_
              refine WPe_putI (pc := 97) (t := 0) (C := RX0) (T := TX0) 4 (dd dtX1_letIn 57 rfl) (shI e18 (shI e16 (shI e14 (shI e12 (shE h10))))) rfl (Nat.le_of_ble_eq_true rfl) (bw_mem2 55 rfl rfl) (Or.inl rfl) rfl rfl rfl ?_
              refine WPe_lw fun w19 e20 => ?_
              refine WPe_aload_n (pc := 100) 1 (dd dtX1_letIn 58 rfl) rfl ?_
              refine WPe_dup (pc := 101) (dd dtX1_letIn 59 rfl) rfl ?_
              refine WPe_getI (pc := 102) (t := 1) (C := RX1) (T := TX1) 4 (dd dtX1_letIn 60 rfl) (shI e20 (shI e18 (shI e16 (shI e14 (shI e12 (shE h6)))))) rfl (Nat.le_of_ble_eq_true rfl) rfl (bw_mem2 79 rfl rfl) ?_
              refine WPe_iconst (pc := 105) (1 : Int32) (dd dtX1_letIn 61 rfl) (by decide) ?_
              refine WPe_iadd (pc := 106) (dd dtX1_letIn 62 rfl) ?_
              refine WPe_putI (pc := 107) (t := 1) (C := RX1) (T := TX1) 4 (dd dtX1_letIn 63 rfl) (shI e20 (shI e18 (shI e16 (shI e14 (shI e12 (shE h6)))))) rfl (Nat.le_of_ble_eq_true rfl) (bw_mem2 79 rfl rfl) (Or.inl rfl) rfl rfl rfl ?_
              refine WPe_lw fun w21 e22 => ?_
              refine WPe_aload_n (pc := 110) 1 (dd dtX1_letIn 64 rfl) rfl ?_
              refine WPe_getI (pc := 111) (t := 1) (C := RX1) (T := TX1) 4 (dd dtX1_letIn 65 rfl) (shI e22 (shI e20 (shI e18 (shI e16 (shI e14 (shI e12 (shE h6))))))) rfl (Nat.le_of_ble_eq_true rfl) rfl (bw_mem2 79 rfl rfl) ?_
              refine WPe_iconst (pc := 114) (1 : Int32) (dd dtX1_letIn 66 rfl) (by decide) ?_
              refine WPe_isub (pc := 115) (dd dtX1_letIn 67 rfl) ?_
              exact WPe_ireturn (pc := 116) (dd dtX1_letIn 68 rfl) rfl rfl ⟨(Nat.le_of_ble_eq_true rfl), (Nat.le_of_ble_eq_true rfl)⟩
            · refine WPe_bipush (pc := 50) (-4 : Int32) (dd dtX1_letIn 27 rfl) (by decide) ?_
              exact WPe_ireturn (pc := 52) (dd dtX1_letIn 28 rfl) rfl rfl ⟨(Nat.le_of_ble_eq_true rfl), (Nat.le_of_ble_eq_true rfl)⟩
          · refine WPe_bipush (pc := 35) (-2 : Int32) (dd dtX1_letIn 19 rfl) (by decide) ?_
            exact WPe_ireturn (pc := 37) (dd dtX1_letIn 20 rfl) rfl rfl ⟨(Nat.le_of_ble_eq_true rfl), (Nat.le_of_ble_eq_true rfl)⟩
    · refine WPe_bipush (pc := 10) (-2 : Int32) (dd dtX1_letIn 5 rfl) (by decide) ?_
      exact WPe_ireturn (pc := 12) (dd dtX1_letIn 6 rfl) rfl rfl ⟨(Nat.le_of_ble_eq_true rfl), (Nat.le_of_ble_eq_true rfl)⟩
theorem okf1_letIn (x0 : Nat) (x1 : Int32) (x2 : Int32) (w : Wd) : ∀ z, f1_letIn x0 x1 x2 w = some z → OkM mX1_letIn 1 0 0 [vR x0, vI x1, vI x2] w (rtI z.1) z.2 :=
  OkM.of (rt := rtI) moX1_letIn (Nat.le_of_ble_eq_true rfl) (fun X => wpf1_letIn X w x0 x1 x2 w)
def tbX4_init : List (Nat × Instr × Nat) := [(0, .aload_n 0, 1), (1, .invokespecial 3, 3), (4, .aload_n 0, 1), (5, .bipush 40, 2), (7, .newarray .int, 2), (9, .putfield 9, 3), (12, .aload_n 0, 1), (13, .iload_n 1, 1), (14, .putfield 15, 3), (17, .aload_n 0, 1), (18, .aload_n 2, 1), (19, .putfield 19, 3), (22, .aload_n 0, 1), (23, .iload_n 3, 1), (24, .putfield 22, 3), (27, .aload_n 0, 1), (28, .iload 4, 2), (30, .putfield 25, 3), (33, .return_, 1)]
set_option maxRecDepth 20000 in
theorem dtX4_init : ∀ x ∈ tbX4_init, decode cX4_init x.1 = .ok x.2 := by decide +kernel
noncomputable def f4_init (x0 : Nat) (x1 : Int32) (x2 : Nat) (x3 : Int32) (x4 : Int32) (w : Wd) : Option (Unit × Wd) :=
  ck (tg w x0 = 4) (lw (wN w 20 40) fun w4 => (lw (sR w4 x0 4 (nx w)) fun w6 => (lw (sI w6 x0 0 x1) fun w8 => (lw (sR w8 x0 1 x2) fun w10 => (lw (sI w10 x0 2 x3) fun w12 => (lw (sI w12 x0 3 x4) fun w14 => (some ((), w14))))))))
theorem wpf4_init (X : CX) (w0 : Wd) (x0 : Nat) (x1 : Int32) (x2 : Nat) (x3 : Int32) (x4 : Int32) (w : Wd) : WPe rtV X (mX4_init, 1, 1, 40, w0) 0 0 (f4_init x0 x1 x2 x3 x4 w) 0 [(0, vR x0), (1, vI x1), (2, vR x2), (3, vI x3), (4, vI x4)] [] w := by
  unfold f4_init
  refine WPe_aload_n (pc := 0) 0 (dd dtX4_init 0 rfl) rfl ?_
  refine WPe_ck fun h1 => ?_
  refine WPe_pos (shE h1) (by decide) fun h2 => ?_
  refine WPe_objInit (pc := 1) (dd dtX4_init 1 rfl) h2 (bw_mem2 5 rfl rfl) oi1 oi2 (Nat.le_of_ble_eq_true rfl) (Nat.le_of_ble_eq_true rfl) ?_
  refine WPe_aload_n (pc := 4) 0 (dd dtX4_init 2 rfl) rfl ?_
  refine WPe_bipush (pc := 5) (40 : Int32) (dd dtX4_init 3 rfl) (by decide) ?_
  refine WPe_nx fun n3 => ?_
  refine WPe_newI (pc := 7) (N := 40) (dd dtX4_init 4 rfl) (bw_mem1 61 rfl rfl) (by decide) (by decide) (Nat.le_of_ble_eq_true rfl) ⟨(Nat.le_of_ble_eq_true rfl), (Nat.le_of_ble_eq_true rfl)⟩ ?_
  refine WPe_lw fun w4 e5 => ?_
  refine WPe_putR (pc := 9) (t := 4) (C := RX4) (T := TX4) 4 (dd dtX4_init 5 rfl) (shX n3 e5 (shE h1) (by decide)) rfl (Nat.le_of_ble_eq_true rfl) (bw_mem2 11 rfl rfl) (Or.inr ⟨rfl, rfl, rfl⟩) rfl ?_
  refine WPe_lw fun w6 e7 => ?_
  refine WPe_aload_n (pc := 12) 0 (dd dtX4_init 6 rfl) rfl ?_
  refine WPe_iload_n (pc := 13) 1 (dd dtX4_init 7 rfl) rfl ?_
  refine WPe_putI (pc := 14) (t := 4) (C := RX4) (T := TX4) 0 (dd dtX4_init 8 rfl) (shR e7 (shX n3 e5 (shE h1) (by decide))) rfl (Nat.le_of_ble_eq_true rfl) (bw_mem2 6 rfl rfl) (Or.inr ⟨rfl, rfl, rfl⟩) rfl rfl rfl ?_
  refine WPe_lw fun w8 e9 => ?_
  refine WPe_aload_n (pc := 17) 0 (dd dtX4_init 9 rfl) rfl ?_
  refine WPe_aload_n (pc := 18) 2 (dd dtX4_init 10 rfl) rfl ?_
  refine WPe_putR (pc := 19) (t := 4) (C := RX4) (T := TX4) 1 (dd dtX4_init 11 rfl) (shI e9 (shR e7 (shX n3 e5 (shE h1) (by decide)))) rfl (Nat.le_of_ble_eq_true rfl) (bw_mem2 8 rfl rfl) (Or.inr ⟨rfl, rfl, rfl⟩) rfl ?_
  refine WPe_lw fun w10 e11 => ?_
  refine WPe_aload_n (pc := 22) 0 (dd dtX4_init 12 rfl) rfl ?_
  refine WPe_iload_n (pc := 23) 3 (dd dtX4_init 13 rfl) rfl ?_
  refine WPe_putI (pc := 24) (t := 4) (C := RX4) (T := TX4) 2 (dd dtX4_init 14 rfl) (shR e11 (shI e9 (shR e7 (shX n3 e5 (shE h1) (by decide))))) rfl (Nat.le_of_ble_eq_true rfl) (bw_mem2 9 rfl rfl) (Or.inr ⟨rfl, rfl, rfl⟩) rfl rfl rfl ?_
  refine WPe_lw fun w12 e13 => ?_
  refine WPe_aload_n (pc := 27) 0 (dd dtX4_init 15 rfl) rfl ?_
  refine WPe_iload (pc := 28) 4 (dd dtX4_init 16 rfl) rfl ?_
  refine WPe_putI (pc := 30) (t := 4) (C := RX4) (T := TX4) 3 (dd dtX4_init 17 rfl) (shI e13 (shR e11 (shI e9 (shR e7 (shX n3 e5 (shE h1) (by decide)))))) rfl (Nat.le_of_ble_eq_true rfl) (bw_mem2 10 rfl rfl) (Or.inr ⟨rfl, rfl, rfl⟩) rfl rfl rfl ?_
  refine WPe_lw fun w14 e15 => ?_
  exact WPe_return (pc := 33) (dd dtX4_init 18 rfl) rfl rfl ⟨(Nat.le_of_ble_eq_true rfl), (Nat.le_of_ble_eq_true rfl)⟩
theorem okf4_init (x0 : Nat) (x1 : Int32) (x2 : Nat) (x3 : Int32) (x4 : Int32) (w : Wd) : ∀ z, f4_init x0 x1 x2 x3 x4 w = some z → OkM mX4_init 1 1 40 [vR x0, vI x1, vR x2, vI x3, vI x4] w (rtV z.1) z.2 :=
  OkM.of (rt := rtV) moX4_init (Nat.le_of_ble_eq_true rfl) (fun X => wpf4_init X w x0 x1 x2 x3 x4 w)
