def tbX5_init : List (Nat × Instr × Nat) := [(0, .aload_n 0, 1), (1, .invokespecial 1, 3), (4, .aload_n 0, 1), (5, .new 7, 3), (8, .dup, 1), (9, .invokespecial 9, 3), (12, .putfield 10, 3), (15, .aload_n 0, 1), (16, .getfield 10, 3), (19, .ldc 16, 2), (21, .invokevirtual 18, 3), (24, .aload_n 0, 1), (25, .getfield 10, 3), (28, .invokevirtual 22, 3), (31, .pop, 1), (32, .aload_n 0, 1), (33, .getfield 10, 3), (36, .iconst 0, 1), (37, .invokevirtual 26, 3), (40, .astore_n 1, 1), (41, .aload_n 0, 1), (42, .getfield 10, 3), (45, .iconst 0, 1), (46, .putfield 30, 3), (49, .aload_n 0, 1), (50, .bipush 6, 2), (52, .anewarray 34, 3), (55, .putfield 36, 3), (58, .aload_n 0, 1), (59, .getfield 36, 3), (62, .iconst 0, 1), (63, .aload_n 1, 1), (64, .aastore, 1), (65, .aload_n 0, 1), (66, .iconst 1, 1), (67, .putfield 40, 3), (70, .aload_n 0, 1), (71, .new 43, 3), (74, .dup, 1), (75, .aload_n 1, 1), (76, .invokespecial 45, 3), (79, .putfield 48, 3), (82, .aload_n 0, 1), (83, .new 43, 3), (86, .dup, 1), (87, .aload_n 1, 1), (88, .invokespecial 45, 3), (91, .putfield 52, 3), (94, .aload_n 0, 1), (95, .new 43, 3), (98, .dup, 1), (99, .aload_n 1, 1), (100, .invokespecial 45, 3), (103, .putfield 55, 3), (106, .aload_n 0, 1), (107, .iconst 4, 1), (108, .anewarray 58, 3), (111, .putfield 60, 3), (114, .iconst 0, 1), (115, .istore_n 2, 1), (116, .iload_n 2, 1), (117, .aload_n 0, 1), (118, .getfield 60, 3), (121, .arraylength, 1), (122, .if_icmp .ge 22, 3), (125, .aload_n 0, 1), (126, .getfield 60, 3), (129, .iload_n 2, 1), (130, .new 58, 3), (133, .dup, 1), (134, .invokespecial 64, 3), (137, .aastore, 1), (138, .iinc 2 1, 3), (141, .goto (-25), 3), (144, .return_, 1)]
set_option maxRecDepth 20000 in
theorem dtX5_init : ∀ x ∈ tbX5_init, decode cX5_init x.1 = .ok x.2 := by decide +kernel
noncomputable def b5_init_116 (k116 : Nat × Int32 → Wd → Option (Unit × Wd)) (v : Nat × Int32) (w : Wd) : Option (Unit × Wd) :=
  ck (tg w v.1 = 5) (ck (tg w (wr w v.1 7) = 23) (if (Int32.ofNat (ln w (wr w v.1 7))) ≤ v.2 then (some ((), w)) else (lw (wN w 2 0) fun w74 => ((f2_init (nx w) w74).bind fun z77 => (ck (vp_in v.2 (ln z77.2 (wr w v.1 7))) (lw (sR z77.2 (wr w v.1 7) (v.2).toNatClampNeg (nx w)) fun w81 => (k116 (v.1, (v.2 + (1 : Int32))) w81)))))))
theorem wpb5_init_116 (X : CX) (w0 : Wd) (n : Nat) (k116 : Nat × Int32 → Wd → Option (Unit × Wd)) (hk116 : ∀ (c s : Nat), c + n * 2 ≤ 47 → s + n * 43 ≤ 1224 → ∀ (v : Nat × Int32) (w : Wd), WPe rtV X (mX5_init, 51, 47, 1224, w0) c s (k116 v w) 116 [(0, vR v.1), (2, vI v.2)] [] w) (c s : Nat) (hc : c + (n + 1) * 2 ≤ 47) (hs : s + (n + 1) * 43 ≤ 1224) (v : Nat × Int32) (w : Wd) : WPe rtV X (mX5_init, 51, 47, 1224, w0) c s (b5_init_116 k116 v w) 116 [(0, vR v.1), (2, vI v.2)] [] w := by
  unfold b5_init_116
  refine WPe_iload_n (pc := 116) 1 (dd dtX5_init 60 rfl) rfl ?_
  refine WPe_aload_n (pc := 117) 0 (dd dtX5_init 61 rfl) rfl ?_
  refine WPe_ck fun h70 => ?_
  refine WPe_getR (pc := 118) (t := 5) (C := RX5) (T := TX5) 7 (dd dtX5_init 62 rfl) (shE h70) rfl (Nat.le_of_ble_eq_true rfl) rfl (bw_mem2 127 rfl rfl) ?_
  refine WPe_ck fun h71 => ?_
  refine WPe_alen (pc := 121) (dd dtX5_init 63 rfl) (shL (shE h71)) ⟨(Nat.le_of_ble_eq_true rfl), (Nat.le_of_ble_eq_true rfl)⟩ ?_
  refine WPe_icmp_ge (pc := 122) 144 (dd dtX5_init 64 rfl) (by decide) (fun h72 => ?_) (fun h72 => ?_)
  · exact WPe_return (pc := 144) (dd dtX5_init 74 rfl) rfl rfl ⟨by show c + 0 ≤ 47; omega, by show s + 0 ≤ 1224; omega⟩
  · refine WPe_aload_n (pc := 125) 0 (dd dtX5_init 65 rfl) rfl ?_
    refine WPe_getR (pc := 126) (t := 5) (C := RX5) (T := TX5) 7 (dd dtX5_init 66 rfl) (shE h70) rfl (Nat.le_of_ble_eq_true rfl) rfl (bw_mem2 127 rfl rfl) ?_
    refine WPe_iload_n (pc := 129) 1 (dd dtX5_init 67 rfl) rfl ?_
    refine WPe_nx fun n73 => ?_
    refine WPe_newO (pc := 130) (N := 3) (t := 2) (C := RX2) (T := TX2) (dd dtX5_init 68 rfl) rfl (bw_mem2 100 rfl rfl) (bw_mem2 102 rfl rfl) (bw_mem1 13 rfl rfl) nk2 ⟨by show c + 1 ≤ 47; omega, by show s + 3 ≤ 1224; omega⟩ ?_
    refine WPe_lw fun w74 e75 => ?_
    refine WPe_dup (pc := 133) (dd dtX5_init 69 rfl) rfl ?_
    refine WPe_pos (shN e75) (by decide) fun h76 => ?_
    refine WPe_callI (pc := 134) (rtc := rtV) (Mc := mX2_init) (d' := 1) (mc' := 1) (ms' := 40) [] [vR (nx w), vI v.2, vR (wr w v.1 7)] rfl (dd dtX5_init 70 rfl) (okf2_init (nx w) w74) moX2_init icX2_init ⟨rfl, rfl⟩ (Or.inr ⟨"SteamOnBench", (List.mem_of_getElem? (i := 2) rfl)⟩) h76 rfl (Nat.le_of_ble_eq_true rfl) ⟨(Nat.le_of_ble_eq_true rfl), (Nat.le_of_ble_eq_true rfl)⟩ ⟨by show c + 1 + 1 ≤ 47; omega, by show s + 3 + 40 ≤ 1224; omega⟩ (fun z77 h78 e79 => ?_)
    refine WPe_st (st2 := [vR (nx w), vI v.2, vR (wr w v.1 7)]) rfl ?_
    refine WPe_ck fun h80 => ?_
    refine WPe_aast (pc := 137) (T := TX2) (N := 3) (dd dtX5_init 71 rfl) (shL (e79.at (shX n73 e75 (shE h71) (by decide)) (by decide))) ⟨(Nat.le_of_ble_eq_true rfl), (Nat.le_of_ble_eq_true rfl)⟩ h80 (e79.at (shN e75) (by decide)) rfl ?_
    refine WPe_lw fun w81 e82 => ?_
    refine WPe_iinc (pc := 138) (ls' := [(2, vI (v.2 + (1 : Int32))), (0, vR v.1)]) 1 (v.2 + (1 : Int32)) (dd dtX5_init 72 rfl) rfl (congrArg (HAdd.hAdd _) (by decide : Int32.ofInt (1) = (1 : Int32))) (Nat.le_of_ble_eq_true rfl) rfl ?_
    refine WPe_goto (pc := 141) 116 (dd dtX5_init 73 rfl) (by decide) ?_
    refine WPe_sub [1, 0] rfl ?_
    exact hk116 _ _ (by omega) (by omega) _ _
theorem wplb5_init_116 (X : CX) (w0 : Wd)  : ∀ (n c s : Nat), c + n * 2 ≤ 47 → s + n * 43 ≤ 1224 → ∀ (v : Nat × Int32) (w : Wd), WPe rtV X (mX5_init, 51, 47, 1224, w0) c s (loopF (b5_init_116 ) n v w) 116 [(0, vR v.1), (2, vI v.2)] [] w :=
  WPe_loopC (rt := rtV) (X := X) (M := (mX5_init, 51, 47, 1224, w0)) (fun v : Nat × Int32 => [(0, vR v.1), (2, vI v.2)]) (fun k n hk c s h1 h2 v w => wpb5_init_116 X w0 n  k hk c s h1 h2 v w)
noncomputable def f5_init (x0 : Nat) (w : Wd) : Option (Unit × Wd) :=
  ck (tg w x0 = 5) (lw (wN w 3 0) fun w4 => ((f3_init (nx w) w4).bind fun z7 => (lw (sR z7.2 x0 0 (nx w)) fun w10 => (ck (tg w10 (wr w10 x0 0) = 3) ((f3_addAll (wr w10 x0 0) (2 : Nat) w10).bind fun z13 => (ck (tg z13.2 (wr z13.2 x0 0) = 3) ((f3_faultPlace (wr z13.2 x0 0) z13.2).bind fun z17 => (ck (tg z17.2 (wr z17.2 x0 0) = 3) ((f3_textRead (wr z17.2 x0 0) (0 : Int32) z17.2).bind fun z21 => (ck (tg z21.2 (wr z21.2 x0 0) = 3) (lw (sI z21.2 (wr z21.2 x0 0) 1 (0 : Int32)) fun w25 => (lw (wN w25 21 6) fun w28 => (lw (sR w28 x0 1 (nx w25)) fun w30 => (ck (tg w30 (wr w30 x0 1) = 21 ∧ vp_in (0 : Int32) (ln w30 (wr w30 x0 1))) (ck (tg w30 z21.1 = 4) (lw (sR w30 (wr w30 x0 1) ((0 : Int32)).toNatClampNeg z21.1) fun w34 => (lw (sI w34 x0 2 (1 : Int32)) fun w36 => (lw (wN w36 1 0) fun w39 => ((f1_init (nx w36) z21.1 w39).bind fun z42 => (lw (sR z42.2 x0 3 (nx w36)) fun w45 => (lw (wN w45 1 0) fun w48 => ((f1_init (nx w45) z21.1 w48).bind fun z51 => (lw (sR z51.2 x0 4 (nx w45)) fun w54 => (lw (wN w54 1 0) fun w57 => ((f1_init (nx w54) z21.1 w57).bind fun z60 => (lw (sR z60.2 x0 5 (nx w54)) fun w63 => (lw (wN w63 23 4) fun w66 => (lw (sR w66 x0 7 (nx w63)) fun w68 => (loopF (b5_init_116) 5 (x0, (0 : Int32)) w68)))))))))))))))))))))))))))))
theorem wpf5_init (X : CX) (w0 : Wd) (x0 : Nat) (w : Wd) : WPe rtV X (mX5_init, 51, 47, 1224, w0) 0 0 (f5_init x0 w) 0 [(0, vR x0)] [] w := by
  unfold f5_init
  refine WPe_aload_n (pc := 0) 0 (dd dtX5_init 0 rfl) rfl ?_
  refine WPe_ck fun h1 => ?_
  refine WPe_pos (shE h1) (by decide) fun h2 => ?_
  refine WPe_objInit (pc := 1) (dd dtX5_init 1 rfl) h2 (bw_mem1 20 rfl rfl) oi1 oi2 (Nat.le_of_ble_eq_true rfl) (Nat.le_of_ble_eq_true rfl) ?_
  refine WPe_aload_n (pc := 4) 0 (dd dtX5_init 2 rfl) rfl ?_
  refine WPe_nx fun n3 => ?_
  refine WPe_newO (pc := 5) (N := 10) (t := 3) (C := RX3) (T := TX3) (dd dtX5_init 3 rfl) rfl (bw_mem1 23 rfl rfl) (bw_mem1 24 rfl rfl) (bw_mem1 2 rfl rfl) nk3 ⟨(Nat.le_of_ble_eq_true rfl), (Nat.le_of_ble_eq_true rfl)⟩ ?_
  refine WPe_lw fun w4 e5 => ?_
  refine WPe_dup (pc := 8) (dd dtX5_init 4 rfl) rfl ?_
  refine WPe_pos (shN e5) (by decide) fun h6 => ?_
  refine WPe_callI (pc := 9) (rtc := rtV) (Mc := mX3_init) (d' := 1) (mc' := 4) (ms' := 640) [] [vR (nx w), vR x0] rfl (dd dtX5_init 5 rfl) (okf3_init (nx w) w4) moX3_init icX3_init ⟨rfl, rfl⟩ (Or.inr ⟨"SteamOnBench", (List.mem_of_getElem? (i := 0) rfl)⟩) h6 rfl (Nat.le_of_ble_eq_true rfl) ⟨(Nat.le_of_ble_eq_true rfl), (Nat.le_of_ble_eq_true rfl)⟩ ⟨(Nat.le_of_ble_eq_true rfl), (Nat.le_of_ble_eq_true rfl)⟩ (fun z7 h8 e9 => ?_)
  refine WPe_st (st2 := [vR (nx w), vR x0]) rfl ?_
  refine WPe_putR (pc := 12) (t := 5) (C := RX5) (T := TX5) 0 (dd dtX5_init 6 rfl) (e9.at (shX n3 e5 (shE h1) (by decide)) (by decide)) rfl (Nat.le_of_ble_eq_true rfl) (bw_mem2 120 rfl rfl) (Or.inr ⟨rfl, rfl, rfl⟩) rfl ?_
  refine WPe_lw fun w10 e11 => ?_
  refine WPe_aload_n (pc := 15) 0 (dd dtX5_init 7 rfl) rfl ?_
  refine WPe_getR (pc := 16) (t := 5) (C := RX5) (T := TX5) 0 (dd dtX5_init 8 rfl) (shR e11 (e9.at (shX n3 e5 (shE h1) (by decide)) (by decide))) rfl (Nat.le_of_ble_eq_true rfl) rfl (bw_mem2 120 rfl rfl) ?_
  refine WPe_ldcS (pc := 19) 2 (dd dtX5_init 9 rfl) (Nat.le_of_ble_eq_true rfl) (Nat.le_of_ble_eq_true rfl) rfl ?_
  refine WPe_ck fun h12 => ?_
  refine WPe_callV (pc := 21) (rtc := rtV) (Mc := mX3_addAll) (d' := 5) (mc' := 0) (ms' := 0) [vR (2 : Nat)] [] rfl (dd dtX5_init 10 rfl) (okf3_addAll (wr w10 x0 0) (2 : Nat) w10) moX3_addAll miX3_addAll (bw_mem1 63 rfl rfl) (Or.inl ⟨_, _, _, _, (shE h12), rfl⟩) rfl (Nat.le_of_ble_eq_true rfl) ⟨(Nat.le_of_ble_eq_true rfl), (Nat.le_of_ble_eq_true rfl)⟩ ⟨(Nat.le_of_ble_eq_true rfl), (Nat.le_of_ble_eq_true rfl)⟩ (fun z13 h14 e15 => ?_)
  refine WPe_st (st2 := []) rfl ?_
  refine WPe_aload_n (pc := 24) 0 (dd dtX5_init 11 rfl) rfl ?_
  refine WPe_getR (pc := 25) (t := 5) (C := RX5) (T := TX5) 0 (dd dtX5_init 12 rfl) (e15.at (shR e11 (e9.at (shX n3 e5 (shE h1) (by decide)) (by decide))) (by decide)) rfl (Nat.le_of_ble_eq_true rfl) rfl (bw_mem2 120 rfl rfl) ?_
  refine WPe_ck fun h16 => ?_
  refine WPe_callV (pc := 28) (rtc := rtI) (Mc := mX3_faultPlace) (d' := 50) (mc' := 0) (ms' := 0) [] [] rfl (dd dtX5_init 13 rfl) (okf3_faultPlace (wr z13.2 x0 0) z13.2) moX3_faultPlace miX3_faultPlace (bw_mem1 123 rfl rfl) (Or.inl ⟨_, _, _, _, (shE h16), rfl⟩) rfl (Nat.le_of_ble_eq_true rfl) ⟨(Nat.le_of_ble_eq_true rfl), (Nat.le_of_ble_eq_true rfl)⟩ ⟨(Nat.le_of_ble_eq_true rfl), (Nat.le_of_ble_eq_true rfl)⟩ (fun z17 h18 e19 => ?_)
  refine WPe_st (st2 := [vI z17.1]) rfl ?_
  refine WPe_pop (pc := 31) (dd dtX5_init 14 rfl) rfl ?_
  refine WPe_aload_n (pc := 32) 0 (dd dtX5_init 15 rfl) rfl ?_
  refine WPe_getR (pc := 33) (t := 5) (C := RX5) (T := TX5) 0 (dd dtX5_init 16 rfl) (e19.at (e15.at (shR e11 (e9.at (shX n3 e5 (shE h1) (by decide)) (by decide))) (by decide)) (by decide)) rfl (Nat.le_of_ble_eq_true rfl) rfl (bw_mem2 120 rfl rfl) ?_
  refine WPe_iconst (pc := 36) (0 : Int32) (dd dtX5_init 17 rfl) (by decide) ?_
  refine WPe_ck fun h20 => ?_
  refine WPe_callV (pc := 37) (rtc := rtR) (Mc := mX3_textRead) (d' := 2) (mc' := 3) (ms' := 205) [vI (0 : Int32)] [] rfl (dd dtX5_init 18 rfl) (okf3_textRead (wr z17.2 x0 0) (0 : Int32) z17.2) moX3_textRead miX3_textRead (bw_mem1 220 rfl rfl) (Or.inl ⟨_, _, _, _, (shE h20), rfl⟩) rfl (Nat.le_of_ble_eq_true rfl) ⟨(Nat.le_of_ble_eq_true rfl), (Nat.le_of_ble_eq_true rfl)⟩ ⟨(Nat.le_of_ble_eq_true rfl), (Nat.le_of_ble_eq_true rfl)⟩ (fun z21 h22 e23 => ?_)
  refine WPe_st (st2 := [vR z21.1]) rfl ?_
  refine WPe_astore_n (pc := 40) (ls' := [(1, vR z21.1), (0, vR x0)]) (dd dtX5_init 19 rfl) (Nat.le_of_ble_eq_true rfl) rfl ?_
  refine WPe_aload_n (pc := 41) 1 (dd dtX5_init 20 rfl) rfl ?_
  refine WPe_getR (pc := 42) (t := 5) (C := RX5) (T := TX5) 0 (dd dtX5_init 21 rfl) (e23.at (e19.at (e15.at (shR e11 (e9.at (shX n3 e5 (shE h1) (by decide)) (by decide))) (by decide)) (by decide)) (by decide)) rfl (Nat.le_of_ble_eq_true rfl) rfl (bw_mem2 120 rfl rfl) ?_
  refine WPe_iconst (pc := 45) (0 : Int32) (dd dtX5_init 22 rfl) (by decide) ?_
  refine WPe_ck fun h24 => ?_
  refine WPe_putI (pc := 46) (t := 3) (C := RX3) (T := TX3) 1 (dd dtX5_init 23 rfl) (shE h24) rfl (Nat.le_of_ble_eq_true rfl) (bw_mem1 30 rfl rfl) (Or.inl rfl) rfl rfl rfl ?_
  refine WPe_lw fun w25 e26 => ?_
  refine WPe_aload_n (pc := 49) 1 (dd dtX5_init 24 rfl) rfl ?_
  refine WPe_bipush (pc := 50) (6 : Int32) (dd dtX5_init 25 rfl) (by decide) ?_
  refine WPe_nx fun n27 => ?_
  refine WPe_newQ (pc := 52) (N := 6) (t := 21) (dd dtX5_init 26 rfl) ⟨(Nat.le_of_ble_eq_true rfl), (Nat.le_of_ble_eq_true rfl)⟩ (bw_mem2 24 rfl rfl) (by decide +kernel) (by decide) (by decide) (Nat.le_of_ble_eq_true rfl) ⟨(Nat.le_of_ble_eq_true rfl), (Nat.le_of_ble_eq_true rfl)⟩ ?_
  refine WPe_lw fun w28 e29 => ?_
  refine WPe_putR (pc := 55) (t := 5) (C := RX5) (T := TX5) 1 (dd dtX5_init 27 rfl) (shX n27 e29 (shI e26 (e23.at (e19.at (e15.at (shR e11 (e9.at (shX n3 e5 (shE h1) (by decide)) (by decide))) (by decide)) (by decide)) (by decide))) (by decide)) rfl (Nat.le_of_ble_eq_true rfl) (bw_mem2 121 rfl rfl) (Or.inr ⟨rfl, rfl, rfl⟩) rfl ?_
  refine WPe_lw fun w30 e31 => ?_
  refine WPe_aload_n (pc := 58) 1 (dd dtX5_init 28 rfl) rfl ?_
  refine WPe_getR (pc := 59) (t := 5) (C := RX5) (T := TX5) 1 (dd dtX5_init 29 rfl) (shR e31 (shX n27 e29 (shI e26 (e23.at (e19.at (e15.at (shR e11 (e9.at (shX n3 e5 (shE h1) (by decide)) (by decide))) (by decide)) (by decide)) (by decide))) (by decide))) rfl (Nat.le_of_ble_eq_true rfl) rfl (bw_mem2 121 rfl rfl) ?_
  refine WPe_iconst (pc := 62) (0 : Int32) (dd dtX5_init 30 rfl) (by decide) ?_
  refine WPe_aload_n (pc := 63) 0 (dd dtX5_init 31 rfl) rfl ?_
  refine WPe_ck fun h32 => ?_
  refine WPe_ck fun h33 => ?_
  refine WPe_aast (pc := 64) (T := TX4) (N := 5) (dd dtX5_init 32 rfl) (shE h32.1) ⟨(Nat.le_of_ble_eq_true rfl), (Nat.le_of_ble_eq_true rfl)⟩ h32.2 (shE h33) rfl ?_
  refine WPe_lw fun w34 e35 => ?_
  refine WPe_aload_n (pc := 65) 1 (dd dtX5_init 33 rfl) rfl ?_
  refine WPe_iconst (pc := 66) (1 : Int32) (dd dtX5_init 34 rfl) (by decide) ?_
  refine WPe_putI (pc := 67) (t := 5) (C := RX5) (T := TX5) 2 (dd dtX5_init 35 rfl) (shR e35 (shR e31 (shX n27 e29 (shI e26 (e23.at (e19.at (e15.at (shR e11 (e9.at (shX n3 e5 (shE h1) (by decide)) (by decide))) (by decide)) (by decide)) (by decide))) (by decide)))) rfl (Nat.le_of_ble_eq_true rfl) (bw_mem2 122 rfl rfl) (Or.inl rfl) rfl rfl rfl ?_
  refine WPe_lw fun w36 e37 => ?_
  refine WPe_aload_n (pc := 70) 1 (dd dtX5_init 36 rfl) rfl ?_
  refine WPe_nx fun n38 => ?_
  refine WPe_newO (pc := 71) (N := 7) (t := 1) (C := RX1) (T := TX1) (dd dtX5_init 37 rfl) rfl (bw_mem2 26 rfl rfl) (bw_mem2 27 rfl rfl) (bw_mem1 11 rfl rfl) nk1 ⟨(Nat.le_of_ble_eq_true rfl), (Nat.le_of_ble_eq_true rfl)⟩ ?_
  refine WPe_lw fun w39 e40 => ?_
  refine WPe_dup (pc := 74) (dd dtX5_init 38 rfl) rfl ?_
  refine WPe_aload_n (pc := 75) 0 (dd dtX5_init 39 rfl) rfl ?_
  refine WPe_pos (shN e40) (by decide) fun h41 => ?_
  refine WPe_callI (pc := 76) (rtc := rtV) (Mc := mX1_init) (d' := 2) (mc' := 8) (ms' := 41) [vR z21.1] [vR (nx w36), vR x0] rfl (dd dtX5_init 40 rfl) (okf1_init (nx w36) z21.1 w39) moX1_init icX1_init ⟨rfl, rfl⟩ (Or.inl (bw_mem2 28 rfl rfl)) h41 rfl (Nat.le_of_ble_eq_true rfl) ⟨(Nat.le_of_ble_eq_true rfl), (Nat.le_of_ble_eq_true rfl)⟩ ⟨(Nat.le_of_ble_eq_true rfl), (Nat.le_of_ble_eq_true rfl)⟩ (fun z42 h43 e44 => ?_)
  refine WPe_st (st2 := [vR (nx w36), vR x0]) rfl ?_
  refine WPe_putR (pc := 79) (t := 5) (C := RX5) (T := TX5) 3 (dd dtX5_init 41 rfl) (e44.at (shX n38 e40 (shI e37 (shR e35 (shR e31 (shX n27 e29 (shI e26 (e23.at (e19.at (e15.at (shR e11 (e9.at (shX n3 e5 (shE h1) (by decide)) (by decide))) (by decide)) (by decide)) (by decide))) (by decide))))) (by decide)) (by decide)) rfl (Nat.le_of_ble_eq_true rfl) (bw_mem2 123 rfl rfl) (Or.inr ⟨rfl, rfl, rfl⟩) rfl ?_
  refine WPe_lw fun w45 e46 => ?_
  refine WPe_aload_n (pc := 82) 1 (dd dtX5_init 42 rfl) rfl ?_
  refine WPe_nx fun n47 => ?_
  refine WPe_newO (pc := 83) (N := 7) (t := 1) (C := RX1) (T := TX1) (dd dtX5_init 43 rfl) rfl (bw_mem2 26 rfl rfl) (bw_mem2 27 rfl rfl) (bw_mem1 11 rfl rfl) nk1 ⟨(Nat.le_of_ble_eq_true rfl), (Nat.le_of_ble_eq_true rfl)⟩ ?_
  refine WPe_lw fun w48 e49 => ?_
  refine WPe_dup (pc := 86) (dd dtX5_init 44 rfl) rfl ?_
  refine WPe_aload_n (pc := 87) 0 (dd dtX5_init 45 rfl) rfl ?_
  refine WPe_pos (shN e49) (by decide) fun h50 => ?_
  refine WPe_callI (pc := 88) (rtc := rtV) (Mc := mX1_init) (d' := 2) (mc' := 8) (ms' := 41) [vR z21.1] [vR (nx w45), vR x0] rfl (dd dtX5_init 46 rfl) (okf1_init (nx w45) z21.1 w48) moX1_init icX1_init ⟨rfl, rfl⟩ (Or.inl (bw_mem2 28 rfl rfl)) h50 rfl (Nat.le_of_ble_eq_true rfl) ⟨(Nat.le_of_ble_eq_true rfl), (Nat.le_of_ble_eq_true rfl)⟩ ⟨(Nat.le_of_ble_eq_true rfl), (Nat.le_of_ble_eq_true rfl)⟩ (fun z51 h52 e53 => ?_)
  refine WPe_st (st2 := [vR (nx w45), vR x0]) rfl ?_
  refine WPe_putR (pc := 91) (t := 5) (C := RX5) (T := TX5) 4 (dd dtX5_init 47 rfl) (e53.at (shX n47 e49 (shR e46 (e44.at (shX n38 e40 (shI e37 (shR e35 (shR e31 (shX n27 e29 (shI e26 (e23.at (e19.at (e15.at (shR e11 (e9.at (shX n3 e5 (shE h1) (by decide)) (by decide))) (by decide)) (by decide)) (by decide))) (by decide))))) (by decide)) (by decide))) (by decide)) (by decide)) rfl (Nat.le_of_ble_eq_true rfl) (bw_mem2 124 rfl rfl) (Or.inr ⟨rfl, rfl, rfl⟩) rfl ?_
  refine WPe_lw fun w54 e55 => ?_
  refine WPe_aload_n (pc := 94) 1 (dd dtX5_init 48 rfl) rfl ?_
  refine WPe_nx fun n56 => ?_
  refine WPe_newO (pc := 95) (N := 7) (t := 1) (C := RX1) (T := TX1) (dd dtX5_init 49 rfl) rfl (bw_mem2 26 rfl rfl) (bw_mem2 27 rfl rfl) (bw_mem1 11 rfl rfl) nk1 ⟨(Nat.le_of_ble_eq_true rfl), (Nat.le_of_ble_eq_true rfl)⟩ ?_
  refine WPe_lw fun w57 e58 => ?_
  refine WPe_dup (pc := 98) (dd dtX5_init 50 rfl) rfl ?_
  refine WPe_aload_n (pc := 99) 0 (dd dtX5_init 51 rfl) rfl ?_
  refine WPe_pos (shN e58) (by decide) fun h59 => ?_
  refine WPe_callI (pc := 100) (rtc := rtV) (Mc := mX1_init) (d' := 2) (mc' := 8) (ms' := 41) [vR z21.1] [vR (nx w54), vR x0] rfl (dd dtX5_init 52 rfl) (okf1_init (nx w54) z21.1 w57) moX1_init icX1_init ⟨rfl, rfl⟩ (Or.inl (bw_mem2 28 rfl rfl)) h59 rfl (Nat.le_of_ble_eq_true rfl) ⟨(Nat.le_of_ble_eq_true rfl), (Nat.le_of_ble_eq_true rfl)⟩ ⟨(Nat.le_of_ble_eq_true rfl), (Nat.le_of_ble_eq_true rfl)⟩ (fun z60 h61 e62 => ?_)
  refine WPe_st (st2 := [vR (nx w54), vR x0]) rfl ?_
  refine WPe_putR (pc := 103) (t := 5) (C := RX5) (T := TX5) 5 (dd dtX5_init 53 rfl) (e62.at (shX n56 e58 (shR e55 (e53.at (shX n47 e49 (shR e46 (e44.at (shX n38 e40 (shI e37 (shR e35 (shR e31 (shX n27 e29 (shI e26 (e23.at (e19.at (e15.at (shR e11 (e9.at (shX n3 e5 (shE h1) (by decide)) (by decide))) (by decide)) (by decide)) (by decide))) (by decide))))) (by decide)) (by decide))) (by decide)) (by decide))) (by decide)) (by decide)) rfl (Nat.le_of_ble_eq_true rfl) (bw_mem2 125 rfl rfl) (Or.inr ⟨rfl, rfl, rfl⟩) rfl ?_
  refine WPe_lw fun w63 e64 => ?_
  refine WPe_aload_n (pc := 106) 1 (dd dtX5_init 54 rfl) rfl ?_
  refine WPe_iconst (pc := 107) (4 : Int32) (dd dtX5_init 55 rfl) (by decide) ?_
  refine WPe_nx fun n65 => ?_
  refine WPe_newQ (pc := 108) (N := 4) (t := 23) (dd dtX5_init 56 rfl) ⟨(Nat.le_of_ble_eq_true rfl), (Nat.le_of_ble_eq_true rfl)⟩ (bw_mem2 100 rfl rfl) (by decide +kernel) (by decide) (by decide) (Nat.le_of_ble_eq_true rfl) ⟨(Nat.le_of_ble_eq_true rfl), (Nat.le_of_ble_eq_true rfl)⟩ ?_
  refine WPe_lw fun w66 e67 => ?_
  refine WPe_putR (pc := 111) (t := 5) (C := RX5) (T := TX5) 7 (dd dtX5_init 57 rfl) (shX n65 e67 (shR e64 (e62.at (shX n56 e58 (shR e55 (e53.at (shX n47 e49 (shR e46 (e44.at (shX n38 e40 (shI e37 (shR e35 (shR e31 (shX n27 e29 (shI e26 (e23.at (e19.at (e15.at (shR e11 (e9.at (shX n3 e5 (shE h1) (by decide)) (by decide))) (by decide)) (by decide)) (by decide))) (by decide))))) (by decide)) (by decide))) (by decide)) (by decide))) (by decide)) (by decide))) (by decide)) rfl (Nat.le_of_ble_eq_true rfl) (bw_mem2 127 rfl rfl) (Or.inr ⟨rfl, rfl, rfl⟩) rfl ?_
  refine WPe_lw fun w68 e69 => ?_
  refine WPe_iconst (pc := 114) (0 : Int32) (dd dtX5_init 58 rfl) (by decide) ?_
  refine WPe_istore_n (pc := 115) (ls' := [(2, vI (0 : Int32)), (1, vR z21.1), (0, vR x0)]) (dd dtX5_init 59 rfl) (Nat.le_of_ble_eq_true rfl) rfl ?_
  refine WPe_sub [2, 0] rfl ?_
  exact wplb5_init_116 X w0  5 _ _ (by omega) (by omega) _ _
theorem okf5_init (x0 : Nat) (w : Wd) : ∀ z, f5_init x0 w = some z → OkM mX5_init 51 47 1224 [vR x0] w (rtV z.1) z.2 :=
  OkM.of (rt := rtV) moX5_init (Nat.le_of_ble_eq_true rfl) (fun X => wpf5_init X w x0 w)
def tbX5_count : List (Nat × Instr × Nat) := [(0, .iload_n 1, 1), (1, .tableswitch 87 0 5 #[39, 47, 55, 63, 68, 79], 39), (40, .aload_n 0, 1), (41, .getfield 48, 3), (44, .getfield 65, 3), (47, .ireturn, 1), (48, .aload_n 0, 1), (49, .getfield 48, 3), (52, .invokevirtual 68, 3), (55, .ireturn, 1), (56, .aload_n 0, 1), (57, .getfield 48, 3), (60, .invokevirtual 71, 3), (63, .ireturn, 1), (64, .aload_n 0, 1), (65, .getfield 40, 3), (68, .ireturn, 1), (69, .aload_n 0, 1), (70, .getfield 48, 3), (73, .getfield 74, 3), (76, .getfield 78, 3), (79, .ireturn, 1), (80, .aload_n 0, 1), (81, .getfield 10, 3), (84, .getfield 30, 3), (87, .ireturn, 1), (88, .bipush (-2), 2), (90, .ireturn, 1)]
set_option maxRecDepth 20000 in
theorem dtX5_count : ∀ x ∈ tbX5_count, decode cX5_count x.1 = .ok x.2 := by decide +kernel
noncomputable def f5_count (x0 : Nat) (x1 : Int32) (w : Wd) : Option (Int32 × Wd) :=
  if x1 = (0 : Int32) then (ck (tg w x0 = 5) (ck (tg w (wr w x0 3) = 1) (some ((wi w (wr w x0 3) 4), w)))) else (if x1 = (1 : Int32) then (ck (tg w x0 = 5) (ck (tg w (wr w x0 3) = 1) ((f1_bathersIn (wr w x0 3) w).bind fun z7 => (some (z7.1, z7.2))))) else (if x1 = (2 : Int32) then (ck (tg w x0 = 5) (ck (tg w (wr w x0 3) = 1) ((f1_joyOfAll (wr w x0 3) w).bind fun z13 => (some (z13.1, z13.2))))) else (if x1 = (3 : Int32) then (ck (tg w x0 = 5) (some ((wi w x0 2), w))) else (if x1 = (4 : Int32) then (ck (tg w x0 = 5) (ck (tg w (wr w x0 3) = 1) (ck (tg w (wr w (wr w x0 3) 5) = 4) (some ((wi w (wr w (wr w x0 3) 5) 0), w))))) else (if x1 = (5 : Int32) then (ck (tg w x0 = 5) (ck (tg w (wr w x0 0) = 3) (some ((wi w (wr w x0 0) 1), w)))) else (some ((-2 : Int32), w)))))))
theorem wpf5_count (X : CX) (w0 : Wd) (x0 : Nat) (x1 : Int32) (w : Wd) : WPe rtI X (mX5_count, 2, 0, 0, w0) 0 0 (f5_count x0 x1 w) 0 [(0, vR x0), (1, vI x1)] [] w := by
  unfold f5_count
  refine WPe_iload_n (pc := 0) 1 (dd dtX5_count 0 rfl) rfl ?_
  refine WPe_ite (fun h1 => ?_) (fun h1 => ?_)
  · refine WPe_tabIn (pc := 1) (0 : Int32) 40 (dd dtX5_count 1 rfl) h1 (by decide) (by decide) rfl (by decide) ?_
    refine WPe_aload_n (pc := 40) 0 (dd dtX5_count 2 rfl) rfl ?_
    refine WPe_ck fun h2 => ?_
    refine WPe_getR (pc := 41) (t := 5) (C := RX5) (T := TX5) 3 (dd dtX5_count 3 rfl) (shE h2) rfl (Nat.le_of_ble_eq_true rfl) rfl (bw_mem2 123 rfl rfl) ?_
    refine WPe_ck fun h3 => ?_
    refine WPe_getI (pc := 44) (t := 1) (C := RX1) (T := TX1) 4 (dd dtX5_count 4 rfl) (shE h3) rfl (Nat.le_of_ble_eq_true rfl) rfl (bw_mem2 80 rfl rfl) ?_
    exact WPe_ireturn (pc := 47) (dd dtX5_count 5 rfl) rfl rfl ⟨(Nat.le_of_ble_eq_true rfl), (Nat.le_of_ble_eq_true rfl)⟩
  · refine WPe_ite (fun h4 => ?_) (fun h4 => ?_)
    · refine WPe_tabIn (pc := 1) (1 : Int32) 48 (dd dtX5_count 1 rfl) h4 (by decide) (by decide) rfl (by decide) ?_
      refine WPe_aload_n (pc := 48) 0 (dd dtX5_count 6 rfl) rfl ?_
      refine WPe_ck fun h5 => ?_
      refine WPe_getR (pc := 49) (t := 5) (C := RX5) (T := TX5) 3 (dd dtX5_count 7 rfl) (shE h5) rfl (Nat.le_of_ble_eq_true rfl) rfl (bw_mem2 123 rfl rfl) ?_
      refine WPe_ck fun h6 => ?_
      refine WPe_callV (pc := 52) (rtc := rtI) (Mc := mX1_bathersIn) (d' := 1) (mc' := 0) (ms' := 0) [] [] rfl (dd dtX5_count 8 rfl) (okf1_bathersIn (wr w x0 3) w) moX1_bathersIn miX1_bathersIn (bw_mem2 149 rfl rfl) (Or.inl ⟨_, _, _, _, (shE h6), rfl⟩) rfl (Nat.le_of_ble_eq_true rfl) ⟨(Nat.le_of_ble_eq_true rfl), (Nat.le_of_ble_eq_true rfl)⟩ ⟨(Nat.le_of_ble_eq_true rfl), (Nat.le_of_ble_eq_true rfl)⟩ (fun z7 h8 e9 => ?_)
      refine WPe_st (st2 := [vI z7.1]) rfl ?_
      exact WPe_ireturn (pc := 55) (dd dtX5_count 9 rfl) rfl rfl ⟨(Nat.le_of_ble_eq_true rfl), (Nat.le_of_ble_eq_true rfl)⟩
    · refine WPe_ite (fun h10 => ?_) (fun h10 => ?_)
      · refine WPe_tabIn (pc := 1) (2 : Int32) 56 (dd dtX5_count 1 rfl) h10 (by decide) (by decide) rfl (by decide) ?_
        refine WPe_aload_n (pc := 56) 0 (dd dtX5_count 10 rfl) rfl ?_
        refine WPe_ck fun h11 => ?_
        refine WPe_getR (pc := 57) (t := 5) (C := RX5) (T := TX5) 3 (dd dtX5_count 11 rfl) (shE h11) rfl (Nat.le_of_ble_eq_true rfl) rfl (bw_mem2 123 rfl rfl) ?_
        refine WPe_ck fun h12 => ?_
        refine WPe_callV (pc := 60) (rtc := rtI) (Mc := mX1_joyOfAll) (d' := 1) (mc' := 0) (ms' := 0) [] [] rfl (dd dtX5_count 12 rfl) (okf1_joyOfAll (wr w x0 3) w) moX1_joyOfAll miX1_joyOfAll (bw_mem2 153 rfl rfl) (Or.inl ⟨_, _, _, _, (shE h12), rfl⟩) rfl (Nat.le_of_ble_eq_true rfl) ⟨(Nat.le_of_ble_eq_true rfl), (Nat.le_of_ble_eq_true rfl)⟩ ⟨(Nat.le_of_ble_eq_true rfl), (Nat.le_of_ble_eq_true rfl)⟩ (fun z13 h14 e15 => ?_)
        refine WPe_st (st2 := [vI z13.1]) rfl ?_
        exact WPe_ireturn (pc := 63) (dd dtX5_count 13 rfl) rfl rfl ⟨(Nat.le_of_ble_eq_true rfl), (Nat.le_of_ble_eq_true rfl)⟩
      · refine WPe_ite (fun h16 => ?_) (fun h16 => ?_)
        · refine WPe_tabIn (pc := 1) (3 : Int32) 64 (dd dtX5_count 1 rfl) h16 (by decide) (by decide) rfl (by decide) ?_
          refine WPe_aload_n (pc := 64) 0 (dd dtX5_count 14 rfl) rfl ?_
          refine WPe_ck fun h17 => ?_
          refine WPe_getI (pc := 65) (t := 5) (C := RX5) (T := TX5) 2 (dd dtX5_count 15 rfl) (shE h17) rfl (Nat.le_of_ble_eq_true rfl) rfl (bw_mem2 122 rfl rfl) ?_
          exact WPe_ireturn (pc := 68) (dd dtX5_count 16 rfl) rfl rfl ⟨(Nat.le_of_ble_eq_true rfl), (Nat.le_of_ble_eq_true rfl)⟩
        · refine WPe_ite (fun h18 => ?_) (fun h18 => ?_)
          · refine WPe_tabIn (pc := 1) (4 : Int32) 69 (dd dtX5_count 1 rfl) h18 (by decide) (by decide) rfl (by decide) ?_
            refine WPe_aload_n (pc := 69) 0 (dd dtX5_count 17 rfl) rfl ?_
            refine WPe_ck fun h19 => ?_
            refine WPe_getR (pc := 70) (t := 5) (C := RX5) (T := TX5) 3 (dd dtX5_count 18 rfl) (shE h19) rfl (Nat.le_of_ble_eq_true rfl) rfl (bw_mem2 123 rfl rfl) ?_
            refine WPe_ck fun h20 => ?_
            refine WPe_getR (pc := 73) (t := 1) (C := RX1) (T := TX1) 5 (dd dtX5_count 19 rfl) (shE h20) rfl (Nat.le_of_ble_eq_true rfl) rfl (bw_mem2 82 rfl rfl) ?_
            refine WPe_ck fun h21 => ?_
            refine WPe_getI (pc := 76) (t := 4) (C := RX4) (T := TX4) 0 (dd dtX5_count 20 rfl) (shE h21) rfl (Nat.le_of_ble_eq_true rfl) rfl (bw_mem2 7 rfl rfl) ?_
            exact WPe_ireturn (pc := 79) (dd dtX5_count 21 rfl) rfl rfl ⟨(Nat.le_of_ble_eq_true rfl), (Nat.le_of_ble_eq_true rfl)⟩
          · refine WPe_ite (fun h22 => ?_) (fun h22 => ?_)
            · refine WPe_tabIn (pc := 1) (5 : Int32) 80 (dd dtX5_count 1 rfl) h22 (by decide) (by decide) rfl (by decide) ?_
              refine WPe_aload_n (pc := 80) 0 (dd dtX5_count 22 rfl) rfl ?_
              refine WPe_ck fun h23 => ?_
              refine WPe_getR (pc := 81) (t := 5) (C := RX5) (T := TX5) 0 (dd dtX5_count 23 rfl) (shE h23) rfl (Nat.le_of_ble_eq_true rfl) rfl (bw_mem2 120 rfl rfl) ?_
              refine WPe_ck fun h24 => ?_
              refine WPe_getI (pc := 84) (t := 3) (C := RX3) (T := TX3) 1 (dd dtX5_count 24 rfl) (shE h24) rfl (Nat.le_of_ble_eq_true rfl) rfl (bw_mem1 30 rfl rfl) ?_
              exact WPe_ireturn (pc := 87) (dd dtX5_count 25 rfl) rfl rfl ⟨(Nat.le_of_ble_eq_true rfl), (Nat.le_of_ble_eq_true rfl)⟩
            · refine WPe_tabOut (pc := 1) 88 (dd dtX5_count 1 rfl) (fun j hj => ?_) (by decide) ?_
              · match j, hj with
                | 0, _ => exact Or.inr (tneq h1 (by decide))
                | 1, _ => exact Or.inr (tneq h4 (by decide))
                | 2, _ => exact Or.inr (tneq h10 (by decide))
                | 3, _ => exact Or.inr (tneq h16 (by decide))
                | 4, _ => exact Or.inr (tneq h18 (by decide))
                | 5, _ => exact Or.inr (tneq h22 (by decide))
                | j + 6, h => exact absurd h (by omega)
              refine WPe_bipush (pc := 88) (-2 : Int32) (dd dtX5_count 26 rfl) (by decide) ?_
              exact WPe_ireturn (pc := 90) (dd dtX5_count 27 rfl) rfl rfl ⟨(Nat.le_of_ble_eq_true rfl), (Nat.le_of_ble_eq_true rfl)⟩
theorem okf5_count (x0 : Nat) (x1 : Int32) (w : Wd) : ∀ z, f5_count x0 x1 w = some z → OkM mX5_count 2 0 0 [vR x0, vI x1] w (rtI z.1) z.2 :=
  OkM.of (rt := rtI) moX5_count (Nat.le_of_ble_eq_true rfl) (fun X => wpf5_count X w x0 x1 w)
def tbX5_hut : List (Nat × Instr × Nat) := [(0, .iload_n 1, 1), (1, .tableswitch 63 0 3 #[31, 39, 47, 55], 31), (32, .aload_n 0, 1), (33, .getfield 48, 3), (36, .getfield 88, 3), (39, .ireturn, 1), (40, .aload_n 0, 1), (41, .getfield 48, 3), (44, .getfield 91, 3), (47, .ireturn, 1), (48, .aload_n 0, 1), (49, .getfield 48, 3), (52, .getfield 94, 3), (55, .ireturn, 1), (56, .aload_n 0, 1), (57, .getfield 48, 3), (60, .getfield 97, 3), (63, .ireturn, 1), (64, .bipush (-2), 2), (66, .ireturn, 1)]
set_option maxRecDepth 20000 in
theorem dtX5_hut : ∀ x ∈ tbX5_hut, decode cX5_hut x.1 = .ok x.2 := by decide +kernel
noncomputable def f5_hut (x0 : Nat) (x1 : Int32) (w : Wd) : Option (Int32 × Wd) :=
  if x1 = (0 : Int32) then (ck (tg w x0 = 5) (ck (tg w (wr w x0 3) = 1) (some ((wi w (wr w x0 3) 0), w)))) else (if x1 = (1 : Int32) then (ck (tg w x0 = 5) (ck (tg w (wr w x0 3) = 1) (some ((wi w (wr w x0 3) 1), w)))) else (if x1 = (2 : Int32) then (ck (tg w x0 = 5) (ck (tg w (wr w x0 3) = 1) (some ((wi w (wr w x0 3) 2), w)))) else (if x1 = (3 : Int32) then (ck (tg w x0 = 5) (ck (tg w (wr w x0 3) = 1) (some ((wi w (wr w x0 3) 3), w)))) else (some ((-2 : Int32), w)))))
theorem wpf5_hut (X : CX) (w0 : Wd) (x0 : Nat) (x1 : Int32) (w : Wd) : WPe rtI X (mX5_hut, 1, 0, 0, w0) 0 0 (f5_hut x0 x1 w) 0 [(0, vR x0), (1, vI x1)] [] w := by
  unfold f5_hut
  refine WPe_iload_n (pc := 0) 1 (dd dtX5_hut 0 rfl) rfl ?_
  refine WPe_ite (fun h1 => ?_) (fun h1 => ?_)
  · refine WPe_tabIn (pc := 1) (0 : Int32) 32 (dd dtX5_hut 1 rfl) h1 (by decide) (by decide) rfl (by decide) ?_
    refine WPe_aload_n (pc := 32) 0 (dd dtX5_hut 2 rfl) rfl ?_
    refine WPe_ck fun h2 => ?_
    refine WPe_getR (pc := 33) (t := 5) (C := RX5) (T := TX5) 3 (dd dtX5_hut 3 rfl) (shE h2) rfl (Nat.le_of_ble_eq_true rfl) rfl (bw_mem2 123 rfl rfl) ?_
    refine WPe_ck fun h3 => ?_
    refine WPe_getI (pc := 36) (t := 1) (C := RX1) (T := TX1) 0 (dd dtX5_hut 4 rfl) (shE h3) rfl (Nat.le_of_ble_eq_true rfl) rfl (bw_mem2 69 rfl rfl) ?_
    exact WPe_ireturn (pc := 39) (dd dtX5_hut 5 rfl) rfl rfl ⟨(Nat.le_of_ble_eq_true rfl), (Nat.le_of_ble_eq_true rfl)⟩
  · refine WPe_ite (fun h4 => ?_) (fun h4 => ?_)
    · refine WPe_tabIn (pc := 1) (1 : Int32) 40 (dd dtX5_hut 1 rfl) h4 (by decide) (by decide) rfl (by decide) ?_
      refine WPe_aload_n (pc := 40) 0 (dd dtX5_hut 6 rfl) rfl ?_
      refine WPe_ck fun h5 => ?_
      refine WPe_getR (pc := 41) (t := 5) (C := RX5) (T := TX5) 3 (dd dtX5_hut 7 rfl) (shE h5) rfl (Nat.le_of_ble_eq_true rfl) rfl (bw_mem2 123 rfl rfl) ?_
      refine WPe_ck fun h6 => ?_
      refine WPe_getI (pc := 44) (t := 1) (C := RX1) (T := TX1) 1 (dd dtX5_hut 8 rfl) (shE h6) rfl (Nat.le_of_ble_eq_true rfl) rfl (bw_mem2 73 rfl rfl) ?_
      exact WPe_ireturn (pc := 47) (dd dtX5_hut 9 rfl) rfl rfl ⟨(Nat.le_of_ble_eq_true rfl), (Nat.le_of_ble_eq_true rfl)⟩
    · refine WPe_ite (fun h7 => ?_) (fun h7 => ?_)
      · refine WPe_tabIn (pc := 1) (2 : Int32) 48 (dd dtX5_hut 1 rfl) h7 (by decide) (by decide) rfl (by decide) ?_
        refine WPe_aload_n (pc := 48) 0 (dd dtX5_hut 10 rfl) rfl ?_
        refine WPe_ck fun h8 => ?_
        refine WPe_getR (pc := 49) (t := 5) (C := RX5) (T := TX5) 3 (dd dtX5_hut 11 rfl) (shE h8) rfl (Nat.le_of_ble_eq_true rfl) rfl (bw_mem2 123 rfl rfl) ?_
        refine WPe_ck fun h9 => ?_
        refine WPe_getI (pc := 52) (t := 1) (C := RX1) (T := TX1) 2 (dd dtX5_hut 12 rfl) (shE h9) rfl (Nat.le_of_ble_eq_true rfl) rfl (bw_mem2 76 rfl rfl) ?_
        exact WPe_ireturn (pc := 55) (dd dtX5_hut 13 rfl) rfl rfl ⟨(Nat.le_of_ble_eq_true rfl), (Nat.le_of_ble_eq_true rfl)⟩
      · refine WPe_ite (fun h10 => ?_) (fun h10 => ?_)
        · refine WPe_tabIn (pc := 1) (3 : Int32) 56 (dd dtX5_hut 1 rfl) h10 (by decide) (by decide) rfl (by decide) ?_
          refine WPe_aload_n (pc := 56) 0 (dd dtX5_hut 14 rfl) rfl ?_
          refine WPe_ck fun h11 => ?_
          refine WPe_getR (pc := 57) (t := 5) (C := RX5) (T := TX5) 3 (dd dtX5_hut 15 rfl) (shE h11) rfl (Nat.le_of_ble_eq_true rfl) rfl (bw_mem2 123 rfl rfl) ?_
          refine WPe_ck fun h12 => ?_
          refine WPe_getI (pc := 60) (t := 1) (C := RX1) (T := TX1) 3 (dd dtX5_hut 16 rfl) (shE h12) rfl (Nat.le_of_ble_eq_true rfl) rfl (bw_mem2 78 rfl rfl) ?_
          exact WPe_ireturn (pc := 63) (dd dtX5_hut 17 rfl) rfl rfl ⟨(Nat.le_of_ble_eq_true rfl), (Nat.le_of_ble_eq_true rfl)⟩
        · refine WPe_tabOut (pc := 1) 64 (dd dtX5_hut 1 rfl) (fun j hj => ?_) (by decide) ?_
          · match j, hj with
            | 0, _ => exact Or.inr (tneq h1 (by decide))
            | 1, _ => exact Or.inr (tneq h4 (by decide))
            | 2, _ => exact Or.inr (tneq h7 (by decide))
            | 3, _ => exact Or.inr (tneq h10 (by decide))
            | j + 4, h => exact absurd h (by omega)
          refine WPe_bipush (pc := 64) (-2 : Int32) (dd dtX5_hut 18 rfl) (by decide) ?_
          exact WPe_ireturn (pc := 66) (dd dtX5_hut 19 rfl) rfl rfl ⟨(Nat.le_of_ble_eq_true rfl), (Nat.le_of_ble_eq_true rfl)⟩
theorem okf5_hut (x0 : Nat) (x1 : Int32) (w : Wd) : ∀ z, f5_hut x0 x1 w = some z → OkM mX5_hut 1 0 0 [vR x0, vI x1] w (rtI z.1) z.2 :=
  OkM.of (rt := rtI) moX5_hut (Nat.le_of_ble_eq_true rfl) (fun X => wpf5_hut X w x0 x1 w)
def tbX5_mostOf : List (Nat × Instr × Nat) := [(0, .iload_n 0, 1), (1, .tableswitch 38 0 2 #[27, 31, 35], 27), (28, .sipush 999, 3), (31, .ireturn, 1), (32, .sipush 999, 3), (35, .ireturn, 1), (36, .bipush 99, 2), (38, .ireturn, 1), (39, .bipush 99, 2), (41, .ireturn, 1)]
set_option maxRecDepth 20000 in
theorem dtX5_mostOf : ∀ x ∈ tbX5_mostOf, decode cX5_mostOf x.1 = .ok x.2 := by decide +kernel
noncomputable def f5_mostOf (x0 : Int32) (w : Wd) : Option (Int32 × Wd) :=
  if x0 = (0 : Int32) then (some ((999 : Int32), w)) else (if x0 = (1 : Int32) then (some ((999 : Int32), w)) else (if x0 = (2 : Int32) then (some ((99 : Int32), w)) else (some ((99 : Int32), w))))
theorem wpf5_mostOf (X : CX) (w0 : Wd) (x0 : Int32) (w : Wd) : WPe rtI X (mX5_mostOf, 1, 0, 0, w0) 0 0 (f5_mostOf x0 w) 0 [(0, vI x0)] [] w := by
  unfold f5_mostOf
  refine WPe_iload_n (pc := 0) 0 (dd dtX5_mostOf 0 rfl) rfl ?_
  refine WPe_ite (fun h1 => ?_) (fun h1 => ?_)
  · refine WPe_tabIn (pc := 1) (0 : Int32) 28 (dd dtX5_mostOf 1 rfl) h1 (by decide) (by decide) rfl (by decide) ?_
    refine WPe_sipush (pc := 28) (999 : Int32) (dd dtX5_mostOf 2 rfl) (by decide) ?_
    exact WPe_ireturn (pc := 31) (dd dtX5_mostOf 3 rfl) rfl rfl ⟨(Nat.le_of_ble_eq_true rfl), (Nat.le_of_ble_eq_true rfl)⟩
  · refine WPe_ite (fun h2 => ?_) (fun h2 => ?_)
    · refine WPe_tabIn (pc := 1) (1 : Int32) 32 (dd dtX5_mostOf 1 rfl) h2 (by decide) (by decide) rfl (by decide) ?_
      refine WPe_sipush (pc := 32) (999 : Int32) (dd dtX5_mostOf 4 rfl) (by decide) ?_
      exact WPe_ireturn (pc := 35) (dd dtX5_mostOf 5 rfl) rfl rfl ⟨(Nat.le_of_ble_eq_true rfl), (Nat.le_of_ble_eq_true rfl)⟩
    · refine WPe_ite (fun h3 => ?_) (fun h3 => ?_)
      · refine WPe_tabIn (pc := 1) (2 : Int32) 36 (dd dtX5_mostOf 1 rfl) h3 (by decide) (by decide) rfl (by decide) ?_
        refine WPe_bipush (pc := 36) (99 : Int32) (dd dtX5_mostOf 6 rfl) (by decide) ?_
        exact WPe_ireturn (pc := 38) (dd dtX5_mostOf 7 rfl) rfl rfl ⟨(Nat.le_of_ble_eq_true rfl), (Nat.le_of_ble_eq_true rfl)⟩
      · refine WPe_tabOut (pc := 1) 39 (dd dtX5_mostOf 1 rfl) (fun j hj => ?_) (by decide) ?_
        · match j, hj with
          | 0, _ => exact Or.inr (tneq h1 (by decide))
          | 1, _ => exact Or.inr (tneq h2 (by decide))
          | 2, _ => exact Or.inr (tneq h3 (by decide))
          | j + 3, h => exact absurd h (by omega)
        refine WPe_bipush (pc := 39) (99 : Int32) (dd dtX5_mostOf 8 rfl) (by decide) ?_
        exact WPe_ireturn (pc := 41) (dd dtX5_mostOf 9 rfl) rfl rfl ⟨(Nat.le_of_ble_eq_true rfl), (Nat.le_of_ble_eq_true rfl)⟩
theorem okf5_mostOf (x0 : Int32) (w : Wd) : ∀ z, f5_mostOf x0 w = some z → OkM mX5_mostOf 1 0 0 [vI x0] w (rtI z.1) z.2 :=
  OkM.of (rt := rtI) moX5_mostOf (Nat.le_of_ble_eq_true rfl) (fun X => wpf5_mostOf X w x0 w)
def tbX5_fire : List (Nat × Instr × Nat) := [(0, .aload_n 0, 1), (1, .iload_n 1, 1), (2, .invokevirtual 81, 3), (5, .istore_n 3, 1), (6, .iload_n 3, 1), (7, .bipush (-2), 2), (9, .if_icmp .eq 15, 3), (12, .iload_n 2, 1), (13, .ifCond .lt 11, 3), (16, .iload_n 2, 1), (17, .iload_n 1, 1), (18, .invokestatic 85, 3), (21, .if_icmp .le 6, 3), (24, .bipush (-2), 2), (26, .ireturn, 1), (27, .iload_n 1, 1), (28, .tableswitch 61 0 2 #[28, 39, 50], 28), (56, .aload_n 0, 1), (57, .getfield 48, 3), (60, .iload_n 2, 1), (61, .putfield 88, 3), (64, .goto 33, 3), (67, .aload_n 0, 1), (68, .getfield 48, 3), (71, .iload_n 2, 1), (72, .putfield 91, 3), (75, .goto 22, 3), (78, .aload_n 0, 1), (79, .getfield 48, 3), (82, .iload_n 2, 1), (83, .putfield 94, 3), (86, .goto 11, 3), (89, .aload_n 0, 1), (90, .getfield 48, 3), (93, .iload_n 2, 1), (94, .putfield 97, 3), (97, .iload_n 3, 1), (98, .ireturn, 1)]
set_option maxRecDepth 20000 in
theorem dtX5_fire : ∀ x ∈ tbX5_fire, decode cX5_fire x.1 = .ok x.2 := by decide +kernel
noncomputable def f5_fire (x0 : Nat) (x1 : Int32) (x2 : Int32) (w : Wd) : Option (Int32 × Wd) :=
  ck (tg w x0 = 5) ((f5_hut x0 x1 w).bind fun z2 => (if z2.1 = (-2 : Int32) then (some ((-2 : Int32), z2.2)) else (if x2 < (0 : Int32) then (some ((-2 : Int32), z2.2)) else ((f5_mostOf x1 z2.2).bind fun z7 => (if x2 ≤ z7.1 then (if x1 = (0 : Int32) then (ck (tg z7.2 (wr z7.2 x0 3) = 1) (lw (sI z7.2 (wr z7.2 x0 3) 0 x2) fun w13 => (some (z2.1, w13)))) else (if x1 = (1 : Int32) then (ck (tg z7.2 (wr z7.2 x0 3) = 1) (lw (sI z7.2 (wr z7.2 x0 3) 1 x2) fun w17 => (some (z2.1, w17)))) else (if x1 = (2 : Int32) then (ck (tg z7.2 (wr z7.2 x0 3) = 1) (lw (sI z7.2 (wr z7.2 x0 3) 2 x2) fun w21 => (some (z2.1, w21)))) else (ck (tg z7.2 (wr z7.2 x0 3) = 1) (lw (sI z7.2 (wr z7.2 x0 3) 3 x2) fun w24 => (some (z2.1, w24))))))) else (some ((-2 : Int32), z7.2)))))))
theorem wpf5_fire (X : CX) (w0 : Wd) (x0 : Nat) (x1 : Int32) (x2 : Int32) (w : Wd) : WPe rtI X (mX5_fire, 2, 0, 0, w0) 0 0 (f5_fire x0 x1 x2 w) 0 [(0, vR x0), (1, vI x1), (2, vI x2)] [] w := by
  unfold f5_fire
  refine WPe_aload_n (pc := 0) 0 (dd dtX5_fire 0 rfl) rfl ?_
  refine WPe_iload_n (pc := 1) 1 (dd dtX5_fire 1 rfl) rfl ?_
  refine WPe_ck fun h1 => ?_
  refine WPe_callV (pc := 2) (rtc := rtI) (Mc := mX5_hut) (d' := 1) (mc' := 0) (ms' := 0) [vI x1] [] rfl (dd dtX5_fire 2 rfl) (okf5_hut x0 x1 w) moX5_hut miX5_hut (bw_mem2 161 rfl rfl) (Or.inl ⟨_, _, _, _, (shE h1), rfl⟩) rfl (Nat.le_of_ble_eq_true rfl) ⟨(Nat.le_of_ble_eq_true rfl), (Nat.le_of_ble_eq_true rfl)⟩ ⟨(Nat.le_of_ble_eq_true rfl), (Nat.le_of_ble_eq_true rfl)⟩ (fun z2 h3 e4 => ?_)
  refine WPe_st (st2 := [vI z2.1]) rfl ?_
  refine WPe_istore_n (pc := 5) (ls' := [(3, vI z2.1), (0, vR x0), (1, vI x1), (2, vI x2)]) (dd dtX5_fire 3 rfl) (Nat.le_of_ble_eq_true rfl) rfl ?_
  refine WPe_iload_n (pc := 6) 0 (dd dtX5_fire 4 rfl) rfl ?_
  refine WPe_bipush (pc := 7) (-2 : Int32) (dd dtX5_fire 5 rfl) (by decide) ?_
  refine WPe_icmp_eq (pc := 9) 24 (dd dtX5_fire 6 rfl) (by decide) (fun h5 => ?_) (fun h5 => ?_)
  · refine WPe_bipush (pc := 24) (-2 : Int32) (dd dtX5_fire 13 rfl) (by decide) ?_
    exact WPe_ireturn (pc := 26) (dd dtX5_fire 14 rfl) rfl rfl ⟨(Nat.le_of_ble_eq_true rfl), (Nat.le_of_ble_eq_true rfl)⟩
  · refine WPe_iload_n (pc := 12) 3 (dd dtX5_fire 7 rfl) rfl ?_
    refine WPe_if_lt (pc := 13) 24 (dd dtX5_fire 8 rfl) (by decide) (fun h6 => ?_) (fun h6 => ?_)
    · refine WPe_bipush (pc := 24) (-2 : Int32) (dd dtX5_fire 13 rfl) (by decide) ?_
      exact WPe_ireturn (pc := 26) (dd dtX5_fire 14 rfl) rfl rfl ⟨(Nat.le_of_ble_eq_true rfl), (Nat.le_of_ble_eq_true rfl)⟩
    · refine WPe_iload_n (pc := 16) 3 (dd dtX5_fire 9 rfl) rfl ?_
      refine WPe_iload_n (pc := 17) 2 (dd dtX5_fire 10 rfl) rfl ?_
      refine WPe_callS (pc := 18) (rtc := rtI) (Mc := mX5_mostOf) (d' := 1) (mc' := 0) (ms' := 0) [vI x1] [vI x2] rfl (dd dtX5_fire 11 rfl) (okf5_mostOf x1 z2.2) moX5_mostOf msX5_mostOf (bw_mem2 165 rfl rfl) rfl (Nat.le_of_ble_eq_true rfl) ⟨(Nat.le_of_ble_eq_true rfl), (Nat.le_of_ble_eq_true rfl)⟩ ⟨(Nat.le_of_ble_eq_true rfl), (Nat.le_of_ble_eq_true rfl)⟩ (fun z7 h8 e9 => ?_)
      refine WPe_st (st2 := [vI z7.1, vI x2]) rfl ?_
      refine WPe_icmp_le (pc := 21) 27 (dd dtX5_fire 12 rfl) (by decide) (fun h10 => ?_) (fun h10 => ?_)
      · refine WPe_iload_n (pc := 27) 2 (dd dtX5_fire 15 rfl) rfl ?_
        refine WPe_ite (fun h11 => ?_) (fun h11 => ?_)
        · refine WPe_tabIn (pc := 28) (0 : Int32) 56 (dd dtX5_fire 16 rfl) h11 (by decide) (by decide) rfl (by decide) ?_
          refine WPe_aload_n (pc := 56) 1 (dd dtX5_fire 17 rfl) rfl ?_
          refine WPe_getR (pc := 57) (t := 5) (C := RX5) (T := TX5) 3 (dd dtX5_fire 18 rfl) (e9.at (e4.at (shE h1) (by decide)) (by decide)) rfl (Nat.le_of_ble_eq_true rfl) rfl (bw_mem2 123 rfl rfl) ?_
          refine WPe_iload_n (pc := 60) 3 (dd dtX5_fire 19 rfl) rfl ?_
          refine WPe_ck fun h12 => ?_
          refine WPe_putI (pc := 61) (t := 1) (C := RX1) (T := TX1) 0 (dd dtX5_fire 20 rfl) (shE h12) rfl (Nat.le_of_ble_eq_true rfl) (bw_mem2 69 rfl rfl) (Or.inl rfl) rfl rfl rfl ?_
          refine WPe_lw fun w13 e14 => ?_
          refine WPe_goto (pc := 64) 97 (dd dtX5_fire 21 rfl) (by decide) ?_
          refine WPe_iload_n (pc := 97) 0 (dd dtX5_fire 36 rfl) rfl ?_
          exact WPe_ireturn (pc := 98) (dd dtX5_fire 37 rfl) rfl rfl ⟨(Nat.le_of_ble_eq_true rfl), (Nat.le_of_ble_eq_true rfl)⟩
        · refine WPe_ite (fun h15 => ?_) (fun h15 => ?_)
          · refine WPe_tabIn (pc := 28) (1 : Int32) 67 (dd dtX5_fire 16 rfl) h15 (by decide) (by decide) rfl (by decide) ?_
            refine WPe_aload_n (pc := 67) 1 (dd dtX5_fire 22 rfl) rfl ?_
            refine WPe_getR (pc := 68) (t := 5) (C := RX5) (T := TX5) 3 (dd dtX5_fire 23 rfl) (e9.at (e4.at (shE h1) (by decide)) (by decide)) rfl (Nat.le_of_ble_eq_true rfl) rfl (bw_mem2 123 rfl rfl) ?_
            refine WPe_iload_n (pc := 71) 3 (dd dtX5_fire 24 rfl) rfl ?_
            refine WPe_ck fun h16 => ?_
            refine WPe_putI (pc := 72) (t := 1) (C := RX1) (T := TX1) 1 (dd dtX5_fire 25 rfl) (shE h16) rfl (Nat.le_of_ble_eq_true rfl) (bw_mem2 73 rfl rfl) (Or.inl rfl) rfl rfl rfl ?_
            refine WPe_lw fun w17 e18 => ?_
            refine WPe_goto (pc := 75) 97 (dd dtX5_fire 26 rfl) (by decide) ?_
            refine WPe_iload_n (pc := 97) 0 (dd dtX5_fire 36 rfl) rfl ?_
            exact WPe_ireturn (pc := 98) (dd dtX5_fire 37 rfl) rfl rfl ⟨(Nat.le_of_ble_eq_true rfl), (Nat.le_of_ble_eq_true rfl)⟩
          · refine WPe_ite (fun h19 => ?_) (fun h19 => ?_)
            · refine WPe_tabIn (pc := 28) (2 : Int32) 78 (dd dtX5_fire 16 rfl) h19 (by decide) (by decide) rfl (by decide) ?_
              refine WPe_aload_n (pc := 78) 1 (dd dtX5_fire 27 rfl) rfl ?_
              refine WPe_getR (pc := 79) (t := 5) (C := RX5) (T := TX5) 3 (dd dtX5_fire 28 rfl) (e9.at (e4.at (shE h1) (by decide)) (by decide)) rfl (Nat.le_of_ble_eq_true rfl) rfl (bw_mem2 123 rfl rfl) ?_
              refine WPe_iload_n (pc := 82) 3 (dd dtX5_fire 29 rfl) rfl ?_
              refine WPe_ck fun h20 => ?_
              refine WPe_putI (pc := 83) (t := 1) (C := RX1) (T := TX1) 2 (dd dtX5_fire 30 rfl) (shE h20) rfl (Nat.le_of_ble_eq_true rfl) (bw_mem2 76 rfl rfl) (Or.inl rfl) rfl rfl rfl ?_
              refine WPe_lw fun w21 e22 => ?_
              refine WPe_goto (pc := 86) 97 (dd dtX5_fire 31 rfl) (by decide) ?_
              refine WPe_iload_n (pc := 97) 0 (dd dtX5_fire 36 rfl) rfl ?_
              exact WPe_ireturn (pc := 98) (dd dtX5_fire 37 rfl) rfl rfl ⟨(Nat.le_of_ble_eq_true rfl), (Nat.le_of_ble_eq_true rfl)⟩
            · refine WPe_tabOut (pc := 28) 89 (dd dtX5_fire 16 rfl) (fun j hj => ?_) (by decide) ?_
              · match j, hj with
                | 0, _ => exact Or.inr (tneq h11 (by decide))
                | 1, _ => exact Or.inr (tneq h15 (by decide))
                | 2, _ => exact Or.inr (tneq h19 (by decide))
                | j + 3, h => exact absurd h (by omega)
              refine WPe_aload_n (pc := 89) 1 (dd dtX5_fire 32 rfl) rfl ?_
              refine WPe_getR (pc := 90) (t := 5) (C := RX5) (T := TX5) 3 (dd dtX5_fire 33 rfl) (e9.at (e4.at (shE h1) (by decide)) (by decide)) rfl (Nat.le_of_ble_eq_true rfl) rfl (bw_mem2 123 rfl rfl) ?_
              refine WPe_iload_n (pc := 93) 3 (dd dtX5_fire 34 rfl) rfl ?_
              refine WPe_ck fun h23 => ?_
              refine WPe_putI (pc := 94) (t := 1) (C := RX1) (T := TX1) 3 (dd dtX5_fire 35 rfl) (shE h23) rfl (Nat.le_of_ble_eq_true rfl) (bw_mem2 78 rfl rfl) (Or.inl rfl) rfl rfl rfl ?_
              refine WPe_lw fun w24 e25 => ?_
              refine WPe_iload_n (pc := 97) 0 (dd dtX5_fire 36 rfl) rfl ?_
              exact WPe_ireturn (pc := 98) (dd dtX5_fire 37 rfl) rfl rfl ⟨(Nat.le_of_ble_eq_true rfl), (Nat.le_of_ble_eq_true rfl)⟩
      · refine WPe_bipush (pc := 24) (-2 : Int32) (dd dtX5_fire 13 rfl) (by decide) ?_
        exact WPe_ireturn (pc := 26) (dd dtX5_fire 14 rfl) rfl rfl ⟨(Nat.le_of_ble_eq_true rfl), (Nat.le_of_ble_eq_true rfl)⟩
theorem okf5_fire (x0 : Nat) (x1 : Int32) (x2 : Int32) (w : Wd) : ∀ z, f5_fire x0 x1 x2 w = some z → OkM mX5_fire 2 0 0 [vR x0, vI x1, vI x2] w (rtI z.1) z.2 :=
  OkM.of (rt := rtI) moX5_fire (Nat.le_of_ble_eq_true rfl) (fun X => wpf5_fire X w x0 x1 x2 w)
def tbX5_isWithin : List (Nat × Instr × Nat) := [(0, .iload_n 0, 1), (1, .iload_n 1, 1), (2, .if_icmp .lt 12, 3), (5, .iload_n 0, 1), (6, .iload_n 2, 1), (7, .if_icmp .gt 7, 3), (10, .iconst 1, 1), (11, .goto 4, 3), (14, .iconst 0, 1), (15, .ireturn, 1)]
set_option maxRecDepth 20000 in
theorem dtX5_isWithin : ∀ x ∈ tbX5_isWithin, decode cX5_isWithin x.1 = .ok x.2 := by decide +kernel
noncomputable def f5_isWithin (x0 : Int32) (x1 : Int32) (x2 : Int32) (w : Wd) : Option (Int32 × Wd) :=
  if x0 < x1 then (some ((0 : Int32), w)) else (if x2 < x0 then (some ((0 : Int32), w)) else (some ((1 : Int32), w)))
theorem wpf5_isWithin (X : CX) (w0 : Wd) (x0 : Int32) (x1 : Int32) (x2 : Int32) (w : Wd) : WPe rtI X (mX5_isWithin, 1, 0, 0, w0) 0 0 (f5_isWithin x0 x1 x2 w) 0 [(0, vI x0), (1, vI x1), (2, vI x2)] [] w := by
  unfold f5_isWithin
  refine WPe_iload_n (pc := 0) 0 (dd dtX5_isWithin 0 rfl) rfl ?_
  refine WPe_iload_n (pc := 1) 1 (dd dtX5_isWithin 1 rfl) rfl ?_
  refine WPe_icmp_lt (pc := 2) 14 (dd dtX5_isWithin 2 rfl) (by decide) (fun h1 => ?_) (fun h1 => ?_)
  · refine WPe_iconst (pc := 14) (0 : Int32) (dd dtX5_isWithin 8 rfl) (by decide) ?_
    exact WPe_zreturn (pc := 15) (ty := .boolean) (dd dtX5_isWithin 9 rfl) rfl rfl rfl ⟨(Nat.le_of_ble_eq_true rfl), (Nat.le_of_ble_eq_true rfl)⟩
  · refine WPe_iload_n (pc := 5) 0 (dd dtX5_isWithin 3 rfl) rfl ?_
    refine WPe_iload_n (pc := 6) 2 (dd dtX5_isWithin 4 rfl) rfl ?_
    refine WPe_icmp_gt (pc := 7) 14 (dd dtX5_isWithin 5 rfl) (by decide) (fun h2 => ?_) (fun h2 => ?_)
    · refine WPe_iconst (pc := 14) (0 : Int32) (dd dtX5_isWithin 8 rfl) (by decide) ?_
      exact WPe_zreturn (pc := 15) (ty := .boolean) (dd dtX5_isWithin 9 rfl) rfl rfl rfl ⟨(Nat.le_of_ble_eq_true rfl), (Nat.le_of_ble_eq_true rfl)⟩
    · refine WPe_iconst (pc := 10) (1 : Int32) (dd dtX5_isWithin 6 rfl) (by decide) ?_
      refine WPe_goto (pc := 11) 15 (dd dtX5_isWithin 7 rfl) (by decide) ?_
      exact WPe_zreturn (pc := 15) (ty := .boolean) (dd dtX5_isWithin 9 rfl) rfl rfl rfl ⟨(Nat.le_of_ble_eq_true rfl), (Nat.le_of_ble_eq_true rfl)⟩
theorem okf5_isWithin (x0 : Int32) (x1 : Int32) (x2 : Int32) (w : Wd) : ∀ z, f5_isWithin x0 x1 x2 w = some z → OkM mX5_isWithin 1 0 0 [vI x0, vI x1, vI x2] w (rtI z.1) z.2 :=
  OkM.of (rt := rtI) moX5_isWithin (Nat.le_of_ble_eq_true rfl) (fun X => wpf5_isWithin X w x0 x1 x2 w)
def tbX5_isByte : List (Nat × Instr × Nat) := [(0, .iload_n 0, 1), (1, .iconst 0, 1), (2, .sipush 255, 3), (5, .invokestatic 111, 3), (8, .ireturn, 1)]
set_option maxRecDepth 20000 in
theorem dtX5_isByte : ∀ x ∈ tbX5_isByte, decode cX5_isByte x.1 = .ok x.2 := by decide +kernel
noncomputable def f5_isByte (x0 : Int32) (w : Wd) : Option (Int32 × Wd) :=
  (f5_isWithin x0 (0 : Int32) (255 : Int32) w).bind fun z1 => (ck (isB z1.1) (some (z1.1, z1.2)))
theorem wpf5_isByte (X : CX) (w0 : Wd) (x0 : Int32) (w : Wd) : WPe rtI X (mX5_isByte, 2, 0, 0, w0) 0 0 (f5_isByte x0 w) 0 [(0, vI x0)] [] w := by
  unfold f5_isByte
  refine WPe_iload_n (pc := 0) 0 (dd dtX5_isByte 0 rfl) rfl ?_
  refine WPe_iconst (pc := 1) (0 : Int32) (dd dtX5_isByte 1 rfl) (by decide) ?_
  refine WPe_sipush (pc := 2) (255 : Int32) (dd dtX5_isByte 2 rfl) (by decide) ?_
  refine WPe_callS (pc := 5) (rtc := rtI) (Mc := mX5_isWithin) (d' := 1) (mc' := 0) (ms' := 0) [vI x0, vI (0 : Int32), vI (255 : Int32)] [] rfl (dd dtX5_isByte 3 rfl) (okf5_isWithin x0 (0 : Int32) (255 : Int32) w) moX5_isWithin msX5_isWithin (bw_mem2 176 rfl rfl) rfl (Nat.le_of_ble_eq_true rfl) ⟨(Nat.le_of_ble_eq_true rfl), (Nat.le_of_ble_eq_true rfl)⟩ ⟨(Nat.le_of_ble_eq_true rfl), (Nat.le_of_ble_eq_true rfl)⟩ (fun z1 h2 e3 => ?_)
  refine WPe_st (st2 := [vI z1.1]) rfl ?_
  refine WPe_ck fun h4 => ?_
  exact WPe_zreturn (pc := 8) (ty := .boolean) (dd dtX5_isByte 4 rfl) rfl rfl (isB_nar h4) ⟨(Nat.le_of_ble_eq_true rfl), (Nat.le_of_ble_eq_true rfl)⟩
theorem okf5_isByte (x0 : Int32) (w : Wd) : ∀ z, f5_isByte x0 w = some z → OkM mX5_isByte 2 0 0 [vI x0] w (rtI z.1) z.2 :=
  OkM.of (rt := rtI) moX5_isByte (Nat.le_of_ble_eq_true rfl) (fun X => wpf5_isByte X w x0 w)
def tbX5_feed : List (Nat × Instr × Nat) := [(0, .iload_n 1, 1), (1, .iconst 1, 1), (2, .if_icmp .lt 46, 3), (5, .iload_n 1, 1), (6, .iconst 5, 1), (7, .if_icmp .gt 41, 3), (10, .iload_n 2, 1), (11, .invokestatic 100, 3), (14, .ifCond .eq 34, 3), (17, .iload_n 3, 1), (18, .invokestatic 100, 3), (21, .ifCond .eq 27, 3), (24, .iload 4, 2), (26, .invokestatic 100, 3), (29, .ifCond .eq 19, 3), (32, .iload 5, 2), (34, .invokestatic 100, 3), (37, .ifCond .eq 11, 3), (40, .iload 6, 2), (42, .invokestatic 100, 3), (45, .ifCond .ne 6, 3), (48, .bipush (-2), 2), (50, .ireturn, 1), (51, .aload_n 0, 1), (52, .getfield 10, 3), (55, .iload_n 1, 1), (56, .invokevirtual 104, 3), (59, .ifCond .ne 6, 3), (62, .bipush (-4), 2), (64, .ireturn, 1), (65, .iconst 0, 1), (66, .istore 7, 2), (68, .iload 7, 2), (70, .iload_n 1, 1), (71, .if_icmp .ge 59, 3), (74, .aload_n 0, 1), (75, .getfield 10, 3), (78, .iload 7, 2), (80, .ifCond .ne 7, 3), (83, .iload_n 2, 1), (84, .goto 37, 3), (87, .iload 7, 2), (89, .iconst 1, 1), (90, .if_icmp .ne 7, 3), (93, .iload_n 3, 1), (94, .goto 27, 3), (97, .iload 7, 2), (99, .iconst 2, 1), (100, .if_icmp .ne 8, 3), (103, .iload 4, 2), (105, .goto 16, 3), (108, .iload 7, 2), (110, .iconst 3, 1), (111, .if_icmp .ne 8, 3), (114, .iload 5, 2), (116, .goto 5, 3), (119, .iload 6, 2), (121, .invokevirtual 107, 3), (124, .iinc 7 1, 3), (127, .goto (-59), 3), (130, .aload_n 0, 1), (131, .getfield 10, 3), (134, .getfield 30, 3), (137, .ireturn, 1)]
set_option maxRecDepth 20000 in
theorem dtX5_feed : ∀ x ∈ tbX5_feed, decode cX5_feed x.1 = .ok x.2 := by decide +kernel
noncomputable def j5_feed_121 (k68 : Nat × Int32 × Int32 × Int32 × Int32 × Int32 × Int32 × Int32 → Wd → Option (Int32 × Wd)) (x0 : Nat) (x1 : Int32) (x2 : Int32) (x3 : Int32) (x4 : Int32) (x5 : Int32) (x6 : Int32) (x7 : Int32) (s0 : Int32) (s1 : Nat) (w : Wd) : Option (Int32 × Wd) :=
  ck (tg w s1 = 3) ((f3_add s1 s0 w).bind fun z35 => (k68 (x0, x1, x2, x3, x4, x5, x6, (x7 + (1 : Int32))) z35.2))
theorem wpj5_feed_121 (X : CX) (w0 : Wd) (k68 : Nat × Int32 × Int32 × Int32 × Int32 × Int32 × Int32 × Int32 → Wd → Option (Int32 × Wd)) (hk68 : ∀ (v : Nat × Int32 × Int32 × Int32 × Int32 × Int32 × Int32 × Int32) (w : Wd), WPe rtI X (mX5_feed, 3, 0, 0, w0) 0 0 (k68 v w) 68 [(0, vR v.1), (1, vI v.2.1), (2, vI v.2.2.1), (3, vI v.2.2.2.1), (4, vI v.2.2.2.2.1), (5, vI v.2.2.2.2.2.1), (6, vI v.2.2.2.2.2.2.1), (7, vI v.2.2.2.2.2.2.2)] [] w) (x0 : Nat) (x1 : Int32) (x2 : Int32) (x3 : Int32) (x4 : Int32) (x5 : Int32) (x6 : Int32) (x7 : Int32) (s0 : Int32) (s1 : Nat) (w : Wd) : WPe rtI X (mX5_feed, 3, 0, 0, w0) 0 0 (j5_feed_121 k68 x0 x1 x2 x3 x4 x5 x6 x7 s0 s1 w) 121 [(0, vR x0), (1, vI x1), (2, vI x2), (3, vI x3), (4, vI x4), (5, vI x5), (6, vI x6), (7, vI x7)] [vI s0, vR s1] w := by
  unfold j5_feed_121
  refine WPe_ck fun h34 => ?_
  refine WPe_callV (pc := 121) (rtc := rtV) (Mc := mX3_add) (d' := 2) (mc' := 0) (ms' := 0) [vI s0] [] rfl (dd dtX5_feed 57 rfl) (okf3_add s1 s0 w) moX3_add miX3_add (bw_mem2 180 rfl rfl) (Or.inl ⟨_, _, _, _, (shE h34), rfl⟩) rfl (Nat.le_of_ble_eq_true rfl) ⟨(Nat.le_of_ble_eq_true rfl), (Nat.le_of_ble_eq_true rfl)⟩ ⟨(Nat.le_of_ble_eq_true rfl), (Nat.le_of_ble_eq_true rfl)⟩ (fun z35 h36 e37 => ?_)
  refine WPe_st (st2 := []) rfl ?_
  refine WPe_iinc (pc := 124) (ls' := [(7, vI (x7 + (1 : Int32))), (0, vR x0), (1, vI x1), (2, vI x2), (3, vI x3), (4, vI x4), (5, vI x5), (6, vI x6)]) 7 (x7 + (1 : Int32)) (dd dtX5_feed 58 rfl) rfl (congrArg (HAdd.hAdd _) (by decide : Int32.ofInt (1) = (1 : Int32))) (Nat.le_of_ble_eq_true rfl) rfl ?_
  refine WPe_goto (pc := 127) 68 (dd dtX5_feed 59 rfl) (by decide) ?_
  refine WPe_sub [1, 2, 3, 4, 5, 6, 7, 0] rfl ?_
  exact hk68 (x0, x1, x2, x3, x4, x5, x6, (x7 + (1 : Int32))) z35.2
noncomputable def b5_feed_68 (k68 : Nat × Int32 × Int32 × Int32 × Int32 × Int32 × Int32 × Int32 → Wd → Option (Int32 × Wd)) (v : Nat × Int32 × Int32 × Int32 × Int32 × Int32 × Int32 × Int32) (w : Wd) : Option (Int32 × Wd) :=
  if v.2.1 ≤ v.2.2.2.2.2.2.2 then (ck (tg w v.1 = 5) (ck (tg w (wr w v.1 0) = 3) (some ((wi w (wr w v.1 0) 1), w)))) else (ck (tg w v.1 = 5) (if v.2.2.2.2.2.2.2 = (0 : Int32) then (j5_feed_121 k68 v.1 v.2.1 v.2.2.1 v.2.2.2.1 v.2.2.2.2.1 v.2.2.2.2.2.1 v.2.2.2.2.2.2.1 v.2.2.2.2.2.2.2 v.2.2.1 (wr w v.1 0) w) else (if v.2.2.2.2.2.2.2 = (1 : Int32) then (j5_feed_121 k68 v.1 v.2.1 v.2.2.1 v.2.2.2.1 v.2.2.2.2.1 v.2.2.2.2.2.1 v.2.2.2.2.2.2.1 v.2.2.2.2.2.2.2 v.2.2.2.1 (wr w v.1 0) w) else (if v.2.2.2.2.2.2.2 = (2 : Int32) then (j5_feed_121 k68 v.1 v.2.1 v.2.2.1 v.2.2.2.1 v.2.2.2.2.1 v.2.2.2.2.2.1 v.2.2.2.2.2.2.1 v.2.2.2.2.2.2.2 v.2.2.2.2.1 (wr w v.1 0) w) else (if v.2.2.2.2.2.2.2 = (3 : Int32) then (j5_feed_121 k68 v.1 v.2.1 v.2.2.1 v.2.2.2.1 v.2.2.2.2.1 v.2.2.2.2.2.1 v.2.2.2.2.2.2.1 v.2.2.2.2.2.2.2 v.2.2.2.2.2.1 (wr w v.1 0) w) else (j5_feed_121 k68 v.1 v.2.1 v.2.2.1 v.2.2.2.1 v.2.2.2.2.1 v.2.2.2.2.2.1 v.2.2.2.2.2.2.1 v.2.2.2.2.2.2.2 v.2.2.2.2.2.2.1 (wr w v.1 0) w))))))
theorem wpb5_feed_68 (X : CX) (w0 : Wd) (k68 : Nat × Int32 × Int32 × Int32 × Int32 × Int32 × Int32 × Int32 → Wd → Option (Int32 × Wd)) (hk68 : ∀ (v : Nat × Int32 × Int32 × Int32 × Int32 × Int32 × Int32 × Int32) (w : Wd), WPe rtI X (mX5_feed, 3, 0, 0, w0) 0 0 (k68 v w) 68 [(0, vR v.1), (1, vI v.2.1), (2, vI v.2.2.1), (3, vI v.2.2.2.1), (4, vI v.2.2.2.2.1), (5, vI v.2.2.2.2.2.1), (6, vI v.2.2.2.2.2.2.1), (7, vI v.2.2.2.2.2.2.2)] [] w) (v : Nat × Int32 × Int32 × Int32 × Int32 × Int32 × Int32 × Int32) (w : Wd) : WPe rtI X (mX5_feed, 3, 0, 0, w0) 0 0 (b5_feed_68 k68 v w) 68 [(0, vR v.1), (1, vI v.2.1), (2, vI v.2.2.1), (3, vI v.2.2.2.1), (4, vI v.2.2.2.2.1), (5, vI v.2.2.2.2.2.1), (6, vI v.2.2.2.2.2.2.1), (7, vI v.2.2.2.2.2.2.2)] [] w := by
  unfold b5_feed_68
  refine WPe_iload (pc := 68) 7 (dd dtX5_feed 32 rfl) rfl ?_
  refine WPe_iload_n (pc := 70) 1 (dd dtX5_feed 33 rfl) rfl ?_
  refine WPe_icmp_ge (pc := 71) 130 (dd dtX5_feed 34 rfl) (by decide) (fun h29 => ?_) (fun h29 => ?_)
  · refine WPe_aload_n (pc := 130) 0 (dd dtX5_feed 60 rfl) rfl ?_
    refine WPe_ck fun h30 => ?_
    refine WPe_getR (pc := 131) (t := 5) (C := RX5) (T := TX5) 0 (dd dtX5_feed 61 rfl) (shE h30) rfl (Nat.le_of_ble_eq_true rfl) rfl (bw_mem2 120 rfl rfl) ?_
    refine WPe_ck fun h31 => ?_
    refine WPe_getI (pc := 134) (t := 3) (C := RX3) (T := TX3) 1 (dd dtX5_feed 62 rfl) (shE h31) rfl (Nat.le_of_ble_eq_true rfl) rfl (bw_mem1 30 rfl rfl) ?_
    exact WPe_ireturn (pc := 137) (dd dtX5_feed 63 rfl) rfl rfl ⟨(Nat.le_of_ble_eq_true rfl), (Nat.le_of_ble_eq_true rfl)⟩
  · refine WPe_aload_n (pc := 74) 0 (dd dtX5_feed 35 rfl) rfl ?_
    refine WPe_ck fun h32 => ?_
    refine WPe_getR (pc := 75) (t := 5) (C := RX5) (T := TX5) 0 (dd dtX5_feed 36 rfl) (shE h32) rfl (Nat.le_of_ble_eq_true rfl) rfl (bw_mem2 120 rfl rfl) ?_
    refine WPe_iload (pc := 78) 7 (dd dtX5_feed 37 rfl) rfl ?_
    refine WPe_if_ne (pc := 80) 87 (dd dtX5_feed 38 rfl) (by decide) (fun h33 => ?_) (fun h33 => ?_)
    · refine WPe_iload_n (pc := 83) 2 (dd dtX5_feed 39 rfl) rfl ?_
      refine WPe_goto (pc := 84) 121 (dd dtX5_feed 40 rfl) (by decide) ?_
      refine WPe_sub [0, 1, 2, 3, 4, 5, 6, 7] rfl ?_
      exact wpj5_feed_121 X w0 k68 hk68 v.1 v.2.1 v.2.2.1 v.2.2.2.1 v.2.2.2.2.1 v.2.2.2.2.2.1 v.2.2.2.2.2.2.1 v.2.2.2.2.2.2.2 v.2.2.1 (wr w v.1 0) w
    · refine WPe_iload (pc := 87) 7 (dd dtX5_feed 41 rfl) rfl ?_
      refine WPe_iconst (pc := 89) (1 : Int32) (dd dtX5_feed 42 rfl) (by decide) ?_
      refine WPe_icmp_ne (pc := 90) 97 (dd dtX5_feed 43 rfl) (by decide) (fun h38 => ?_) (fun h38 => ?_)
      · refine WPe_iload_n (pc := 93) 3 (dd dtX5_feed 44 rfl) rfl ?_
        refine WPe_goto (pc := 94) 121 (dd dtX5_feed 45 rfl) (by decide) ?_
        refine WPe_sub [0, 1, 2, 3, 4, 5, 6, 7] rfl ?_
        exact wpj5_feed_121 X w0 k68 hk68 v.1 v.2.1 v.2.2.1 v.2.2.2.1 v.2.2.2.2.1 v.2.2.2.2.2.1 v.2.2.2.2.2.2.1 v.2.2.2.2.2.2.2 v.2.2.2.1 (wr w v.1 0) w
      · refine WPe_iload (pc := 97) 7 (dd dtX5_feed 46 rfl) rfl ?_
        refine WPe_iconst (pc := 99) (2 : Int32) (dd dtX5_feed 47 rfl) (by decide) ?_
        refine WPe_icmp_ne (pc := 100) 108 (dd dtX5_feed 48 rfl) (by decide) (fun h39 => ?_) (fun h39 => ?_)
        · refine WPe_iload (pc := 103) 4 (dd dtX5_feed 49 rfl) rfl ?_
          refine WPe_goto (pc := 105) 121 (dd dtX5_feed 50 rfl) (by decide) ?_
          refine WPe_sub [0, 1, 2, 3, 4, 5, 6, 7] rfl ?_
          exact wpj5_feed_121 X w0 k68 hk68 v.1 v.2.1 v.2.2.1 v.2.2.2.1 v.2.2.2.2.1 v.2.2.2.2.2.1 v.2.2.2.2.2.2.1 v.2.2.2.2.2.2.2 v.2.2.2.2.1 (wr w v.1 0) w
        · refine WPe_iload (pc := 108) 7 (dd dtX5_feed 51 rfl) rfl ?_
          refine WPe_iconst (pc := 110) (3 : Int32) (dd dtX5_feed 52 rfl) (by decide) ?_
          refine WPe_icmp_ne (pc := 111) 119 (dd dtX5_feed 53 rfl) (by decide) (fun h40 => ?_) (fun h40 => ?_)
          · refine WPe_iload (pc := 114) 5 (dd dtX5_feed 54 rfl) rfl ?_
            refine WPe_goto (pc := 116) 121 (dd dtX5_feed 55 rfl) (by decide) ?_
            refine WPe_sub [0, 1, 2, 3, 4, 5, 6, 7] rfl ?_
            exact wpj5_feed_121 X w0 k68 hk68 v.1 v.2.1 v.2.2.1 v.2.2.2.1 v.2.2.2.2.1 v.2.2.2.2.2.1 v.2.2.2.2.2.2.1 v.2.2.2.2.2.2.2 v.2.2.2.2.2.1 (wr w v.1 0) w
          · refine WPe_iload (pc := 119) 6 (dd dtX5_feed 56 rfl) rfl ?_
            refine WPe_sub [0, 1, 2, 3, 4, 5, 6, 7] rfl ?_
            exact wpj5_feed_121 X w0 k68 hk68 v.1 v.2.1 v.2.2.1 v.2.2.2.1 v.2.2.2.2.1 v.2.2.2.2.2.1 v.2.2.2.2.2.2.1 v.2.2.2.2.2.2.2 v.2.2.2.2.2.2.1 (wr w v.1 0) w
theorem wplb5_feed_68 (X : CX) (w0 : Wd)  : ∀ (n9 : Nat) (v : Nat × Int32 × Int32 × Int32 × Int32 × Int32 × Int32 × Int32) (w : Wd), WPe rtI X (mX5_feed, 3, 0, 0, w0) 0 0 (loopF (b5_feed_68 ) n9 v w) 68 [(0, vR v.1), (1, vI v.2.1), (2, vI v.2.2.1), (3, vI v.2.2.2.1), (4, vI v.2.2.2.2.1), (5, vI v.2.2.2.2.2.1), (6, vI v.2.2.2.2.2.2.1), (7, vI v.2.2.2.2.2.2.2)] [] w :=
  WPe_loop (rt := rtI) (X := X) (M := (mX5_feed, 3, 0, 0, w0)) (fun v : Nat × Int32 × Int32 × Int32 × Int32 × Int32 × Int32 × Int32 => [(0, vR v.1), (1, vI v.2.1), (2, vI v.2.2.1), (3, vI v.2.2.2.1), (4, vI v.2.2.2.2.1), (5, vI v.2.2.2.2.2.1), (6, vI v.2.2.2.2.2.2.1), (7, vI v.2.2.2.2.2.2.2)]) (fun k hk v w => wpb5_feed_68 X w0  k hk v w)
noncomputable def f5_feed (x0 : Nat) (x1 : Int32) (x2 : Int32) (x3 : Int32) (x4 : Int32) (x5 : Int32) (x6 : Int32) (w : Wd) : Option (Int32 × Wd) :=
  if x1 < (1 : Int32) then (some ((-2 : Int32), w)) else (if (5 : Int32) < x1 then (some ((-2 : Int32), w)) else ((f5_isByte x2 w).bind fun z3 => (if z3.1 = (0 : Int32) then (some ((-2 : Int32), z3.2)) else ((f5_isByte x3 z3.2).bind fun z7 => (if z7.1 = (0 : Int32) then (some ((-2 : Int32), z7.2)) else ((f5_isByte x4 z7.2).bind fun z11 => (if z11.1 = (0 : Int32) then (some ((-2 : Int32), z11.2)) else ((f5_isByte x5 z11.2).bind fun z15 => (if z15.1 = (0 : Int32) then (some ((-2 : Int32), z15.2)) else ((f5_isByte x6 z15.2).bind fun z19 => (if z19.1 = (0 : Int32) then (some ((-2 : Int32), z19.2)) else (ck (tg z19.2 x0 = 5) (ck (tg z19.2 (wr z19.2 x0 0) = 3) ((f3_hasRoom (wr z19.2 x0 0) x1 z19.2).bind fun z25 => (if z25.1 = (0 : Int32) then (some ((-4 : Int32), z25.2)) else (loopF (b5_feed_68) FU (x0, x1, x2, x3, x4, x5, x6, (0 : Int32)) z25.2))))))))))))))))
theorem wpf5_feed (X : CX) (w0 : Wd) (x0 : Nat) (x1 : Int32) (x2 : Int32) (x3 : Int32) (x4 : Int32) (x5 : Int32) (x6 : Int32) (w : Wd) : WPe rtI X (mX5_feed, 3, 0, 0, w0) 0 0 (f5_feed x0 x1 x2 x3 x4 x5 x6 w) 0 [(0, vR x0), (1, vI x1), (2, vI x2), (3, vI x3), (4, vI x4), (5, vI x5), (6, vI x6)] [] w := by
  unfold f5_feed
  refine WPe_iload_n (pc := 0) 1 (dd dtX5_feed 0 rfl) rfl ?_
  refine WPe_iconst (pc := 1) (1 : Int32) (dd dtX5_feed 1 rfl) (by decide) ?_
  refine WPe_icmp_lt (pc := 2) 48 (dd dtX5_feed 2 rfl) (by decide) (fun h1 => ?_) (fun h1 => ?_)
  · refine WPe_bipush (pc := 48) (-2 : Int32) (dd dtX5_feed 21 rfl) (by decide) ?_
    exact WPe_ireturn (pc := 50) (dd dtX5_feed 22 rfl) rfl rfl ⟨(Nat.le_of_ble_eq_true rfl), (Nat.le_of_ble_eq_true rfl)⟩
  · refine WPe_iload_n (pc := 5) 1 (dd dtX5_feed 3 rfl) rfl ?_
    refine WPe_iconst (pc := 6) (5 : Int32) (dd dtX5_feed 4 rfl) (by decide) ?_
    refine WPe_icmp_gt (pc := 7) 48 (dd dtX5_feed 5 rfl) (by decide) (fun h2 => ?_) (fun h2 => ?_)
    · refine WPe_bipush (pc := 48) (-2 : Int32) (dd dtX5_feed 21 rfl) (by decide) ?_
      exact WPe_ireturn (pc := 50) (dd dtX5_feed 22 rfl) rfl rfl ⟨(Nat.le_of_ble_eq_true rfl), (Nat.le_of_ble_eq_true rfl)⟩
    · refine WPe_iload_n (pc := 10) 2 (dd dtX5_feed 6 rfl) rfl ?_
      refine WPe_callS (pc := 11) (rtc := rtI) (Mc := mX5_isByte) (d' := 2) (mc' := 0) (ms' := 0) [vI x2] [] rfl (dd dtX5_feed 7 rfl) (okf5_isByte x2 w) moX5_isByte msX5_isByte (bw_mem2 173 rfl rfl) rfl (Nat.le_of_ble_eq_true rfl) ⟨(Nat.le_of_ble_eq_true rfl), (Nat.le_of_ble_eq_true rfl)⟩ ⟨(Nat.le_of_ble_eq_true rfl), (Nat.le_of_ble_eq_true rfl)⟩ (fun z3 h4 e5 => ?_)
      refine WPe_st (st2 := [vI z3.1]) rfl ?_
      refine WPe_if_eq (pc := 14) 48 (dd dtX5_feed 8 rfl) (by decide) (fun h6 => ?_) (fun h6 => ?_)
      · refine WPe_bipush (pc := 48) (-2 : Int32) (dd dtX5_feed 21 rfl) (by decide) ?_
        exact WPe_ireturn (pc := 50) (dd dtX5_feed 22 rfl) rfl rfl ⟨(Nat.le_of_ble_eq_true rfl), (Nat.le_of_ble_eq_true rfl)⟩
      · refine WPe_iload_n (pc := 17) 3 (dd dtX5_feed 9 rfl) rfl ?_
        refine WPe_callS (pc := 18) (rtc := rtI) (Mc := mX5_isByte) (d' := 2) (mc' := 0) (ms' := 0) [vI x3] [] rfl (dd dtX5_feed 10 rfl) (okf5_isByte x3 z3.2) moX5_isByte msX5_isByte (bw_mem2 173 rfl rfl) rfl (Nat.le_of_ble_eq_true rfl) ⟨(Nat.le_of_ble_eq_true rfl), (Nat.le_of_ble_eq_true rfl)⟩ ⟨(Nat.le_of_ble_eq_true rfl), (Nat.le_of_ble_eq_true rfl)⟩ (fun z7 h8 e9 => ?_)
        refine WPe_st (st2 := [vI z7.1]) rfl ?_
        refine WPe_if_eq (pc := 21) 48 (dd dtX5_feed 11 rfl) (by decide) (fun h10 => ?_) (fun h10 => ?_)
        · refine WPe_bipush (pc := 48) (-2 : Int32) (dd dtX5_feed 21 rfl) (by decide) ?_
          exact WPe_ireturn (pc := 50) (dd dtX5_feed 22 rfl) rfl rfl ⟨(Nat.le_of_ble_eq_true rfl), (Nat.le_of_ble_eq_true rfl)⟩
        · refine WPe_iload (pc := 24) 4 (dd dtX5_feed 12 rfl) rfl ?_
          refine WPe_callS (pc := 26) (rtc := rtI) (Mc := mX5_isByte) (d' := 2) (mc' := 0) (ms' := 0) [vI x4] [] rfl (dd dtX5_feed 13 rfl) (okf5_isByte x4 z7.2) moX5_isByte msX5_isByte (bw_mem2 173 rfl rfl) rfl (Nat.le_of_ble_eq_true rfl) ⟨(Nat.le_of_ble_eq_true rfl), (Nat.le_of_ble_eq_true rfl)⟩ ⟨(Nat.le_of_ble_eq_true rfl), (Nat.le_of_ble_eq_true rfl)⟩ (fun z11 h12 e13 => ?_)
          refine WPe_st (st2 := [vI z11.1]) rfl ?_
          refine WPe_if_eq (pc := 29) 48 (dd dtX5_feed 14 rfl) (by decide) (fun h14 => ?_) (fun h14 => ?_)
          · refine WPe_bipush (pc := 48) (-2 : Int32) (dd dtX5_feed 21 rfl) (by decide) ?_
            exact WPe_ireturn (pc := 50) (dd dtX5_feed 22 rfl) rfl rfl ⟨(Nat.le_of_ble_eq_true rfl), (Nat.le_of_ble_eq_true rfl)⟩
          · refine WPe_iload (pc := 32) 5 (dd dtX5_feed 15 rfl) rfl ?_
            refine WPe_callS (pc := 34) (rtc := rtI) (Mc := mX5_isByte) (d' := 2) (mc' := 0) (ms' := 0) [vI x5] [] rfl (dd dtX5_feed 16 rfl) (okf5_isByte x5 z11.2) moX5_isByte msX5_isByte (bw_mem2 173 rfl rfl) rfl (Nat.le_of_ble_eq_true rfl) ⟨(Nat.le_of_ble_eq_true rfl), (Nat.le_of_ble_eq_true rfl)⟩ ⟨(Nat.le_of_ble_eq_true rfl), (Nat.le_of_ble_eq_true rfl)⟩ (fun z15 h16 e17 => ?_)
            refine WPe_st (st2 := [vI z15.1]) rfl ?_
            refine WPe_if_eq (pc := 37) 48 (dd dtX5_feed 17 rfl) (by decide) (fun h18 => ?_) (fun h18 => ?_)
            · refine WPe_bipush (pc := 48) (-2 : Int32) (dd dtX5_feed 21 rfl) (by decide) ?_
              exact WPe_ireturn (pc := 50) (dd dtX5_feed 22 rfl) rfl rfl ⟨(Nat.le_of_ble_eq_true rfl), (Nat.le_of_ble_eq_true rfl)⟩
            · refine WPe_iload (pc := 40) 6 (dd dtX5_feed 18 rfl) rfl ?_
              refine WPe_callS (pc := 42) (rtc := rtI) (Mc := mX5_isByte) (d' := 2) (mc' := 0) (ms' := 0) [vI x6] [] rfl (dd dtX5_feed 19 rfl) (okf5_isByte x6 z15.2) moX5_isByte msX5_isByte (bw_mem2 173 rfl rfl) rfl (Nat.le_of_ble_eq_true rfl) ⟨(Nat.le_of_ble_eq_true rfl), (Nat.le_of_ble_eq_true rfl)⟩ ⟨(Nat.le_of_ble_eq_true rfl), (Nat.le_of_ble_eq_true rfl)⟩ (fun z19 h20 e21 => ?_)
              refine WPe_st (st2 := [vI z19.1]) rfl ?_
              refine WPe_if_ne (pc := 45) 51 (dd dtX5_feed 20 rfl) (by decide) (fun h22 => ?_) (fun h22 => ?_)
              · refine WPe_bipush (pc := 48) (-2 : Int32) (dd dtX5_feed 21 rfl) (by decide) ?_
                exact WPe_ireturn (pc := 50) (dd dtX5_feed 22 rfl) rfl rfl ⟨(Nat.le_of_ble_eq_true rfl), (Nat.le_of_ble_eq_true rfl)⟩
              · refine WPe_aload_n (pc := 51) 0 (dd dtX5_feed 23 rfl) rfl ?_
                refine WPe_ck fun h23 => ?_
                refine WPe_getR (pc := 52) (t := 5) (C := RX5) (T := TX5) 0 (dd dtX5_feed 24 rfl) (shE h23) rfl (Nat.le_of_ble_eq_true rfl) rfl (bw_mem2 120 rfl rfl) ?_
                refine WPe_iload_n (pc := 55) 1 (dd dtX5_feed 25 rfl) rfl ?_
                refine WPe_ck fun h24 => ?_
                refine WPe_callV (pc := 56) (rtc := rtI) (Mc := mX3_hasRoom) (d' := 1) (mc' := 0) (ms' := 0) [vI x1] [] rfl (dd dtX5_feed 26 rfl) (okf3_hasRoom (wr z19.2 x0 0) x1 z19.2) moX3_hasRoom miX3_hasRoom (bw_mem2 179 rfl rfl) (Or.inl ⟨_, _, _, _, (shE h24), rfl⟩) rfl (Nat.le_of_ble_eq_true rfl) ⟨(Nat.le_of_ble_eq_true rfl), (Nat.le_of_ble_eq_true rfl)⟩ ⟨(Nat.le_of_ble_eq_true rfl), (Nat.le_of_ble_eq_true rfl)⟩ (fun z25 h26 e27 => ?_)
                refine WPe_st (st2 := [vI z25.1]) rfl ?_
                refine WPe_if_ne (pc := 59) 65 (dd dtX5_feed 27 rfl) (by decide) (fun h28 => ?_) (fun h28 => ?_)
                · refine WPe_bipush (pc := 62) (-4 : Int32) (dd dtX5_feed 28 rfl) (by decide) ?_
                  exact WPe_ireturn (pc := 64) (dd dtX5_feed 29 rfl) rfl rfl ⟨(Nat.le_of_ble_eq_true rfl), (Nat.le_of_ble_eq_true rfl)⟩
                · refine WPe_iconst (pc := 65) (0 : Int32) (dd dtX5_feed 30 rfl) (by decide) ?_
                  refine WPe_istore (pc := 66) (ls' := [(7, vI (0 : Int32)), (0, vR x0), (1, vI x1), (2, vI x2), (3, vI x3), (4, vI x4), (5, vI x5), (6, vI x6)]) (dd dtX5_feed 31 rfl) (Nat.le_of_ble_eq_true rfl) rfl ?_
                  refine WPe_sub [1, 2, 3, 4, 5, 6, 7, 0] rfl ?_
                  exact wplb5_feed_68 X w0  FU _ _
theorem okf5_feed (x0 : Nat) (x1 : Int32) (x2 : Int32) (x3 : Int32) (x4 : Int32) (x5 : Int32) (x6 : Int32) (w : Wd) : ∀ z, f5_feed x0 x1 x2 x3 x4 x5 x6 w = some z → OkM mX5_feed 3 0 0 [vR x0, vI x1, vI x2, vI x3, vI x4, vI x5, vI x6] w (rtI z.1) z.2 :=
  OkM.of (rt := rtI) moX5_feed (Nat.le_of_ble_eq_true rfl) (fun X => wpf5_feed X w x0 x1 x2 x3 x4 x5 x6 w)
def tbX5_text : List (Nat × Instr × Nat) := [(0, .aload_n 0, 1), (1, .getfield 40, 3), (4, .aload_n 0, 1), (5, .getfield 36, 3), (8, .arraylength, 1), (9, .if_icmp .lt 6, 3), (12, .bipush (-4), 2), (14, .ireturn, 1), (15, .aload_n 0, 1), (16, .getfield 10, 3), (19, .invokevirtual 22, 3), (22, .istore_n 1, 1), (23, .aload_n 0, 1), (24, .getfield 10, 3), (27, .iconst 0, 1), (28, .putfield 30, 3), (31, .iload_n 1, 1), (32, .ifCond .lt 8, 3), (35, .bipush (-100), 2), (37, .iload_n 1, 1), (38, .isub, 1), (39, .ireturn, 1), (40, .aload_n 0, 1), (41, .getfield 36, 3), (44, .aload_n 0, 1), (45, .getfield 40, 3), (48, .aload_n 0, 1), (49, .getfield 10, 3), (52, .aload_n 0, 1), (53, .getfield 40, 3), (56, .invokevirtual 26, 3), (59, .aastore, 1), (60, .aload_n 0, 1), (61, .dup, 1), (62, .getfield 40, 3), (65, .iconst 1, 1), (66, .iadd, 1), (67, .putfield 40, 3), (70, .aload_n 0, 1), (71, .getfield 40, 3), (74, .iconst 1, 1), (75, .isub, 1), (76, .ireturn, 1)]
set_option maxRecDepth 20000 in
theorem dtX5_text : ∀ x ∈ tbX5_text, decode cX5_text x.1 = .ok x.2 := by decide +kernel
noncomputable def f5_text (x0 : Nat) (w : Wd) : Option (Int32 × Wd) :=
  ck (tg w x0 = 5) (ck (tg w (wr w x0 1) = 21) (if (wi w x0 2) < (Int32.ofNat (ln w (wr w x0 1))) then (ck (tg w (wr w x0 0) = 3) ((f3_faultPlace (wr w x0 0) w).bind fun z5 => (ck (tg z5.2 (wr z5.2 x0 0) = 3) (lw (sI z5.2 (wr z5.2 x0 0) 1 (0 : Int32)) fun w9 => (if z5.1 < (0 : Int32) then (ck (tg w9 (wr w9 x0 0) = 3) ((f3_textRead (wr w9 x0 0) (wi w9 x0 2) w9).bind fun z13 => (ck (tg z13.2 (wr w9 x0 1) = 21 ∧ vp_in (wi w9 x0 2) (ln z13.2 (wr w9 x0 1))) (ck (tg z13.2 z13.1 = 4) (lw (sR z13.2 (wr w9 x0 1) ((wi w9 x0 2)).toNatClampNeg z13.1) fun w18 => (lw (sI w18 x0 2 ((wi w18 x0 2) + (1 : Int32))) fun w20 => (some (((wi w20 x0 2) - (1 : Int32)), w20)))))))) else (some (((-100 : Int32) - z5.1), w9))))))) else (some ((-4 : Int32), w))))
theorem wpf5_text (X : CX) (w0 : Wd) (x0 : Nat) (w : Wd) : WPe rtI X (mX5_text, 51, 3, 205, w0) 0 0 (f5_text x0 w) 0 [(0, vR x0)] [] w := by
  unfold f5_text
  refine WPe_aload_n (pc := 0) 0 (dd dtX5_text 0 rfl) rfl ?_
  refine WPe_ck fun h1 => ?_
  refine WPe_getI (pc := 1) (t := 5) (C := RX5) (T := TX5) 2 (dd dtX5_text 1 rfl) (shE h1) rfl (Nat.le_of_ble_eq_true rfl) rfl (bw_mem2 122 rfl rfl) ?_
  refine WPe_aload_n (pc := 4) 0 (dd dtX5_text 2 rfl) rfl ?_
  refine WPe_getR (pc := 5) (t := 5) (C := RX5) (T := TX5) 1 (dd dtX5_text 3 rfl) (shE h1) rfl (Nat.le_of_ble_eq_true rfl) rfl (bw_mem2 121 rfl rfl) ?_
  refine WPe_ck fun h2 => ?_
  refine WPe_alen (pc := 8) (dd dtX5_text 4 rfl) (shL (shE h2)) ⟨(Nat.le_of_ble_eq_true rfl), (Nat.le_of_ble_eq_true rfl)⟩ ?_
  refine WPe_icmp_lt (pc := 9) 15 (dd dtX5_text 5 rfl) (by decide) (fun h3 => ?_) (fun h3 => ?_)
  · refine WPe_aload_n (pc := 15) 0 (dd dtX5_text 8 rfl) rfl ?_
    refine WPe_getR (pc := 16) (t := 5) (C := RX5) (T := TX5) 0 (dd dtX5_text 9 rfl) (shE h1) rfl (Nat.le_of_ble_eq_true rfl) rfl (bw_mem2 120 rfl rfl) ?_
    refine WPe_ck fun h4 => ?_
    refine WPe_callV (pc := 19) (rtc := rtI) (Mc := mX3_faultPlace) (d' := 50) (mc' := 0) (ms' := 0) [] [] rfl (dd dtX5_text 10 rfl) (okf3_faultPlace (wr w x0 0) w) moX3_faultPlace miX3_faultPlace (bw_mem1 123 rfl rfl) (Or.inl ⟨_, _, _, _, (shE h4), rfl⟩) rfl (Nat.le_of_ble_eq_true rfl) ⟨(Nat.le_of_ble_eq_true rfl), (Nat.le_of_ble_eq_true rfl)⟩ ⟨(Nat.le_of_ble_eq_true rfl), (Nat.le_of_ble_eq_true rfl)⟩ (fun z5 h6 e7 => ?_)
    refine WPe_st (st2 := [vI z5.1]) rfl ?_
    refine WPe_istore_n (pc := 22) (ls' := [(1, vI z5.1), (0, vR x0)]) (dd dtX5_text 11 rfl) (Nat.le_of_ble_eq_true rfl) rfl ?_
    refine WPe_aload_n (pc := 23) 1 (dd dtX5_text 12 rfl) rfl ?_
    refine WPe_getR (pc := 24) (t := 5) (C := RX5) (T := TX5) 0 (dd dtX5_text 13 rfl) (e7.at (shE h1) (by decide)) rfl (Nat.le_of_ble_eq_true rfl) rfl (bw_mem2 120 rfl rfl) ?_
    refine WPe_iconst (pc := 27) (0 : Int32) (dd dtX5_text 14 rfl) (by decide) ?_
    refine WPe_ck fun h8 => ?_
    refine WPe_putI (pc := 28) (t := 3) (C := RX3) (T := TX3) 1 (dd dtX5_text 15 rfl) (shE h8) rfl (Nat.le_of_ble_eq_true rfl) (bw_mem1 30 rfl rfl) (Or.inl rfl) rfl rfl rfl ?_
    refine WPe_lw fun w9 e10 => ?_
    refine WPe_iload_n (pc := 31) 0 (dd dtX5_text 16 rfl) rfl ?_
    refine WPe_if_lt (pc := 32) 40 (dd dtX5_text 17 rfl) (by decide) (fun h11 => ?_) (fun h11 => ?_)
    · refine WPe_aload_n (pc := 40) 1 (dd dtX5_text 22 rfl) rfl ?_
      refine WPe_getR (pc := 41) (t := 5) (C := RX5) (T := TX5) 1 (dd dtX5_text 23 rfl) (shI e10 (e7.at (shE h1) (by decide))) rfl (Nat.le_of_ble_eq_true rfl) rfl (bw_mem2 121 rfl rfl) ?_
      refine WPe_aload_n (pc := 44) 1 (dd dtX5_text 24 rfl) rfl ?_
      refine WPe_getI (pc := 45) (t := 5) (C := RX5) (T := TX5) 2 (dd dtX5_text 25 rfl) (shI e10 (e7.at (shE h1) (by decide))) rfl (Nat.le_of_ble_eq_true rfl) rfl (bw_mem2 122 rfl rfl) ?_
      refine WPe_aload_n (pc := 48) 1 (dd dtX5_text 26 rfl) rfl ?_
      refine WPe_getR (pc := 49) (t := 5) (C := RX5) (T := TX5) 0 (dd dtX5_text 27 rfl) (shI e10 (e7.at (shE h1) (by decide))) rfl (Nat.le_of_ble_eq_true rfl) rfl (bw_mem2 120 rfl rfl) ?_
      refine WPe_aload_n (pc := 52) 1 (dd dtX5_text 28 rfl) rfl ?_
      refine WPe_getI (pc := 53) (t := 5) (C := RX5) (T := TX5) 2 (dd dtX5_text 29 rfl) (shI e10 (e7.at (shE h1) (by decide))) rfl (Nat.le_of_ble_eq_true rfl) rfl (bw_mem2 122 rfl rfl) ?_
      refine WPe_ck fun h12 => ?_
      refine WPe_callV (pc := 56) (rtc := rtR) (Mc := mX3_textRead) (d' := 2) (mc' := 3) (ms' := 205) [vI (wi w9 x0 2)] [vI (wi w9 x0 2), vR (wr w9 x0 1)] rfl (dd dtX5_text 30 rfl) (okf3_textRead (wr w9 x0 0) (wi w9 x0 2) w9) moX3_textRead miX3_textRead (bw_mem1 220 rfl rfl) (Or.inl ⟨_, _, _, _, (shE h12), rfl⟩) rfl (Nat.le_of_ble_eq_true rfl) ⟨(Nat.le_of_ble_eq_true rfl), (Nat.le_of_ble_eq_true rfl)⟩ ⟨(Nat.le_of_ble_eq_true rfl), (Nat.le_of_ble_eq_true rfl)⟩ (fun z13 h14 e15 => ?_)
      refine WPe_st (st2 := [vR z13.1, vI (wi w9 x0 2), vR (wr w9 x0 1)]) rfl ?_
      refine WPe_ck fun h16 => ?_
      refine WPe_ck fun h17 => ?_
      refine WPe_aast (pc := 59) (T := TX4) (N := 5) (dd dtX5_text 31 rfl) (shE h16.1) ⟨(Nat.le_of_ble_eq_true rfl), (Nat.le_of_ble_eq_true rfl)⟩ h16.2 (shE h17) rfl ?_
      refine WPe_lw fun w18 e19 => ?_
      refine WPe_aload_n (pc := 60) 1 (dd dtX5_text 32 rfl) rfl ?_
      refine WPe_dup (pc := 61) (dd dtX5_text 33 rfl) rfl ?_
      refine WPe_getI (pc := 62) (t := 5) (C := RX5) (T := TX5) 2 (dd dtX5_text 34 rfl) (shR e19 (e15.at (shI e10 (e7.at (shE h1) (by decide))) (by decide))) rfl (Nat.le_of_ble_eq_true rfl) rfl (bw_mem2 122 rfl rfl) ?_
      refine WPe_iconst (pc := 65) (1 : Int32) (dd dtX5_text 35 rfl) (by decide) ?_
      refine WPe_iadd (pc := 66) (dd dtX5_text 36 rfl) ?_
      refine WPe_putI (pc := 67) (t := 5) (C := RX5) (T := TX5) 2 (dd dtX5_text 37 rfl) (shR e19 (e15.at (shI e10 (e7.at (shE h1) (by decide))) (by decide))) rfl (Nat.le_of_ble_eq_true rfl) (bw_mem2 122 rfl rfl) (Or.inl rfl) rfl rfl rfl ?_
      refine WPe_lw fun w20 e21 => ?_
      refine WPe_aload_n (pc := 70) 1 (dd dtX5_text 38 rfl) rfl ?_
      refine WPe_getI (pc := 71) (t := 5) (C := RX5) (T := TX5) 2 (dd dtX5_text 39 rfl) (shI e21 (shR e19 (e15.at (shI e10 (e7.at (shE h1) (by decide))) (by decide)))) rfl (Nat.le_of_ble_eq_true rfl) rfl (bw_mem2 122 rfl rfl) ?_
      refine WPe_iconst (pc := 74) (1 : Int32) (dd dtX5_text 40 rfl) (by decide) ?_
      refine WPe_isub (pc := 75) (dd dtX5_text 41 rfl) ?_
      exact WPe_ireturn (pc := 76) (dd dtX5_text 42 rfl) rfl rfl ⟨(Nat.le_of_ble_eq_true rfl), (Nat.le_of_ble_eq_true rfl)⟩
    · refine WPe_bipush (pc := 35) (-100 : Int32) (dd dtX5_text 18 rfl) (by decide) ?_
      refine WPe_iload_n (pc := 37) 0 (dd dtX5_text 19 rfl) rfl ?_
      refine WPe_isub (pc := 38) (dd dtX5_text 20 rfl) ?_
      exact WPe_ireturn (pc := 39) (dd dtX5_text 21 rfl) rfl rfl ⟨(Nat.le_of_ble_eq_true rfl), (Nat.le_of_ble_eq_true rfl)⟩
  · refine WPe_bipush (pc := 12) (-4 : Int32) (dd dtX5_text 6 rfl) (by decide) ?_
    exact WPe_ireturn (pc := 14) (dd dtX5_text 7 rfl) rfl rfl ⟨(Nat.le_of_ble_eq_true rfl), (Nat.le_of_ble_eq_true rfl)⟩
theorem okf5_text (x0 : Nat) (w : Wd) : ∀ z, f5_text x0 w = some z → OkM mX5_text 51 3 205 [vR x0] w (rtI z.1) z.2 :=
  OkM.of (rt := rtI) moX5_text (Nat.le_of_ble_eq_true rfl) (fun X => wpf5_text X w x0 w)
def tbX5_force : List (Nat × Instr × Nat) := [(0, .iload_n 1, 1), (1, .ifCond .lt 20, 3), (4, .iload_n 1, 1), (5, .aload_n 0, 1), (6, .getfield 40, 3), (9, .if_icmp .ge 12, 3), (12, .iload_n 1, 1), (13, .aload_n 0, 1), (14, .getfield 36, 3), (17, .arraylength, 1), (18, .if_icmp .lt 6, 3), (21, .bipush (-2), 2), (23, .ireturn, 1), (24, .aload_n 0, 1), (25, .getfield 48, 3), (28, .getfield 74, 3), (31, .getfield 78, 3), (34, .istore_n 2, 1), (35, .aload_n 0, 1), (36, .getfield 48, 3), (39, .aload_n 0, 1), (40, .getfield 36, 3), (43, .iload_n 1, 1), (44, .aaload, 1), (45, .putfield 74, 3), (48, .iload_n 2, 1), (49, .ireturn, 1)]
set_option maxRecDepth 20000 in
theorem dtX5_force : ∀ x ∈ tbX5_force, decode cX5_force x.1 = .ok x.2 := by decide +kernel
noncomputable def f5_force (x0 : Nat) (x1 : Int32) (w : Wd) : Option (Int32 × Wd) :=
  if x1 < (0 : Int32) then (some ((-2 : Int32), w)) else (ck (tg w x0 = 5) (if (wi w x0 2) ≤ x1 then (some ((-2 : Int32), w)) else (ck (tg w (wr w x0 1) = 21) (if x1 < (Int32.ofNat (ln w (wr w x0 1))) then (ck (tg w (wr w x0 3) = 1) (ck (tg w (wr w (wr w x0 3) 5) = 4) (ck (vp_in x1 (ln w (wr w x0 1))) (lw (sR w (wr w x0 3) 5 (wr w (wr w x0 1) (x1).toNatClampNeg)) fun w9 => (some ((wi w (wr w (wr w x0 3) 5) 0), w9)))))) else (some ((-2 : Int32), w))))))
theorem wpf5_force (X : CX) (w0 : Wd) (x0 : Nat) (x1 : Int32) (w : Wd) : WPe rtI X (mX5_force, 1, 0, 0, w0) 0 0 (f5_force x0 x1 w) 0 [(0, vR x0), (1, vI x1)] [] w := by
  unfold f5_force
  refine WPe_iload_n (pc := 0) 1 (dd dtX5_force 0 rfl) rfl ?_
  refine WPe_if_lt (pc := 1) 21 (dd dtX5_force 1 rfl) (by decide) (fun h1 => ?_) (fun h1 => ?_)
  · refine WPe_bipush (pc := 21) (-2 : Int32) (dd dtX5_force 11 rfl) (by decide) ?_
    exact WPe_ireturn (pc := 23) (dd dtX5_force 12 rfl) rfl rfl ⟨(Nat.le_of_ble_eq_true rfl), (Nat.le_of_ble_eq_true rfl)⟩
  · refine WPe_iload_n (pc := 4) 1 (dd dtX5_force 2 rfl) rfl ?_
    refine WPe_aload_n (pc := 5) 0 (dd dtX5_force 3 rfl) rfl ?_
    refine WPe_ck fun h2 => ?_
    refine WPe_getI (pc := 6) (t := 5) (C := RX5) (T := TX5) 2 (dd dtX5_force 4 rfl) (shE h2) rfl (Nat.le_of_ble_eq_true rfl) rfl (bw_mem2 122 rfl rfl) ?_
    refine WPe_icmp_ge (pc := 9) 21 (dd dtX5_force 5 rfl) (by decide) (fun h3 => ?_) (fun h3 => ?_)
    · refine WPe_bipush (pc := 21) (-2 : Int32) (dd dtX5_force 11 rfl) (by decide) ?_
      exact WPe_ireturn (pc := 23) (dd dtX5_force 12 rfl) rfl rfl ⟨(Nat.le_of_ble_eq_true rfl), (Nat.le_of_ble_eq_true rfl)⟩
    · refine WPe_iload_n (pc := 12) 1 (dd dtX5_force 6 rfl) rfl ?_
      refine WPe_aload_n (pc := 13) 0 (dd dtX5_force 7 rfl) rfl ?_
      refine WPe_getR (pc := 14) (t := 5) (C := RX5) (T := TX5) 1 (dd dtX5_force 8 rfl) (shE h2) rfl (Nat.le_of_ble_eq_true rfl) rfl (bw_mem2 121 rfl rfl) ?_
      refine WPe_ck fun h4 => ?_
      refine WPe_alen (pc := 17) (dd dtX5_force 9 rfl) (shL (shE h4)) ⟨(Nat.le_of_ble_eq_true rfl), (Nat.le_of_ble_eq_true rfl)⟩ ?_
      refine WPe_icmp_lt (pc := 18) 24 (dd dtX5_force 10 rfl) (by decide) (fun h5 => ?_) (fun h5 => ?_)
      · refine WPe_aload_n (pc := 24) 0 (dd dtX5_force 13 rfl) rfl ?_
        refine WPe_getR (pc := 25) (t := 5) (C := RX5) (T := TX5) 3 (dd dtX5_force 14 rfl) (shE h2) rfl (Nat.le_of_ble_eq_true rfl) rfl (bw_mem2 123 rfl rfl) ?_
        refine WPe_ck fun h6 => ?_
        refine WPe_getR (pc := 28) (t := 1) (C := RX1) (T := TX1) 5 (dd dtX5_force 15 rfl) (shE h6) rfl (Nat.le_of_ble_eq_true rfl) rfl (bw_mem2 82 rfl rfl) ?_
        refine WPe_ck fun h7 => ?_
        refine WPe_getI (pc := 31) (t := 4) (C := RX4) (T := TX4) 0 (dd dtX5_force 16 rfl) (shE h7) rfl (Nat.le_of_ble_eq_true rfl) rfl (bw_mem2 7 rfl rfl) ?_
        refine WPe_istore_n (pc := 34) (ls' := [(2, vI (wi w (wr w (wr w x0 3) 5) 0)), (0, vR x0), (1, vI x1)]) (dd dtX5_force 17 rfl) (Nat.le_of_ble_eq_true rfl) rfl ?_
        refine WPe_aload_n (pc := 35) 1 (dd dtX5_force 18 rfl) rfl ?_
        refine WPe_getR (pc := 36) (t := 5) (C := RX5) (T := TX5) 3 (dd dtX5_force 19 rfl) (shE h2) rfl (Nat.le_of_ble_eq_true rfl) rfl (bw_mem2 123 rfl rfl) ?_
        refine WPe_aload_n (pc := 39) 1 (dd dtX5_force 20 rfl) rfl ?_
        refine WPe_getR (pc := 40) (t := 5) (C := RX5) (T := TX5) 1 (dd dtX5_force 21 rfl) (shE h2) rfl (Nat.le_of_ble_eq_true rfl) rfl (bw_mem2 121 rfl rfl) ?_
        refine WPe_iload_n (pc := 43) 2 (dd dtX5_force 22 rfl) rfl ?_
        refine WPe_ck fun h8 => ?_
        refine WPe_aald (pc := 44) (dd dtX5_force 23 rfl) (shL (shE h4)) ⟨(Nat.le_of_ble_eq_true rfl), (Nat.le_of_ble_eq_true rfl)⟩ h8 ?_
        refine WPe_putR (pc := 45) (t := 1) (C := RX1) (T := TX1) 5 (dd dtX5_force 24 rfl) (shE h6) rfl (Nat.le_of_ble_eq_true rfl) (bw_mem2 82 rfl rfl) (Or.inl rfl) rfl ?_
        refine WPe_lw fun w9 e10 => ?_
        refine WPe_iload_n (pc := 48) 0 (dd dtX5_force 25 rfl) rfl ?_
        exact WPe_ireturn (pc := 49) (dd dtX5_force 26 rfl) rfl rfl ⟨(Nat.le_of_ble_eq_true rfl), (Nat.le_of_ble_eq_true rfl)⟩
      · refine WPe_bipush (pc := 21) (-2 : Int32) (dd dtX5_force 11 rfl) (by decide) ?_
        exact WPe_ireturn (pc := 23) (dd dtX5_force 12 rfl) rfl rfl ⟨(Nat.le_of_ble_eq_true rfl), (Nat.le_of_ble_eq_true rfl)⟩
theorem okf5_force (x0 : Nat) (x1 : Int32) (w : Wd) : ∀ z, f5_force x0 x1 w = some z → OkM mX5_force 1 0 0 [vR x0, vI x1] w (rtI z.1) z.2 :=
  OkM.of (rt := rtI) moX5_force (Nat.le_of_ble_eq_true rfl) (fun X => wpf5_force X w x0 x1 w)
def tbX5_asks : List (Nat × Instr × Nat) := [(0, .iload_n 1, 1), (1, .iconst 0, 1), (2, .iconst 2, 1), (3, .invokestatic 111, 3), (6, .ifCond .eq 14, 3), (9, .aload_n 0, 1), (10, .getfield 48, 3), (13, .iload_n 2, 1), (14, .invokevirtual 115, 3), (17, .ifCond .ne 7, 3), (20, .sipush (-1000), 3), (23, .ireturn, 1), (24, .aload_n 0, 1), (25, .getfield 48, 3), (28, .getfield 74, 3), (31, .iload_n 1, 1), (32, .aload_n 0, 1), (33, .getfield 48, 3), (36, .aload_n 0, 1), (37, .getfield 48, 3), (40, .getfield 118, 3), (43, .iload_n 2, 1), (44, .aaload, 1), (45, .invokevirtual 122, 3), (48, .ireturn, 1)]
set_option maxRecDepth 20000 in
theorem dtX5_asks : ∀ x ∈ tbX5_asks, decode cX5_asks x.1 = .ok x.2 := by decide +kernel
noncomputable def f5_asks (x0 : Nat) (x1 : Int32) (x2 : Int32) (w : Wd) : Option (Int32 × Wd) :=
  (f5_isWithin x1 (0 : Int32) (2 : Int32) w).bind fun z1 => (if z1.1 = (0 : Int32) then (some ((-1000 : Int32), z1.2)) else (ck (tg z1.2 x0 = 5) (ck (tg z1.2 (wr z1.2 x0 3) = 1) ((f1_has (wr z1.2 x0 3) x2 z1.2).bind fun z7 => (if z7.1 = (0 : Int32) then (some ((-1000 : Int32), z7.2)) else (ck (tg z7.2 (wr z7.2 x0 3) = 1) (ck (tg z7.2 (wr z7.2 (wr z7.2 x0 3) 6) = 22 ∧ vp_in x2 (ln z7.2 (wr z7.2 (wr z7.2 x0 3) 6))) (ck (tg z7.2 (wr z7.2 (wr z7.2 x0 3) 5) = 4) ((f4_says (wr z7.2 (wr z7.2 x0 3) 5) x1 (wr z7.2 x0 3) (wr z7.2 (wr z7.2 (wr z7.2 x0 3) 6) (x2).toNatClampNeg) z7.2).bind fun z14 => (some (z14.1, z14.2)))))))))))
theorem wpf5_asks (X : CX) (w0 : Wd) (x0 : Nat) (x1 : Int32) (x2 : Int32) (w : Wd) : WPe rtI X (mX5_asks, 3, 0, 0, w0) 0 0 (f5_asks x0 x1 x2 w) 0 [(0, vR x0), (1, vI x1), (2, vI x2)] [] w := by
  unfold f5_asks
  refine WPe_iload_n (pc := 0) 1 (dd dtX5_asks 0 rfl) rfl ?_
  refine WPe_iconst (pc := 1) (0 : Int32) (dd dtX5_asks 1 rfl) (by decide) ?_
  refine WPe_iconst (pc := 2) (2 : Int32) (dd dtX5_asks 2 rfl) (by decide) ?_
  refine WPe_callS (pc := 3) (rtc := rtI) (Mc := mX5_isWithin) (d' := 1) (mc' := 0) (ms' := 0) [vI x1, vI (0 : Int32), vI (2 : Int32)] [] rfl (dd dtX5_asks 3 rfl) (okf5_isWithin x1 (0 : Int32) (2 : Int32) w) moX5_isWithin msX5_isWithin (bw_mem2 176 rfl rfl) rfl (Nat.le_of_ble_eq_true rfl) ⟨(Nat.le_of_ble_eq_true rfl), (Nat.le_of_ble_eq_true rfl)⟩ ⟨(Nat.le_of_ble_eq_true rfl), (Nat.le_of_ble_eq_true rfl)⟩ (fun z1 h2 e3 => ?_)
  refine WPe_st (st2 := [vI z1.1]) rfl ?_
  refine WPe_if_eq (pc := 6) 20 (dd dtX5_asks 4 rfl) (by decide) (fun h4 => ?_) (fun h4 => ?_)
  · refine WPe_sipush (pc := 20) (-1000 : Int32) (dd dtX5_asks 10 rfl) (by decide) ?_
    exact WPe_ireturn (pc := 23) (dd dtX5_asks 11 rfl) rfl rfl ⟨(Nat.le_of_ble_eq_true rfl), (Nat.le_of_ble_eq_true rfl)⟩
  · refine WPe_aload_n (pc := 9) 0 (dd dtX5_asks 5 rfl) rfl ?_
    refine WPe_ck fun h5 => ?_
    refine WPe_getR (pc := 10) (t := 5) (C := RX5) (T := TX5) 3 (dd dtX5_asks 6 rfl) (shE h5) rfl (Nat.le_of_ble_eq_true rfl) rfl (bw_mem2 123 rfl rfl) ?_
    refine WPe_iload_n (pc := 13) 2 (dd dtX5_asks 7 rfl) rfl ?_
    refine WPe_ck fun h6 => ?_
    refine WPe_callV (pc := 14) (rtc := rtI) (Mc := mX1_has) (d' := 1) (mc' := 0) (ms' := 0) [vI x2] [] rfl (dd dtX5_asks 8 rfl) (okf1_has (wr z1.2 x0 3) x2 z1.2) moX1_has miX1_has (bw_mem2 193 rfl rfl) (Or.inl ⟨_, _, _, _, (shE h6), rfl⟩) rfl (Nat.le_of_ble_eq_true rfl) ⟨(Nat.le_of_ble_eq_true rfl), (Nat.le_of_ble_eq_true rfl)⟩ ⟨(Nat.le_of_ble_eq_true rfl), (Nat.le_of_ble_eq_true rfl)⟩ (fun z7 h8 e9 => ?_)
    refine WPe_st (st2 := [vI z7.1]) rfl ?_
    refine WPe_if_ne (pc := 17) 24 (dd dtX5_asks 9 rfl) (by decide) (fun h10 => ?_) (fun h10 => ?_)
    · refine WPe_sipush (pc := 20) (-1000 : Int32) (dd dtX5_asks 10 rfl) (by decide) ?_
      exact WPe_ireturn (pc := 23) (dd dtX5_asks 11 rfl) rfl rfl ⟨(Nat.le_of_ble_eq_true rfl), (Nat.le_of_ble_eq_true rfl)⟩
    · refine WPe_aload_n (pc := 24) 0 (dd dtX5_asks 12 rfl) rfl ?_
      refine WPe_getR (pc := 25) (t := 5) (C := RX5) (T := TX5) 3 (dd dtX5_asks 13 rfl) (e9.at (shE h5) (by decide)) rfl (Nat.le_of_ble_eq_true rfl) rfl (bw_mem2 123 rfl rfl) ?_
      refine WPe_ck fun h11 => ?_
      refine WPe_getR (pc := 28) (t := 1) (C := RX1) (T := TX1) 5 (dd dtX5_asks 14 rfl) (shE h11) rfl (Nat.le_of_ble_eq_true rfl) rfl (bw_mem2 82 rfl rfl) ?_
      refine WPe_iload_n (pc := 31) 1 (dd dtX5_asks 15 rfl) rfl ?_
      refine WPe_aload_n (pc := 32) 0 (dd dtX5_asks 16 rfl) rfl ?_
      refine WPe_getR (pc := 33) (t := 5) (C := RX5) (T := TX5) 3 (dd dtX5_asks 17 rfl) (e9.at (shE h5) (by decide)) rfl (Nat.le_of_ble_eq_true rfl) rfl (bw_mem2 123 rfl rfl) ?_
      refine WPe_aload_n (pc := 36) 0 (dd dtX5_asks 18 rfl) rfl ?_
      refine WPe_getR (pc := 37) (t := 5) (C := RX5) (T := TX5) 3 (dd dtX5_asks 19 rfl) (e9.at (shE h5) (by decide)) rfl (Nat.le_of_ble_eq_true rfl) rfl (bw_mem2 123 rfl rfl) ?_
      refine WPe_getR (pc := 40) (t := 1) (C := RX1) (T := TX1) 6 (dd dtX5_asks 20 rfl) (shE h11) rfl (Nat.le_of_ble_eq_true rfl) rfl (bw_mem2 84 rfl rfl) ?_
      refine WPe_iload_n (pc := 43) 2 (dd dtX5_asks 21 rfl) rfl ?_
      refine WPe_ck fun h12 => ?_
      refine WPe_aald (pc := 44) (dd dtX5_asks 22 rfl) (shE h12.1) ⟨(Nat.le_of_ble_eq_true rfl), (Nat.le_of_ble_eq_true rfl)⟩ h12.2 ?_
      refine WPe_ck fun h13 => ?_
      refine WPe_callV (pc := 45) (rtc := rtI) (Mc := mX4_says) (d' := 2) (mc' := 0) (ms' := 0) [vI x1, vR (wr z7.2 x0 3), vR (wr z7.2 (wr z7.2 (wr z7.2 x0 3) 6) (x2).toNatClampNeg)] [] rfl (dd dtX5_asks 23 rfl) (okf4_says (wr z7.2 (wr z7.2 x0 3) 5) x1 (wr z7.2 x0 3) (wr z7.2 (wr z7.2 (wr z7.2 x0 3) 6) (x2).toNatClampNeg) z7.2) moX4_says miX4_says (bw_mem2 197 rfl rfl) (Or.inl ⟨_, _, _, _, (shE h13), rfl⟩) rfl (Nat.le_of_ble_eq_true rfl) ⟨(Nat.le_of_ble_eq_true rfl), (Nat.le_of_ble_eq_true rfl)⟩ ⟨(Nat.le_of_ble_eq_true rfl), (Nat.le_of_ble_eq_true rfl)⟩ (fun z14 h15 e16 => ?_)
      refine WPe_st (st2 := [vI z14.1]) rfl ?_
      exact WPe_ireturn (pc := 48) (dd dtX5_asks 24 rfl) rfl rfl ⟨(Nat.le_of_ble_eq_true rfl), (Nat.le_of_ble_eq_true rfl)⟩
theorem okf5_asks (x0 : Nat) (x1 : Int32) (x2 : Int32) (w : Wd) : ∀ z, f5_asks x0 x1 x2 w = some z → OkM mX5_asks 3 0 0 [vR x0, vI x1, vI x2] w (rtI z.1) z.2 :=
  OkM.of (rt := rtI) moX5_asks (Nat.le_of_ble_eq_true rfl) (fun X => wpf5_asks X w x0 x1 x2 w)
def tbX5_bather : List (Nat × Instr × Nat) := [(0, .aload_n 0, 1), (1, .getfield 48, 3), (4, .iload_n 1, 1), (5, .iload_n 2, 1), (6, .invokevirtual 126, 3), (9, .ireturn, 1)]
set_option maxRecDepth 20000 in
theorem dtX5_bather : ∀ x ∈ tbX5_bather, decode cX5_bather x.1 = .ok x.2 := by decide +kernel
noncomputable def f5_bather (x0 : Nat) (x1 : Int32) (x2 : Int32) (w : Wd) : Option (Int32 × Wd) :=
  ck (tg w x0 = 5) (ck (tg w (wr w x0 3) = 1) ((f1_letIn (wr w x0 3) x1 x2 w).bind fun z3 => (some (z3.1, z3.2))))
theorem wpf5_bather (X : CX) (w0 : Wd) (x0 : Nat) (x1 : Int32) (x2 : Int32) (w : Wd) : WPe rtI X (mX5_bather, 2, 0, 0, w0) 0 0 (f5_bather x0 x1 x2 w) 0 [(0, vR x0), (1, vI x1), (2, vI x2)] [] w := by
  unfold f5_bather
  refine WPe_aload_n (pc := 0) 0 (dd dtX5_bather 0 rfl) rfl ?_
  refine WPe_ck fun h1 => ?_
  refine WPe_getR (pc := 1) (t := 5) (C := RX5) (T := TX5) 3 (dd dtX5_bather 1 rfl) (shE h1) rfl (Nat.le_of_ble_eq_true rfl) rfl (bw_mem2 123 rfl rfl) ?_
  refine WPe_iload_n (pc := 4) 1 (dd dtX5_bather 2 rfl) rfl ?_
  refine WPe_iload_n (pc := 5) 2 (dd dtX5_bather 3 rfl) rfl ?_
  refine WPe_ck fun h2 => ?_
  refine WPe_callV (pc := 6) (rtc := rtI) (Mc := mX1_letIn) (d' := 1) (mc' := 0) (ms' := 0) [vI x1, vI x2] [] rfl (dd dtX5_bather 4 rfl) (okf1_letIn (wr w x0 3) x1 x2 w) moX1_letIn miX1_letIn (bw_mem2 219 rfl rfl) (Or.inl ⟨_, _, _, _, (shE h2), rfl⟩) rfl (Nat.le_of_ble_eq_true rfl) ⟨(Nat.le_of_ble_eq_true rfl), (Nat.le_of_ble_eq_true rfl)⟩ ⟨(Nat.le_of_ble_eq_true rfl), (Nat.le_of_ble_eq_true rfl)⟩ (fun z3 h4 e5 => ?_)
  refine WPe_st (st2 := [vI z3.1]) rfl ?_
  exact WPe_ireturn (pc := 9) (dd dtX5_bather 5 rfl) rfl rfl ⟨(Nat.le_of_ble_eq_true rfl), (Nat.le_of_ble_eq_true rfl)⟩
theorem okf5_bather (x0 : Nat) (x1 : Int32) (x2 : Int32) (w : Wd) : ∀ z, f5_bather x0 x1 x2 w = some z → OkM mX5_bather 2 0 0 [vR x0, vI x1, vI x2] w (rtI z.1) z.2 :=
  OkM.of (rt := rtI) moX5_bather (Nat.le_of_ble_eq_true rfl) (fun X => wpf5_bather X w x0 x1 x2 w)
def tbX5_told : List (Nat × Instr × Nat) := [(0, .aload_n 0, 1), (1, .getfield 48, 3), (4, .iload_n 1, 1), (5, .invokevirtual 115, 3), (8, .ifCond .ne 7, 3), (11, .sipush (-5000), 3), (14, .ireturn, 1), (15, .aload_n 0, 1), (16, .getfield 48, 3), (19, .getfield 118, 3), (22, .iload_n 1, 1), (23, .aaload, 1), (24, .astore_n 3, 1), (25, .iload_n 2, 1), (26, .tableswitch 98 0 7 #[46, 51, 56, 61, 66, 71, 80, 89], 46), (72, .aload_n 3, 1), (73, .getfield 133, 3), (76, .ireturn, 1), (77, .aload_n 3, 1), (78, .getfield 138, 3), (81, .ireturn, 1), (82, .aload_n 3, 1), (83, .getfield 141, 3), (86, .ireturn, 1), (87, .aload_n 3, 1), (88, .getfield 144, 3), (91, .ireturn, 1), (92, .aload_n 3, 1), (93, .getfield 147, 3), (96, .ireturn, 1), (97, .aload_n 0, 1), (98, .getfield 48, 3), (101, .aload_n 3, 1), (102, .invokevirtual 150, 3), (105, .ireturn, 1), (106, .aload_n 0, 1), (107, .getfield 48, 3), (110, .aload_n 3, 1), (111, .invokevirtual 154, 3), (114, .ireturn, 1), (115, .aload_n 0, 1), (116, .getfield 48, 3), (119, .aload_n 3, 1), (120, .invokevirtual 157, 3), (123, .ireturn, 1), (124, .sipush (-7000), 3), (127, .ireturn, 1)]
set_option maxRecDepth 20000 in
theorem dtX5_told : ∀ x ∈ tbX5_told, decode cX5_told x.1 = .ok x.2 := by decide +kernel
noncomputable def f5_told (x0 : Nat) (x1 : Int32) (x2 : Int32) (w : Wd) : Option (Int32 × Wd) :=
  ck (tg w x0 = 5) (ck (tg w (wr w x0 3) = 1) ((f1_has (wr w x0 3) x1 w).bind fun z3 => (if z3.1 = (0 : Int32) then (some ((-5000 : Int32), z3.2)) else (ck (tg z3.2 (wr z3.2 x0 3) = 1) (ck (tg z3.2 (wr z3.2 (wr z3.2 x0 3) 6) = 22 ∧ vp_in x1 (ln z3.2 (wr z3.2 (wr z3.2 x0 3) 6))) (if x2 = (0 : Int32) then (ck (tg z3.2 (wr z3.2 (wr z3.2 (wr z3.2 x0 3) 6) (x1).toNatClampNeg) = 0) (some ((wi z3.2 (wr z3.2 (wr z3.2 (wr z3.2 x0 3) 6) (x1).toNatClampNeg) 2), z3.2))) else (if x2 = (1 : Int32) then (ck (tg z3.2 (wr z3.2 (wr z3.2 (wr z3.2 x0 3) 6) (x1).toNatClampNeg) = 0) (some ((wi z3.2 (wr z3.2 (wr z3.2 (wr z3.2 x0 3) 6) (x1).toNatClampNeg) 3), z3.2))) else (if x2 = (2 : Int32) then (ck (tg z3.2 (wr z3.2 (wr z3.2 (wr z3.2 x0 3) 6) (x1).toNatClampNeg) = 0) (some ((wi z3.2 (wr z3.2 (wr z3.2 (wr z3.2 x0 3) 6) (x1).toNatClampNeg) 4), z3.2))) else (if x2 = (3 : Int32) then (ck (tg z3.2 (wr z3.2 (wr z3.2 (wr z3.2 x0 3) 6) (x1).toNatClampNeg) = 0) (some ((wi z3.2 (wr z3.2 (wr z3.2 (wr z3.2 x0 3) 6) (x1).toNatClampNeg) 0), z3.2))) else (if x2 = (4 : Int32) then (ck (tg z3.2 (wr z3.2 (wr z3.2 (wr z3.2 x0 3) 6) (x1).toNatClampNeg) = 0) (some ((wi z3.2 (wr z3.2 (wr z3.2 (wr z3.2 x0 3) 6) (x1).toNatClampNeg) 1), z3.2))) else (if x2 = (5 : Int32) then ((f1_feelsOf (wr z3.2 x0 3) (wr z3.2 (wr z3.2 (wr z3.2 x0 3) 6) (x1).toNatClampNeg) z3.2).bind fun z20 => (some (z20.1, z20.2))) else (if x2 = (6 : Int32) then ((f1_bearsOf (wr z3.2 x0 3) (wr z3.2 (wr z3.2 (wr z3.2 x0 3) 6) (x1).toNatClampNeg) z3.2).bind fun z24 => (some (z24.1, z24.2))) else (if x2 = (7 : Int32) then ((f1_gladOf (wr z3.2 x0 3) (wr z3.2 (wr z3.2 (wr z3.2 x0 3) 6) (x1).toNatClampNeg) z3.2).bind fun z28 => (some (z28.1, z28.2))) else (some ((-7000 : Int32), z3.2)))))))))))))))
theorem wpf5_told (X : CX) (w0 : Wd) (x0 : Nat) (x1 : Int32) (x2 : Int32) (w : Wd) : WPe rtI X (mX5_told, 4, 0, 0, w0) 0 0 (f5_told x0 x1 x2 w) 0 [(0, vR x0), (1, vI x1), (2, vI x2)] [] w := by
  unfold f5_told
  refine WPe_aload_n (pc := 0) 0 (dd dtX5_told 0 rfl) rfl ?_
  refine WPe_ck fun h1 => ?_
  refine WPe_getR (pc := 1) (t := 5) (C := RX5) (T := TX5) 3 (dd dtX5_told 1 rfl) (shE h1) rfl (Nat.le_of_ble_eq_true rfl) rfl (bw_mem2 123 rfl rfl) ?_
  refine WPe_iload_n (pc := 4) 1 (dd dtX5_told 2 rfl) rfl ?_
  refine WPe_ck fun h2 => ?_
  refine WPe_callV (pc := 5) (rtc := rtI) (Mc := mX1_has) (d' := 1) (mc' := 0) (ms' := 0) [vI x1] [] rfl (dd dtX5_told 3 rfl) (okf1_has (wr w x0 3) x1 w) moX1_has miX1_has (bw_mem2 193 rfl rfl) (Or.inl ⟨_, _, _, _, (shE h2), rfl⟩) rfl (Nat.le_of_ble_eq_true rfl) ⟨(Nat.le_of_ble_eq_true rfl), (Nat.le_of_ble_eq_true rfl)⟩ ⟨(Nat.le_of_ble_eq_true rfl), (Nat.le_of_ble_eq_true rfl)⟩ (fun z3 h4 e5 => ?_)
  refine WPe_st (st2 := [vI z3.1]) rfl ?_
  refine WPe_if_ne (pc := 8) 15 (dd dtX5_told 4 rfl) (by decide) (fun h6 => ?_) (fun h6 => ?_)
  · refine WPe_sipush (pc := 11) (-5000 : Int32) (dd dtX5_told 5 rfl) (by decide) ?_
    exact WPe_ireturn (pc := 14) (dd dtX5_told 6 rfl) rfl rfl ⟨(Nat.le_of_ble_eq_true rfl), (Nat.le_of_ble_eq_true rfl)⟩
  · refine WPe_aload_n (pc := 15) 0 (dd dtX5_told 7 rfl) rfl ?_
    refine WPe_getR (pc := 16) (t := 5) (C := RX5) (T := TX5) 3 (dd dtX5_told 8 rfl) (e5.at (shE h1) (by decide)) rfl (Nat.le_of_ble_eq_true rfl) rfl (bw_mem2 123 rfl rfl) ?_
    refine WPe_ck fun h7 => ?_
    refine WPe_getR (pc := 19) (t := 1) (C := RX1) (T := TX1) 6 (dd dtX5_told 9 rfl) (shE h7) rfl (Nat.le_of_ble_eq_true rfl) rfl (bw_mem2 84 rfl rfl) ?_
    refine WPe_iload_n (pc := 22) 1 (dd dtX5_told 10 rfl) rfl ?_
    refine WPe_ck fun h8 => ?_
    refine WPe_aald (pc := 23) (dd dtX5_told 11 rfl) (shE h8.1) ⟨(Nat.le_of_ble_eq_true rfl), (Nat.le_of_ble_eq_true rfl)⟩ h8.2 ?_
    refine WPe_astore_n (pc := 24) (ls' := [(3, vR (wr z3.2 (wr z3.2 (wr z3.2 x0 3) 6) (x1).toNatClampNeg)), (0, vR x0), (1, vI x1), (2, vI x2)]) (dd dtX5_told 12 rfl) (Nat.le_of_ble_eq_true rfl) rfl ?_
    refine WPe_iload_n (pc := 25) 3 (dd dtX5_told 13 rfl) rfl ?_
    refine WPe_ite (fun h9 => ?_) (fun h9 => ?_)
    · refine WPe_tabIn (pc := 26) (0 : Int32) 72 (dd dtX5_told 14 rfl) h9 (by decide) (by decide) rfl (by decide) ?_
      refine WPe_aload_n (pc := 72) 0 (dd dtX5_told 15 rfl) rfl ?_
      refine WPe_ck fun h10 => ?_
      refine WPe_getI (pc := 73) (t := 0) (C := RX0) (T := TX0) 2 (dd dtX5_told 16 rfl) (shE h10) rfl (Nat.le_of_ble_eq_true rfl) rfl (bw_mem2 49 rfl rfl) ?_
      exact WPe_ireturn (pc := 76) (dd dtX5_told 17 rfl) rfl rfl ⟨(Nat.le_of_ble_eq_true rfl), (Nat.le_of_ble_eq_true rfl)⟩
    · refine WPe_ite (fun h11 => ?_) (fun h11 => ?_)
      · refine WPe_tabIn (pc := 26) (1 : Int32) 77 (dd dtX5_told 14 rfl) h11 (by decide) (by decide) rfl (by decide) ?_
        refine WPe_aload_n (pc := 77) 0 (dd dtX5_told 18 rfl) rfl ?_
        refine WPe_ck fun h12 => ?_
        refine WPe_getI (pc := 78) (t := 0) (C := RX0) (T := TX0) 3 (dd dtX5_told 19 rfl) (shE h12) rfl (Nat.le_of_ble_eq_true rfl) rfl (bw_mem2 53 rfl rfl) ?_
        exact WPe_ireturn (pc := 81) (dd dtX5_told 20 rfl) rfl rfl ⟨(Nat.le_of_ble_eq_true rfl), (Nat.le_of_ble_eq_true rfl)⟩
      · refine WPe_ite (fun h13 => ?_) (fun h13 => ?_)
        · refine WPe_tabIn (pc := 26) (2 : Int32) 82 (dd dtX5_told 14 rfl) h13 (by decide) (by decide) rfl (by decide) ?_
          refine WPe_aload_n (pc := 82) 0 (dd dtX5_told 21 rfl) rfl ?_
          refine WPe_ck fun h14 => ?_
          refine WPe_getI (pc := 83) (t := 0) (C := RX0) (T := TX0) 4 (dd dtX5_told 22 rfl) (shE h14) rfl (Nat.le_of_ble_eq_true rfl) rfl (bw_mem2 56 rfl rfl) ?_
          exact WPe_ireturn (pc := 86) (dd dtX5_told 23 rfl) rfl rfl ⟨(Nat.le_of_ble_eq_true rfl), (Nat.le_of_ble_eq_true rfl)⟩
        · refine WPe_ite (fun h15 => ?_) (fun h15 => ?_)
          · refine WPe_tabIn (pc := 26) (3 : Int32) 87 (dd dtX5_told 14 rfl) h15 (by decide) (by decide) rfl (by decide) ?_
            refine WPe_aload_n (pc := 87) 0 (dd dtX5_told 24 rfl) rfl ?_
            refine WPe_ck fun h16 => ?_
            refine WPe_getI (pc := 88) (t := 0) (C := RX0) (T := TX0) 0 (dd dtX5_told 25 rfl) (shE h16) rfl (Nat.le_of_ble_eq_true rfl) rfl (bw_mem2 41 rfl rfl) ?_
            exact WPe_ireturn (pc := 91) (dd dtX5_told 26 rfl) rfl rfl ⟨(Nat.le_of_ble_eq_true rfl), (Nat.le_of_ble_eq_true rfl)⟩
          · refine WPe_ite (fun h17 => ?_) (fun h17 => ?_)
            · refine WPe_tabIn (pc := 26) (4 : Int32) 92 (dd dtX5_told 14 rfl) h17 (by decide) (by decide) rfl (by decide) ?_
              refine WPe_aload_n (pc := 92) 0 (dd dtX5_told 27 rfl) rfl ?_
              refine WPe_ck fun h18 => ?_
              refine WPe_getI (pc := 93) (t := 0) (C := RX0) (T := TX0) 1 (dd dtX5_told 28 rfl) (shE h18) rfl (Nat.le_of_ble_eq_true rfl) rfl (bw_mem2 45 rfl rfl) ?_
              exact WPe_ireturn (pc := 96) (dd dtX5_told 29 rfl) rfl rfl ⟨(Nat.le_of_ble_eq_true rfl), (Nat.le_of_ble_eq_true rfl)⟩
            · refine WPe_ite (fun h19 => ?_) (fun h19 => ?_)
              · refine WPe_tabIn (pc := 26) (5 : Int32) 97 (dd dtX5_told 14 rfl) h19 (by decide) (by decide) rfl (by decide) ?_
                refine WPe_aload_n (pc := 97) 1 (dd dtX5_told 30 rfl) rfl ?_
                refine WPe_getR (pc := 98) (t := 5) (C := RX5) (T := TX5) 3 (dd dtX5_told 31 rfl) (e5.at (shE h1) (by decide)) rfl (Nat.le_of_ble_eq_true rfl) rfl (bw_mem2 123 rfl rfl) ?_
                refine WPe_aload_n (pc := 101) 0 (dd dtX5_told 32 rfl) rfl ?_
                refine WPe_callV (pc := 102) (rtc := rtI) (Mc := mX1_feelsOf) (d' := 3) (mc' := 0) (ms' := 0) [vR (wr z3.2 (wr z3.2 (wr z3.2 x0 3) 6) (x1).toNatClampNeg)] [] rfl (dd dtX5_told 33 rfl) (okf1_feelsOf (wr z3.2 x0 3) (wr z3.2 (wr z3.2 (wr z3.2 x0 3) 6) (x1).toNatClampNeg) z3.2) moX1_feelsOf miX1_feelsOf (bw_mem2 231 rfl rfl) (Or.inl ⟨_, _, _, _, (shE h7), rfl⟩) rfl (Nat.le_of_ble_eq_true rfl) ⟨(Nat.le_of_ble_eq_true rfl), (Nat.le_of_ble_eq_true rfl)⟩ ⟨(Nat.le_of_ble_eq_true rfl), (Nat.le_of_ble_eq_true rfl)⟩ (fun z20 h21 e22 => ?_)
                refine WPe_st (st2 := [vI z20.1]) rfl ?_
                exact WPe_ireturn (pc := 105) (dd dtX5_told 34 rfl) rfl rfl ⟨(Nat.le_of_ble_eq_true rfl), (Nat.le_of_ble_eq_true rfl)⟩
              · refine WPe_ite (fun h23 => ?_) (fun h23 => ?_)
                · refine WPe_tabIn (pc := 26) (6 : Int32) 106 (dd dtX5_told 14 rfl) h23 (by decide) (by decide) rfl (by decide) ?_
                  refine WPe_aload_n (pc := 106) 1 (dd dtX5_told 35 rfl) rfl ?_
                  refine WPe_getR (pc := 107) (t := 5) (C := RX5) (T := TX5) 3 (dd dtX5_told 36 rfl) (e5.at (shE h1) (by decide)) rfl (Nat.le_of_ble_eq_true rfl) rfl (bw_mem2 123 rfl rfl) ?_
                  refine WPe_aload_n (pc := 110) 0 (dd dtX5_told 37 rfl) rfl ?_
                  refine WPe_callV (pc := 111) (rtc := rtI) (Mc := mX1_bearsOf) (d' := 3) (mc' := 0) (ms' := 0) [vR (wr z3.2 (wr z3.2 (wr z3.2 x0 3) 6) (x1).toNatClampNeg)] [] rfl (dd dtX5_told 38 rfl) (okf1_bearsOf (wr z3.2 x0 3) (wr z3.2 (wr z3.2 (wr z3.2 x0 3) 6) (x1).toNatClampNeg) z3.2) moX1_bearsOf miX1_bearsOf (bw_mem2 236 rfl rfl) (Or.inl ⟨_, _, _, _, (shE h7), rfl⟩) rfl (Nat.le_of_ble_eq_true rfl) ⟨(Nat.le_of_ble_eq_true rfl), (Nat.le_of_ble_eq_true rfl)⟩ ⟨(Nat.le_of_ble_eq_true rfl), (Nat.le_of_ble_eq_true rfl)⟩ (fun z24 h25 e26 => ?_)
                  refine WPe_st (st2 := [vI z24.1]) rfl ?_
                  exact WPe_ireturn (pc := 114) (dd dtX5_told 39 rfl) rfl rfl ⟨(Nat.le_of_ble_eq_true rfl), (Nat.le_of_ble_eq_true rfl)⟩
                · refine WPe_ite (fun h27 => ?_) (fun h27 => ?_)
                  · refine WPe_tabIn (pc := 26) (7 : Int32) 115 (dd dtX5_told 14 rfl) h27 (by decide) (by decide) rfl (by decide) ?_
                    refine WPe_aload_n (pc := 115) 1 (dd dtX5_told 40 rfl) rfl ?_
                    refine WPe_getR (pc := 116) (t := 5) (C := RX5) (T := TX5) 3 (dd dtX5_told 41 rfl) (e5.at (shE h1) (by decide)) rfl (Nat.le_of_ble_eq_true rfl) rfl (bw_mem2 123 rfl rfl) ?_
                    refine WPe_aload_n (pc := 119) 0 (dd dtX5_told 42 rfl) rfl ?_
                    refine WPe_callV (pc := 120) (rtc := rtI) (Mc := mX1_gladOf) (d' := 3) (mc' := 0) (ms' := 0) [vR (wr z3.2 (wr z3.2 (wr z3.2 x0 3) 6) (x1).toNatClampNeg)] [] rfl (dd dtX5_told 43 rfl) (okf1_gladOf (wr z3.2 x0 3) (wr z3.2 (wr z3.2 (wr z3.2 x0 3) 6) (x1).toNatClampNeg) z3.2) moX1_gladOf miX1_gladOf (bw_mem3 0 rfl rfl) (Or.inl ⟨_, _, _, _, (shE h7), rfl⟩) rfl (Nat.le_of_ble_eq_true rfl) ⟨(Nat.le_of_ble_eq_true rfl), (Nat.le_of_ble_eq_true rfl)⟩ ⟨(Nat.le_of_ble_eq_true rfl), (Nat.le_of_ble_eq_true rfl)⟩ (fun z28 h29 e30 => ?_)
                    refine WPe_st (st2 := [vI z28.1]) rfl ?_
                    exact WPe_ireturn (pc := 123) (dd dtX5_told 44 rfl) rfl rfl ⟨(Nat.le_of_ble_eq_true rfl), (Nat.le_of_ble_eq_true rfl)⟩
                  · refine WPe_tabOut (pc := 26) 124 (dd dtX5_told 14 rfl) (fun j hj => ?_) (by decide) ?_
                    · match j, hj with
                      | 0, _ => exact Or.inr (tneq h9 (by decide))
                      | 1, _ => exact Or.inr (tneq h11 (by decide))
                      | 2, _ => exact Or.inr (tneq h13 (by decide))
                      | 3, _ => exact Or.inr (tneq h15 (by decide))
                      | 4, _ => exact Or.inr (tneq h17 (by decide))
                      | 5, _ => exact Or.inr (tneq h19 (by decide))
                      | 6, _ => exact Or.inr (tneq h23 (by decide))
                      | 7, _ => exact Or.inr (tneq h27 (by decide))
                      | j + 8, h => exact absurd h (by omega)
                    refine WPe_sipush (pc := 124) (-7000 : Int32) (dd dtX5_told 45 rfl) (by decide) ?_
                    exact WPe_ireturn (pc := 127) (dd dtX5_told 46 rfl) rfl rfl ⟨(Nat.le_of_ble_eq_true rfl), (Nat.le_of_ble_eq_true rfl)⟩
theorem okf5_told (x0 : Nat) (x1 : Int32) (x2 : Int32) (w : Wd) : ∀ z, f5_told x0 x1 x2 w = some z → OkM mX5_told 4 0 0 [vR x0, vI x1, vI x2] w (rtI z.1) z.2 :=
  OkM.of (rt := rtI) moX5_told (Nat.le_of_ble_eq_true rfl) (fun X => wpf5_told X w x0 x1 x2 w)
def tbX5_put : List (Nat × Instr × Nat) := [(0, .aload_n 0, 1), (1, .getfield 48, 3), (4, .iload_n 1, 1), (5, .invokevirtual 115, 3), (8, .ifCond .ne 6, 3), (11, .bipush (-5), 2), (13, .ireturn, 1), (14, .iload_n 2, 1), (15, .ifCond .ne 7, 3), (18, .iconst 3, 1), (19, .goto 17, 3), (22, .iload_n 2, 1), (23, .iconst 1, 1), (24, .if_icmp .ne 9, 3), (27, .sipush 999, 3), (30, .goto 6, 3), (33, .sipush 999, 3), (36, .istore 4, 2), (38, .iload_n 2, 1), (39, .iconst 0, 1), (40, .iconst 2, 1), (41, .invokestatic 111, 3), (44, .ifCond .eq 13, 3), (47, .iload_n 3, 1), (48, .iconst 0, 1), (49, .iload 4, 2), (51, .invokestatic 111, 3), (54, .ifCond .ne 6, 3), (57, .bipush (-7), 2), (59, .ireturn, 1), (60, .aload_n 0, 1), (61, .getfield 48, 3), (64, .getfield 118, 3), (67, .iload_n 1, 1), (68, .aaload, 1), (69, .astore 5, 2), (71, .aload_n 0, 1), (72, .iload_n 1, 1), (73, .iload_n 2, 1), (74, .invokevirtual 130, 3), (77, .istore 6, 2), (79, .iload_n 2, 1), (80, .ifCond .ne 12, 3), (83, .aload 5, 2), (85, .iload_n 3, 1), (86, .putfield 133, 3), (89, .goto 23, 3), (92, .iload_n 2, 1), (93, .iconst 1, 1), (94, .if_icmp .ne 12, 3), (97, .aload 5, 2), (99, .iload_n 3, 1), (100, .putfield 138, 3), (103, .goto 9, 3), (106, .aload 5, 2), (108, .iload_n 3, 1), (109, .putfield 141, 3), (112, .iload 6, 2), (114, .ireturn, 1)]
set_option maxRecDepth 20000 in
theorem dtX5_put : ∀ x ∈ tbX5_put, decode cX5_put x.1 = .ok x.2 := by decide +kernel
noncomputable def j5_put_36  (x0 : Nat) (x1 : Int32) (x2 : Int32) (x3 : Int32) (s0 : Int32) (w : Wd) : Option (Int32 × Wd) :=
  (f5_isWithin x2 (0 : Int32) (2 : Int32) w).bind fun z8 => (if z8.1 = (0 : Int32) then (some ((-7 : Int32), z8.2)) else ((f5_isWithin x3 (0 : Int32) s0 z8.2).bind fun z12 => (if z12.1 = (0 : Int32) then (some ((-7 : Int32), z12.2)) else (ck (tg z12.2 x0 = 5) (ck (tg z12.2 (wr z12.2 x0 3) = 1) (ck (tg z12.2 (wr z12.2 (wr z12.2 x0 3) 6) = 22 ∧ vp_in x1 (ln z12.2 (wr z12.2 (wr z12.2 x0 3) 6))) ((f5_told x0 x1 x2 z12.2).bind fun z19 => (if x2 = (0 : Int32) then (ck (tg z19.2 (wr z12.2 (wr z12.2 (wr z12.2 x0 3) 6) (x1).toNatClampNeg) = 0) (lw (sI z19.2 (wr z12.2 (wr z12.2 (wr z12.2 x0 3) 6) (x1).toNatClampNeg) 2 x3) fun w24 => (some (z19.1, w24)))) else (if x2 = (1 : Int32) then (ck (tg z19.2 (wr z12.2 (wr z12.2 (wr z12.2 x0 3) 6) (x1).toNatClampNeg) = 0) (lw (sI z19.2 (wr z12.2 (wr z12.2 (wr z12.2 x0 3) 6) (x1).toNatClampNeg) 3 x3) fun w28 => (some (z19.1, w28)))) else (ck (tg z19.2 (wr z12.2 (wr z12.2 (wr z12.2 x0 3) 6) (x1).toNatClampNeg) = 0) (lw (sI z19.2 (wr z12.2 (wr z12.2 (wr z12.2 x0 3) 6) (x1).toNatClampNeg) 4 x3) fun w31 => (some (z19.1, w31)))))))))))))
theorem wpj5_put_36 (X : CX) (w0 : Wd)  (x0 : Nat) (x1 : Int32) (x2 : Int32) (x3 : Int32) (s0 : Int32) (w : Wd) : WPe rtI X (mX5_put, 5, 0, 0, w0) 0 0 (j5_put_36  x0 x1 x2 x3 s0 w) 36 [(0, vR x0), (1, vI x1), (2, vI x2), (3, vI x3)] [vI s0] w := by
  unfold j5_put_36
  refine WPe_istore (pc := 36) (ls' := [(4, vI s0), (0, vR x0), (1, vI x1), (2, vI x2), (3, vI x3)]) (dd dtX5_put 17 rfl) (Nat.le_of_ble_eq_true rfl) rfl ?_
  refine WPe_iload_n (pc := 38) 3 (dd dtX5_put 18 rfl) rfl ?_
  refine WPe_iconst (pc := 39) (0 : Int32) (dd dtX5_put 19 rfl) (by decide) ?_
  refine WPe_iconst (pc := 40) (2 : Int32) (dd dtX5_put 20 rfl) (by decide) ?_
  refine WPe_callS (pc := 41) (rtc := rtI) (Mc := mX5_isWithin) (d' := 1) (mc' := 0) (ms' := 0) [vI x2, vI (0 : Int32), vI (2 : Int32)] [] rfl (dd dtX5_put 21 rfl) (okf5_isWithin x2 (0 : Int32) (2 : Int32) w) moX5_isWithin msX5_isWithin (bw_mem2 176 rfl rfl) rfl (Nat.le_of_ble_eq_true rfl) ⟨(Nat.le_of_ble_eq_true rfl), (Nat.le_of_ble_eq_true rfl)⟩ ⟨(Nat.le_of_ble_eq_true rfl), (Nat.le_of_ble_eq_true rfl)⟩ (fun z8 h9 e10 => ?_)
  refine WPe_st (st2 := [vI z8.1]) rfl ?_
  refine WPe_if_eq (pc := 44) 57 (dd dtX5_put 22 rfl) (by decide) (fun h11 => ?_) (fun h11 => ?_)
  · refine WPe_bipush (pc := 57) (-7 : Int32) (dd dtX5_put 28 rfl) (by decide) ?_
    exact WPe_ireturn (pc := 59) (dd dtX5_put 29 rfl) rfl rfl ⟨(Nat.le_of_ble_eq_true rfl), (Nat.le_of_ble_eq_true rfl)⟩
  · refine WPe_iload_n (pc := 47) 4 (dd dtX5_put 23 rfl) rfl ?_
    refine WPe_iconst (pc := 48) (0 : Int32) (dd dtX5_put 24 rfl) (by decide) ?_
    refine WPe_iload (pc := 49) 0 (dd dtX5_put 25 rfl) rfl ?_
    refine WPe_callS (pc := 51) (rtc := rtI) (Mc := mX5_isWithin) (d' := 1) (mc' := 0) (ms' := 0) [vI x3, vI (0 : Int32), vI s0] [] rfl (dd dtX5_put 26 rfl) (okf5_isWithin x3 (0 : Int32) s0 z8.2) moX5_isWithin msX5_isWithin (bw_mem2 176 rfl rfl) rfl (Nat.le_of_ble_eq_true rfl) ⟨(Nat.le_of_ble_eq_true rfl), (Nat.le_of_ble_eq_true rfl)⟩ ⟨(Nat.le_of_ble_eq_true rfl), (Nat.le_of_ble_eq_true rfl)⟩ (fun z12 h13 e14 => ?_)
    refine WPe_st (st2 := [vI z12.1]) rfl ?_
    refine WPe_if_ne (pc := 54) 60 (dd dtX5_put 27 rfl) (by decide) (fun h15 => ?_) (fun h15 => ?_)
    · refine WPe_bipush (pc := 57) (-7 : Int32) (dd dtX5_put 28 rfl) (by decide) ?_
      exact WPe_ireturn (pc := 59) (dd dtX5_put 29 rfl) rfl rfl ⟨(Nat.le_of_ble_eq_true rfl), (Nat.le_of_ble_eq_true rfl)⟩
    · refine WPe_aload_n (pc := 60) 1 (dd dtX5_put 30 rfl) rfl ?_
      refine WPe_ck fun h16 => ?_
      refine WPe_getR (pc := 61) (t := 5) (C := RX5) (T := TX5) 3 (dd dtX5_put 31 rfl) (shE h16) rfl (Nat.le_of_ble_eq_true rfl) rfl (bw_mem2 123 rfl rfl) ?_
      refine WPe_ck fun h17 => ?_
      refine WPe_getR (pc := 64) (t := 1) (C := RX1) (T := TX1) 6 (dd dtX5_put 32 rfl) (shE h17) rfl (Nat.le_of_ble_eq_true rfl) rfl (bw_mem2 84 rfl rfl) ?_
      refine WPe_iload_n (pc := 67) 2 (dd dtX5_put 33 rfl) rfl ?_
      refine WPe_ck fun h18 => ?_
      refine WPe_aald (pc := 68) (dd dtX5_put 34 rfl) (shE h18.1) ⟨(Nat.le_of_ble_eq_true rfl), (Nat.le_of_ble_eq_true rfl)⟩ h18.2 ?_
      refine WPe_astore (pc := 69) (ls' := [(5, vR (wr z12.2 (wr z12.2 (wr z12.2 x0 3) 6) (x1).toNatClampNeg)), (4, vI s0), (0, vR x0), (1, vI x1), (2, vI x2), (3, vI x3)]) (dd dtX5_put 35 rfl) (Nat.le_of_ble_eq_true rfl) rfl ?_
      refine WPe_aload_n (pc := 71) 2 (dd dtX5_put 36 rfl) rfl ?_
      refine WPe_iload_n (pc := 72) 3 (dd dtX5_put 37 rfl) rfl ?_
      refine WPe_iload_n (pc := 73) 4 (dd dtX5_put 38 rfl) rfl ?_
      refine WPe_callV (pc := 74) (rtc := rtI) (Mc := mX5_told) (d' := 4) (mc' := 0) (ms' := 0) [vI x1, vI x2] [] rfl (dd dtX5_put 39 rfl) (okf5_told x0 x1 x2 z12.2) moX5_told miX5_told (bw_mem2 227 rfl rfl) (Or.inl ⟨_, _, _, _, (shE h16), rfl⟩) rfl (Nat.le_of_ble_eq_true rfl) ⟨(Nat.le_of_ble_eq_true rfl), (Nat.le_of_ble_eq_true rfl)⟩ ⟨(Nat.le_of_ble_eq_true rfl), (Nat.le_of_ble_eq_true rfl)⟩ (fun z19 h20 e21 => ?_)
      refine WPe_st (st2 := [vI z19.1]) rfl ?_
      refine WPe_istore (pc := 77) (ls' := [(6, vI z19.1), (5, vR (wr z12.2 (wr z12.2 (wr z12.2 x0 3) 6) (x1).toNatClampNeg)), (4, vI s0), (0, vR x0), (1, vI x1), (2, vI x2), (3, vI x3)]) (dd dtX5_put 40 rfl) (Nat.le_of_ble_eq_true rfl) rfl ?_
      refine WPe_iload_n (pc := 79) 5 (dd dtX5_put 41 rfl) rfl ?_
      refine WPe_if_ne (pc := 80) 92 (dd dtX5_put 42 rfl) (by decide) (fun h22 => ?_) (fun h22 => ?_)
      · refine WPe_aload (pc := 83) 1 (dd dtX5_put 43 rfl) rfl ?_
        refine WPe_iload_n (pc := 85) 6 (dd dtX5_put 44 rfl) rfl ?_
        refine WPe_ck fun h23 => ?_
        refine WPe_putI (pc := 86) (t := 0) (C := RX0) (T := TX0) 2 (dd dtX5_put 45 rfl) (shE h23) rfl (Nat.le_of_ble_eq_true rfl) (bw_mem2 49 rfl rfl) (Or.inl rfl) rfl rfl rfl ?_
        refine WPe_lw fun w24 e25 => ?_
        refine WPe_goto (pc := 89) 112 (dd dtX5_put 46 rfl) (by decide) ?_
        refine WPe_iload (pc := 112) 0 (dd dtX5_put 57 rfl) rfl ?_
        exact WPe_ireturn (pc := 114) (dd dtX5_put 58 rfl) rfl rfl ⟨(Nat.le_of_ble_eq_true rfl), (Nat.le_of_ble_eq_true rfl)⟩
      · refine WPe_iload_n (pc := 92) 5 (dd dtX5_put 47 rfl) rfl ?_
        refine WPe_iconst (pc := 93) (1 : Int32) (dd dtX5_put 48 rfl) (by decide) ?_
        refine WPe_icmp_ne (pc := 94) 106 (dd dtX5_put 49 rfl) (by decide) (fun h26 => ?_) (fun h26 => ?_)
        · refine WPe_aload (pc := 97) 1 (dd dtX5_put 50 rfl) rfl ?_
          refine WPe_iload_n (pc := 99) 6 (dd dtX5_put 51 rfl) rfl ?_
          refine WPe_ck fun h27 => ?_
          refine WPe_putI (pc := 100) (t := 0) (C := RX0) (T := TX0) 3 (dd dtX5_put 52 rfl) (shE h27) rfl (Nat.le_of_ble_eq_true rfl) (bw_mem2 53 rfl rfl) (Or.inl rfl) rfl rfl rfl ?_
          refine WPe_lw fun w28 e29 => ?_
          refine WPe_goto (pc := 103) 112 (dd dtX5_put 53 rfl) (by decide) ?_
          refine WPe_iload (pc := 112) 0 (dd dtX5_put 57 rfl) rfl ?_
          exact WPe_ireturn (pc := 114) (dd dtX5_put 58 rfl) rfl rfl ⟨(Nat.le_of_ble_eq_true rfl), (Nat.le_of_ble_eq_true rfl)⟩
        · refine WPe_aload (pc := 106) 1 (dd dtX5_put 54 rfl) rfl ?_
          refine WPe_iload_n (pc := 108) 6 (dd dtX5_put 55 rfl) rfl ?_
          refine WPe_ck fun h30 => ?_
          refine WPe_putI (pc := 109) (t := 0) (C := RX0) (T := TX0) 4 (dd dtX5_put 56 rfl) (shE h30) rfl (Nat.le_of_ble_eq_true rfl) (bw_mem2 56 rfl rfl) (Or.inl rfl) rfl rfl rfl ?_
          refine WPe_lw fun w31 e32 => ?_
          refine WPe_iload (pc := 112) 0 (dd dtX5_put 57 rfl) rfl ?_
          exact WPe_ireturn (pc := 114) (dd dtX5_put 58 rfl) rfl rfl ⟨(Nat.le_of_ble_eq_true rfl), (Nat.le_of_ble_eq_true rfl)⟩
noncomputable def f5_put (x0 : Nat) (x1 : Int32) (x2 : Int32) (x3 : Int32) (w : Wd) : Option (Int32 × Wd) :=
  ck (tg w x0 = 5) (ck (tg w (wr w x0 3) = 1) ((f1_has (wr w x0 3) x1 w).bind fun z3 => (if z3.1 = (0 : Int32) then (some ((-5 : Int32), z3.2)) else (if x2 = (0 : Int32) then (j5_put_36 x0 x1 x2 x3 (3 : Int32) z3.2) else (if x2 = (1 : Int32) then (j5_put_36 x0 x1 x2 x3 (999 : Int32) z3.2) else (j5_put_36 x0 x1 x2 x3 (999 : Int32) z3.2))))))
theorem wpf5_put (X : CX) (w0 : Wd) (x0 : Nat) (x1 : Int32) (x2 : Int32) (x3 : Int32) (w : Wd) : WPe rtI X (mX5_put, 5, 0, 0, w0) 0 0 (f5_put x0 x1 x2 x3 w) 0 [(0, vR x0), (1, vI x1), (2, vI x2), (3, vI x3)] [] w := by
  unfold f5_put
  refine WPe_aload_n (pc := 0) 0 (dd dtX5_put 0 rfl) rfl ?_
  refine WPe_ck fun h1 => ?_
  refine WPe_getR (pc := 1) (t := 5) (C := RX5) (T := TX5) 3 (dd dtX5_put 1 rfl) (shE h1) rfl (Nat.le_of_ble_eq_true rfl) rfl (bw_mem2 123 rfl rfl) ?_
  refine WPe_iload_n (pc := 4) 1 (dd dtX5_put 2 rfl) rfl ?_
  refine WPe_ck fun h2 => ?_
  refine WPe_callV (pc := 5) (rtc := rtI) (Mc := mX1_has) (d' := 1) (mc' := 0) (ms' := 0) [vI x1] [] rfl (dd dtX5_put 3 rfl) (okf1_has (wr w x0 3) x1 w) moX1_has miX1_has (bw_mem2 193 rfl rfl) (Or.inl ⟨_, _, _, _, (shE h2), rfl⟩) rfl (Nat.le_of_ble_eq_true rfl) ⟨(Nat.le_of_ble_eq_true rfl), (Nat.le_of_ble_eq_true rfl)⟩ ⟨(Nat.le_of_ble_eq_true rfl), (Nat.le_of_ble_eq_true rfl)⟩ (fun z3 h4 e5 => ?_)
  refine WPe_st (st2 := [vI z3.1]) rfl ?_
  refine WPe_if_ne (pc := 8) 14 (dd dtX5_put 4 rfl) (by decide) (fun h6 => ?_) (fun h6 => ?_)
  · refine WPe_bipush (pc := 11) (-5 : Int32) (dd dtX5_put 5 rfl) (by decide) ?_
    exact WPe_ireturn (pc := 13) (dd dtX5_put 6 rfl) rfl rfl ⟨(Nat.le_of_ble_eq_true rfl), (Nat.le_of_ble_eq_true rfl)⟩
  · refine WPe_iload_n (pc := 14) 2 (dd dtX5_put 7 rfl) rfl ?_
    refine WPe_if_ne (pc := 15) 22 (dd dtX5_put 8 rfl) (by decide) (fun h7 => ?_) (fun h7 => ?_)
    · refine WPe_iconst (pc := 18) (3 : Int32) (dd dtX5_put 9 rfl) (by decide) ?_
      refine WPe_goto (pc := 19) 36 (dd dtX5_put 10 rfl) (by decide) ?_
      refine WPe_sub [0, 1, 2, 3] rfl ?_
      exact wpj5_put_36 X w0  x0 x1 x2 x3 (3 : Int32) z3.2
    · refine WPe_iload_n (pc := 22) 2 (dd dtX5_put 11 rfl) rfl ?_
      refine WPe_iconst (pc := 23) (1 : Int32) (dd dtX5_put 12 rfl) (by decide) ?_
      refine WPe_icmp_ne (pc := 24) 33 (dd dtX5_put 13 rfl) (by decide) (fun h33 => ?_) (fun h33 => ?_)
      · refine WPe_sipush (pc := 27) (999 : Int32) (dd dtX5_put 14 rfl) (by decide) ?_
        refine WPe_goto (pc := 30) 36 (dd dtX5_put 15 rfl) (by decide) ?_
        refine WPe_sub [0, 1, 2, 3] rfl ?_
        exact wpj5_put_36 X w0  x0 x1 x2 x3 (999 : Int32) z3.2
      · refine WPe_sipush (pc := 33) (999 : Int32) (dd dtX5_put 16 rfl) (by decide) ?_
        refine WPe_sub [0, 1, 2, 3] rfl ?_
        exact wpj5_put_36 X w0  x0 x1 x2 x3 (999 : Int32) z3.2
theorem okf5_put (x0 : Nat) (x1 : Int32) (x2 : Int32) (x3 : Int32) (w : Wd) : ∀ z, f5_put x0 x1 x2 x3 w = some z → OkM mX5_put 5 0 0 [vR x0, vI x1, vI x2, vI x3] w (rtI z.1) z.2 :=
  OkM.of (rt := rtI) moX5_put (Nat.le_of_ble_eq_true rfl) (fun X => wpf5_put X w x0 x1 x2 x3 w)
def tbX5_pour : List (Nat × Instr × Nat) := [(0, .iload_n 1, 1), (1, .iconst 1, 1), (2, .iconst 3, 1), (3, .invokestatic 111, 3), (6, .ifCond .ne 6, 3), (9, .bipush (-2), 2), (11, .ireturn, 1), (12, .aload_n 0, 1), (13, .getfield 48, 3), (16, .iload_n 1, 1), (17, .invokevirtual 160, 3), (20, .ifCond .eq 13, 3), (23, .aload_n 0, 1), (24, .getfield 48, 3), (27, .getfield 94, 3), (30, .goto 5, 3), (33, .bipush (-3), 2), (35, .ireturn, 1)]
set_option maxRecDepth 20000 in
theorem dtX5_pour : ∀ x ∈ tbX5_pour, decode cX5_pour x.1 = .ok x.2 := by decide +kernel
noncomputable def f5_pour (x0 : Nat) (x1 : Int32) (w : Wd) : Option (Int32 × Wd) :=
  (f5_isWithin x1 (1 : Int32) (3 : Int32) w).bind fun z1 => (if z1.1 = (0 : Int32) then (some ((-2 : Int32), z1.2)) else (ck (tg z1.2 x0 = 5) (ck (tg z1.2 (wr z1.2 x0 3) = 1) ((f1_pourLadles (wr z1.2 x0 3) x1 z1.2).bind fun z7 => (if z7.1 = (0 : Int32) then (some ((-3 : Int32), z7.2)) else (ck (tg z7.2 (wr z7.2 x0 3) = 1) (some ((wi z7.2 (wr z7.2 x0 3) 2), z7.2))))))))
theorem wpf5_pour (X : CX) (w0 : Wd) (x0 : Nat) (x1 : Int32) (w : Wd) : WPe rtI X (mX5_pour, 2, 0, 0, w0) 0 0 (f5_pour x0 x1 w) 0 [(0, vR x0), (1, vI x1)] [] w := by
  unfold f5_pour
  refine WPe_iload_n (pc := 0) 1 (dd dtX5_pour 0 rfl) rfl ?_
  refine WPe_iconst (pc := 1) (1 : Int32) (dd dtX5_pour 1 rfl) (by decide) ?_
  refine WPe_iconst (pc := 2) (3 : Int32) (dd dtX5_pour 2 rfl) (by decide) ?_
  refine WPe_callS (pc := 3) (rtc := rtI) (Mc := mX5_isWithin) (d' := 1) (mc' := 0) (ms' := 0) [vI x1, vI (1 : Int32), vI (3 : Int32)] [] rfl (dd dtX5_pour 3 rfl) (okf5_isWithin x1 (1 : Int32) (3 : Int32) w) moX5_isWithin msX5_isWithin (bw_mem2 176 rfl rfl) rfl (Nat.le_of_ble_eq_true rfl) ⟨(Nat.le_of_ble_eq_true rfl), (Nat.le_of_ble_eq_true rfl)⟩ ⟨(Nat.le_of_ble_eq_true rfl), (Nat.le_of_ble_eq_true rfl)⟩ (fun z1 h2 e3 => ?_)
  refine WPe_st (st2 := [vI z1.1]) rfl ?_
  refine WPe_if_ne (pc := 6) 12 (dd dtX5_pour 4 rfl) (by decide) (fun h4 => ?_) (fun h4 => ?_)
  · refine WPe_bipush (pc := 9) (-2 : Int32) (dd dtX5_pour 5 rfl) (by decide) ?_
    exact WPe_ireturn (pc := 11) (dd dtX5_pour 6 rfl) rfl rfl ⟨(Nat.le_of_ble_eq_true rfl), (Nat.le_of_ble_eq_true rfl)⟩
  · refine WPe_aload_n (pc := 12) 0 (dd dtX5_pour 7 rfl) rfl ?_
    refine WPe_ck fun h5 => ?_
    refine WPe_getR (pc := 13) (t := 5) (C := RX5) (T := TX5) 3 (dd dtX5_pour 8 rfl) (shE h5) rfl (Nat.le_of_ble_eq_true rfl) rfl (bw_mem2 123 rfl rfl) ?_
    refine WPe_iload_n (pc := 16) 1 (dd dtX5_pour 9 rfl) rfl ?_
    refine WPe_ck fun h6 => ?_
    refine WPe_callV (pc := 17) (rtc := rtI) (Mc := mX1_pourLadles) (d' := 1) (mc' := 0) (ms' := 0) [vI x1] [] rfl (dd dtX5_pour 10 rfl) (okf1_pourLadles (wr z1.2 x0 3) x1 z1.2) moX1_pourLadles miX1_pourLadles (bw_mem3 10 rfl rfl) (Or.inl ⟨_, _, _, _, (shE h6), rfl⟩) rfl (Nat.le_of_ble_eq_true rfl) ⟨(Nat.le_of_ble_eq_true rfl), (Nat.le_of_ble_eq_true rfl)⟩ ⟨(Nat.le_of_ble_eq_true rfl), (Nat.le_of_ble_eq_true rfl)⟩ (fun z7 h8 e9 => ?_)
    refine WPe_st (st2 := [vI z7.1]) rfl ?_
    refine WPe_if_eq (pc := 20) 33 (dd dtX5_pour 11 rfl) (by decide) (fun h10 => ?_) (fun h10 => ?_)
    · refine WPe_bipush (pc := 33) (-3 : Int32) (dd dtX5_pour 16 rfl) (by decide) ?_
      exact WPe_ireturn (pc := 35) (dd dtX5_pour 17 rfl) rfl rfl ⟨(Nat.le_of_ble_eq_true rfl), (Nat.le_of_ble_eq_true rfl)⟩
    · refine WPe_aload_n (pc := 23) 0 (dd dtX5_pour 12 rfl) rfl ?_
      refine WPe_getR (pc := 24) (t := 5) (C := RX5) (T := TX5) 3 (dd dtX5_pour 13 rfl) (e9.at (shE h5) (by decide)) rfl (Nat.le_of_ble_eq_true rfl) rfl (bw_mem2 123 rfl rfl) ?_
      refine WPe_ck fun h11 => ?_
      refine WPe_getI (pc := 27) (t := 1) (C := RX1) (T := TX1) 2 (dd dtX5_pour 14 rfl) (shE h11) rfl (Nat.le_of_ble_eq_true rfl) rfl (bw_mem2 76 rfl rfl) ?_
      refine WPe_goto (pc := 30) 35 (dd dtX5_pour 15 rfl) (by decide) ?_
      exact WPe_ireturn (pc := 35) (dd dtX5_pour 17 rfl) rfl rfl ⟨(Nat.le_of_ble_eq_true rfl), (Nat.le_of_ble_eq_true rfl)⟩
theorem okf5_pour (x0 : Nat) (x1 : Int32) (w : Wd) : ∀ z, f5_pour x0 x1 w = some z → OkM mX5_pour 2 0 0 [vR x0, vI x1] w (rtI z.1) z.2 :=
  OkM.of (rt := rtI) moX5_pour (Nat.le_of_ble_eq_true rfl) (fun X => wpf5_pour X w x0 x1 w)
def tbX5_stoke : List (Nat × Instr × Nat) := [(0, .aload_n 0, 1), (1, .getfield 48, 3), (4, .getfield 97, 3), (7, .ifCond .ne 6, 3), (10, .bipush (-3), 2), (12, .ireturn, 1), (13, .aload_n 0, 1), (14, .getfield 48, 3), (17, .invokevirtual 163, 3), (20, .aload_n 0, 1), (21, .getfield 48, 3), (24, .getfield 91, 3), (27, .ireturn, 1)]
set_option maxRecDepth 20000 in
theorem dtX5_stoke : ∀ x ∈ tbX5_stoke, decode cX5_stoke x.1 = .ok x.2 := by decide +kernel
noncomputable def f5_stoke (x0 : Nat) (w : Wd) : Option (Int32 × Wd) :=
  ck (tg w x0 = 5) (ck (tg w (wr w x0 3) = 1) (if (wi w (wr w x0 3) 3) = (0 : Int32) then (some ((-3 : Int32), w)) else ((f1_burnLog (wr w x0 3) w).bind fun z4 => (ck (tg z4.2 (wr z4.2 x0 3) = 1) (some ((wi z4.2 (wr z4.2 x0 3) 1), z4.2))))))
theorem wpf5_stoke (X : CX) (w0 : Wd) (x0 : Nat) (w : Wd) : WPe rtI X (mX5_stoke, 2, 0, 0, w0) 0 0 (f5_stoke x0 w) 0 [(0, vR x0)] [] w := by
  unfold f5_stoke
  refine WPe_aload_n (pc := 0) 0 (dd dtX5_stoke 0 rfl) rfl ?_
  refine WPe_ck fun h1 => ?_
  refine WPe_getR (pc := 1) (t := 5) (C := RX5) (T := TX5) 3 (dd dtX5_stoke 1 rfl) (shE h1) rfl (Nat.le_of_ble_eq_true rfl) rfl (bw_mem2 123 rfl rfl) ?_
  refine WPe_ck fun h2 => ?_
  refine WPe_getI (pc := 4) (t := 1) (C := RX1) (T := TX1) 3 (dd dtX5_stoke 2 rfl) (shE h2) rfl (Nat.le_of_ble_eq_true rfl) rfl (bw_mem2 78 rfl rfl) ?_
  refine WPe_if_ne (pc := 7) 13 (dd dtX5_stoke 3 rfl) (by decide) (fun h3 => ?_) (fun h3 => ?_)
  · refine WPe_bipush (pc := 10) (-3 : Int32) (dd dtX5_stoke 4 rfl) (by decide) ?_
    exact WPe_ireturn (pc := 12) (dd dtX5_stoke 5 rfl) rfl rfl ⟨(Nat.le_of_ble_eq_true rfl), (Nat.le_of_ble_eq_true rfl)⟩
  · refine WPe_aload_n (pc := 13) 0 (dd dtX5_stoke 6 rfl) rfl ?_
    refine WPe_getR (pc := 14) (t := 5) (C := RX5) (T := TX5) 3 (dd dtX5_stoke 7 rfl) (shE h1) rfl (Nat.le_of_ble_eq_true rfl) rfl (bw_mem2 123 rfl rfl) ?_
    refine WPe_callV (pc := 17) (rtc := rtV) (Mc := mX1_burnLog) (d' := 1) (mc' := 0) (ms' := 0) [] [] rfl (dd dtX5_stoke 8 rfl) (okf1_burnLog (wr w x0 3) w) moX1_burnLog miX1_burnLog (bw_mem3 19 rfl rfl) (Or.inl ⟨_, _, _, _, (shE h2), rfl⟩) rfl (Nat.le_of_ble_eq_true rfl) ⟨(Nat.le_of_ble_eq_true rfl), (Nat.le_of_ble_eq_true rfl)⟩ ⟨(Nat.le_of_ble_eq_true rfl), (Nat.le_of_ble_eq_true rfl)⟩ (fun z4 h5 e6 => ?_)
    refine WPe_st (st2 := []) rfl ?_
    refine WPe_aload_n (pc := 20) 0 (dd dtX5_stoke 9 rfl) rfl ?_
    refine WPe_getR (pc := 21) (t := 5) (C := RX5) (T := TX5) 3 (dd dtX5_stoke 10 rfl) (e6.at (shE h1) (by decide)) rfl (Nat.le_of_ble_eq_true rfl) rfl (bw_mem2 123 rfl rfl) ?_
    refine WPe_ck fun h7 => ?_
    refine WPe_getI (pc := 24) (t := 1) (C := RX1) (T := TX1) 1 (dd dtX5_stoke 11 rfl) (shE h7) rfl (Nat.le_of_ble_eq_true rfl) rfl (bw_mem2 73 rfl rfl) ?_
    exact WPe_ireturn (pc := 27) (dd dtX5_stoke 12 rfl) rfl rfl ⟨(Nat.le_of_ble_eq_true rfl), (Nat.le_of_ble_eq_true rfl)⟩
theorem okf5_stoke (x0 : Nat) (w : Wd) : ∀ z, f5_stoke x0 w = some z → OkM mX5_stoke 2 0 0 [vR x0] w (rtI z.1) z.2 :=
  OkM.of (rt := rtI) moX5_stoke (Nat.le_of_ble_eq_true rfl) (fun X => wpf5_stoke X w x0 w)
def tbX5_door : List (Nat × Instr × Nat) := [(0, .aload_n 0, 1), (1, .getfield 48, 3), (4, .iload_n 1, 1), (5, .invokevirtual 115, 3), (8, .ifCond .ne 6, 3), (11, .bipush (-5), 2), (13, .ireturn, 1), (14, .iload_n 2, 1), (15, .iconst 0, 1), (16, .iconst 3, 1), (17, .invokestatic 111, 3), (20, .ifCond .ne 6, 3), (23, .bipush (-7), 2), (25, .ireturn, 1), (26, .aload_n 0, 1), (27, .getfield 48, 3), (30, .getfield 118, 3), (33, .iload_n 1, 1), (34, .aaload, 1), (35, .astore_n 3, 1), (36, .aload_n 3, 1), (37, .getfield 133, 3), (40, .istore 4, 2), (42, .iload 4, 2), (44, .iload_n 2, 1), (45, .if_icmp .ne 6, 3), (48, .bipush (-3), 2), (50, .ireturn, 1), (51, .aload_n 3, 1), (52, .iload_n 2, 1), (53, .putfield 133, 3), (56, .iload 4, 2), (58, .iconst 3, 1), (59, .if_icmp .eq 8, 3), (62, .iload_n 2, 1), (63, .iconst 3, 1), (64, .if_icmp .ne 10, 3), (67, .aload_n 0, 1), (68, .getfield 48, 3), (71, .invokevirtual 166, 3), (74, .iload 4, 2), (76, .ireturn, 1)]
set_option maxRecDepth 20000 in
theorem dtX5_door : ∀ x ∈ tbX5_door, decode cX5_door x.1 = .ok x.2 := by decide +kernel
noncomputable def j5_door_67  (x0 : Nat) (x4 : Int32) (w : Wd) : Option (Int32 × Wd) :=
  ck (tg w x0 = 5) (ck (tg w (wr w x0 3) = 1) ((f1_loseSteam (wr w x0 3) w).bind fun z20 => (some (x4, z20.2))))
theorem wpj5_door_67 (X : CX) (w0 : Wd)  (x0 : Nat) (x4 : Int32) (w : Wd) : WPe rtI X (mX5_door, 2, 0, 0, w0) 0 0 (j5_door_67  x0 x4 w) 67 [(0, vR x0), (4, vI x4)] [] w := by
  unfold j5_door_67
  refine WPe_aload_n (pc := 67) 0 (dd dtX5_door 37 rfl) rfl ?_
  refine WPe_ck fun h18 => ?_
  refine WPe_getR (pc := 68) (t := 5) (C := RX5) (T := TX5) 3 (dd dtX5_door 38 rfl) (shE h18) rfl (Nat.le_of_ble_eq_true rfl) rfl (bw_mem2 123 rfl rfl) ?_
  refine WPe_ck fun h19 => ?_
  refine WPe_callV (pc := 71) (rtc := rtV) (Mc := mX1_loseSteam) (d' := 1) (mc' := 0) (ms' := 0) [] [] rfl (dd dtX5_door 39 rfl) (okf1_loseSteam (wr w x0 3) w) moX1_loseSteam miX1_loseSteam (bw_mem3 27 rfl rfl) (Or.inl ⟨_, _, _, _, (shE h19), rfl⟩) rfl (Nat.le_of_ble_eq_true rfl) ⟨(Nat.le_of_ble_eq_true rfl), (Nat.le_of_ble_eq_true rfl)⟩ ⟨(Nat.le_of_ble_eq_true rfl), (Nat.le_of_ble_eq_true rfl)⟩ (fun z20 h21 e22 => ?_)
  refine WPe_st (st2 := []) rfl ?_
  refine WPe_iload (pc := 74) 1 (dd dtX5_door 40 rfl) rfl ?_
  exact WPe_ireturn (pc := 76) (dd dtX5_door 41 rfl) rfl rfl ⟨(Nat.le_of_ble_eq_true rfl), (Nat.le_of_ble_eq_true rfl)⟩
noncomputable def f5_door (x0 : Nat) (x1 : Int32) (x2 : Int32) (w : Wd) : Option (Int32 × Wd) :=
  ck (tg w x0 = 5) (ck (tg w (wr w x0 3) = 1) ((f1_has (wr w x0 3) x1 w).bind fun z3 => (if z3.1 = (0 : Int32) then (some ((-5 : Int32), z3.2)) else ((f5_isWithin x2 (0 : Int32) (3 : Int32) z3.2).bind fun z7 => (if z7.1 = (0 : Int32) then (some ((-7 : Int32), z7.2)) else (ck (tg z7.2 (wr z7.2 x0 3) = 1) (ck (tg z7.2 (wr z7.2 (wr z7.2 x0 3) 6) = 22 ∧ vp_in x1 (ln z7.2 (wr z7.2 (wr z7.2 x0 3) 6))) (ck (tg z7.2 (wr z7.2 (wr z7.2 (wr z7.2 x0 3) 6) (x1).toNatClampNeg) = 0) (if (wi z7.2 (wr z7.2 (wr z7.2 (wr z7.2 x0 3) 6) (x1).toNatClampNeg) 2) = x2 then (some ((-3 : Int32), z7.2)) else (lw (sI z7.2 (wr z7.2 (wr z7.2 (wr z7.2 x0 3) 6) (x1).toNatClampNeg) 2 x2) fun w15 => (if (wi z7.2 (wr z7.2 (wr z7.2 (wr z7.2 x0 3) 6) (x1).toNatClampNeg) 2) = (3 : Int32) then (j5_door_67 x0 (wi z7.2 (wr z7.2 (wr z7.2 (wr z7.2 x0 3) 6) (x1).toNatClampNeg) 2) w15) else (if x2 = (3 : Int32) then (j5_door_67 x0 (wi z7.2 (wr z7.2 (wr z7.2 (wr z7.2 x0 3) 6) (x1).toNatClampNeg) 2) w15) else (some ((wi z7.2 (wr z7.2 (wr z7.2 (wr z7.2 x0 3) 6) (x1).toNatClampNeg) 2), w15))))))))))))))
theorem wpf5_door (X : CX) (w0 : Wd) (x0 : Nat) (x1 : Int32) (x2 : Int32) (w : Wd) : WPe rtI X (mX5_door, 2, 0, 0, w0) 0 0 (f5_door x0 x1 x2 w) 0 [(0, vR x0), (1, vI x1), (2, vI x2)] [] w := by
  unfold f5_door
  refine WPe_aload_n (pc := 0) 0 (dd dtX5_door 0 rfl) rfl ?_
  refine WPe_ck fun h1 => ?_
  refine WPe_getR (pc := 1) (t := 5) (C := RX5) (T := TX5) 3 (dd dtX5_door 1 rfl) (shE h1) rfl (Nat.le_of_ble_eq_true rfl) rfl (bw_mem2 123 rfl rfl) ?_
  refine WPe_iload_n (pc := 4) 1 (dd dtX5_door 2 rfl) rfl ?_
  refine WPe_ck fun h2 => ?_
  refine WPe_callV (pc := 5) (rtc := rtI) (Mc := mX1_has) (d' := 1) (mc' := 0) (ms' := 0) [vI x1] [] rfl (dd dtX5_door 3 rfl) (okf1_has (wr w x0 3) x1 w) moX1_has miX1_has (bw_mem2 193 rfl rfl) (Or.inl ⟨_, _, _, _, (shE h2), rfl⟩) rfl (Nat.le_of_ble_eq_true rfl) ⟨(Nat.le_of_ble_eq_true rfl), (Nat.le_of_ble_eq_true rfl)⟩ ⟨(Nat.le_of_ble_eq_true rfl), (Nat.le_of_ble_eq_true rfl)⟩ (fun z3 h4 e5 => ?_)
  refine WPe_st (st2 := [vI z3.1]) rfl ?_
  refine WPe_if_ne (pc := 8) 14 (dd dtX5_door 4 rfl) (by decide) (fun h6 => ?_) (fun h6 => ?_)
  · refine WPe_bipush (pc := 11) (-5 : Int32) (dd dtX5_door 5 rfl) (by decide) ?_
    exact WPe_ireturn (pc := 13) (dd dtX5_door 6 rfl) rfl rfl ⟨(Nat.le_of_ble_eq_true rfl), (Nat.le_of_ble_eq_true rfl)⟩
  · refine WPe_iload_n (pc := 14) 2 (dd dtX5_door 7 rfl) rfl ?_
    refine WPe_iconst (pc := 15) (0 : Int32) (dd dtX5_door 8 rfl) (by decide) ?_
    refine WPe_iconst (pc := 16) (3 : Int32) (dd dtX5_door 9 rfl) (by decide) ?_
    refine WPe_callS (pc := 17) (rtc := rtI) (Mc := mX5_isWithin) (d' := 1) (mc' := 0) (ms' := 0) [vI x2, vI (0 : Int32), vI (3 : Int32)] [] rfl (dd dtX5_door 10 rfl) (okf5_isWithin x2 (0 : Int32) (3 : Int32) z3.2) moX5_isWithin msX5_isWithin (bw_mem2 176 rfl rfl) rfl (Nat.le_of_ble_eq_true rfl) ⟨(Nat.le_of_ble_eq_true rfl), (Nat.le_of_ble_eq_true rfl)⟩ ⟨(Nat.le_of_ble_eq_true rfl), (Nat.le_of_ble_eq_true rfl)⟩ (fun z7 h8 e9 => ?_)
    refine WPe_st (st2 := [vI z7.1]) rfl ?_
    refine WPe_if_ne (pc := 20) 26 (dd dtX5_door 11 rfl) (by decide) (fun h10 => ?_) (fun h10 => ?_)
    · refine WPe_bipush (pc := 23) (-7 : Int32) (dd dtX5_door 12 rfl) (by decide) ?_
      exact WPe_ireturn (pc := 25) (dd dtX5_door 13 rfl) rfl rfl ⟨(Nat.le_of_ble_eq_true rfl), (Nat.le_of_ble_eq_true rfl)⟩
    · refine WPe_aload_n (pc := 26) 0 (dd dtX5_door 14 rfl) rfl ?_
      refine WPe_getR (pc := 27) (t := 5) (C := RX5) (T := TX5) 3 (dd dtX5_door 15 rfl) (e9.at (e5.at (shE h1) (by decide)) (by decide)) rfl (Nat.le_of_ble_eq_true rfl) rfl (bw_mem2 123 rfl rfl) ?_
      refine WPe_ck fun h11 => ?_
      refine WPe_getR (pc := 30) (t := 1) (C := RX1) (T := TX1) 6 (dd dtX5_door 16 rfl) (shE h11) rfl (Nat.le_of_ble_eq_true rfl) rfl (bw_mem2 84 rfl rfl) ?_
      refine WPe_iload_n (pc := 33) 1 (dd dtX5_door 17 rfl) rfl ?_
      refine WPe_ck fun h12 => ?_
      refine WPe_aald (pc := 34) (dd dtX5_door 18 rfl) (shE h12.1) ⟨(Nat.le_of_ble_eq_true rfl), (Nat.le_of_ble_eq_true rfl)⟩ h12.2 ?_
      refine WPe_astore_n (pc := 35) (ls' := [(3, vR (wr z7.2 (wr z7.2 (wr z7.2 x0 3) 6) (x1).toNatClampNeg)), (0, vR x0), (1, vI x1), (2, vI x2)]) (dd dtX5_door 19 rfl) (Nat.le_of_ble_eq_true rfl) rfl ?_
      refine WPe_aload_n (pc := 36) 0 (dd dtX5_door 20 rfl) rfl ?_
      refine WPe_ck fun h13 => ?_
      refine WPe_getI (pc := 37) (t := 0) (C := RX0) (T := TX0) 2 (dd dtX5_door 21 rfl) (shE h13) rfl (Nat.le_of_ble_eq_true rfl) rfl (bw_mem2 49 rfl rfl) ?_
      refine WPe_istore (pc := 40) (ls' := [(4, vI (wi z7.2 (wr z7.2 (wr z7.2 (wr z7.2 x0 3) 6) (x1).toNatClampNeg) 2)), (3, vR (wr z7.2 (wr z7.2 (wr z7.2 x0 3) 6) (x1).toNatClampNeg)), (0, vR x0), (1, vI x1), (2, vI x2)]) (dd dtX5_door 22 rfl) (Nat.le_of_ble_eq_true rfl) rfl ?_
      refine WPe_iload (pc := 42) 0 (dd dtX5_door 23 rfl) rfl ?_
      refine WPe_iload_n (pc := 44) 4 (dd dtX5_door 24 rfl) rfl ?_
      refine WPe_icmp_ne (pc := 45) 51 (dd dtX5_door 25 rfl) (by decide) (fun h14 => ?_) (fun h14 => ?_)
      · refine WPe_bipush (pc := 48) (-3 : Int32) (dd dtX5_door 26 rfl) (by decide) ?_
        exact WPe_ireturn (pc := 50) (dd dtX5_door 27 rfl) rfl rfl ⟨(Nat.le_of_ble_eq_true rfl), (Nat.le_of_ble_eq_true rfl)⟩
      · refine WPe_aload_n (pc := 51) 1 (dd dtX5_door 28 rfl) rfl ?_
        refine WPe_iload_n (pc := 52) 4 (dd dtX5_door 29 rfl) rfl ?_
        refine WPe_putI (pc := 53) (t := 0) (C := RX0) (T := TX0) 2 (dd dtX5_door 30 rfl) (shE h13) rfl (Nat.le_of_ble_eq_true rfl) (bw_mem2 49 rfl rfl) (Or.inl rfl) rfl rfl rfl ?_
        refine WPe_lw fun w15 e16 => ?_
        refine WPe_iload (pc := 56) 0 (dd dtX5_door 31 rfl) rfl ?_
        refine WPe_iconst (pc := 58) (3 : Int32) (dd dtX5_door 32 rfl) (by decide) ?_
        refine WPe_icmp_eq (pc := 59) 67 (dd dtX5_door 33 rfl) (by decide) (fun h17 => ?_) (fun h17 => ?_)
        · refine WPe_sub [2, 0] rfl ?_
          exact wpj5_door_67 X w0  x0 (wi z7.2 (wr z7.2 (wr z7.2 (wr z7.2 x0 3) 6) (x1).toNatClampNeg) 2) w15
        · refine WPe_iload_n (pc := 62) 4 (dd dtX5_door 34 rfl) rfl ?_
          refine WPe_iconst (pc := 63) (3 : Int32) (dd dtX5_door 35 rfl) (by decide) ?_
          refine WPe_icmp_ne (pc := 64) 74 (dd dtX5_door 36 rfl) (by decide) (fun h23 => ?_) (fun h23 => ?_)
          · refine WPe_sub [2, 0] rfl ?_
            exact wpj5_door_67 X w0  x0 (wi z7.2 (wr z7.2 (wr z7.2 (wr z7.2 x0 3) 6) (x1).toNatClampNeg) 2) w15
          · refine WPe_iload (pc := 74) 0 (dd dtX5_door 40 rfl) rfl ?_
            exact WPe_ireturn (pc := 76) (dd dtX5_door 41 rfl) rfl rfl ⟨(Nat.le_of_ble_eq_true rfl), (Nat.le_of_ble_eq_true rfl)⟩
theorem okf5_door (x0 : Nat) (x1 : Int32) (x2 : Int32) (w : Wd) : ∀ z, f5_door x0 x1 x2 w = some z → OkM mX5_door 2 0 0 [vR x0, vI x1, vI x2] w (rtI z.1) z.2 :=
  OkM.of (rt := rtI) moX5_door (Nat.le_of_ble_eq_true rfl) (fun X => wpf5_door X w x0 x1 x2 w)
def tbX5_minute : List (Nat × Instr × Nat) := [(0, .aload_n 0, 1), (1, .getfield 48, 3), (4, .getfield 88, 3), (7, .sipush 999, 3), (10, .if_icmp .lt 8, 3), (13, .bipush (-3), 2), (15, .goto 10, 3), (18, .aload_n 0, 1), (19, .getfield 48, 3), (22, .invokevirtual 169, 3), (25, .ireturn, 1)]
set_option maxRecDepth 20000 in
theorem dtX5_minute : ∀ x ∈ tbX5_minute, decode cX5_minute x.1 = .ok x.2 := by decide +kernel
noncomputable def f5_minute (x0 : Nat) (w : Wd) : Option (Int32 × Wd) :=
  ck (tg w x0 = 5) (ck (tg w (wr w x0 3) = 1) (if (wi w (wr w x0 3) 0) < (999 : Int32) then ((f1_passMinute (wr w x0 3) w).bind fun z4 => (some (z4.1, z4.2))) else (some ((-3 : Int32), w))))
theorem wpf5_minute (X : CX) (w0 : Wd) (x0 : Nat) (w : Wd) : WPe rtI X (mX5_minute, 6, 0, 0, w0) 0 0 (f5_minute x0 w) 0 [(0, vR x0)] [] w := by
  unfold f5_minute
  refine WPe_aload_n (pc := 0) 0 (dd dtX5_minute 0 rfl) rfl ?_
  refine WPe_ck fun h1 => ?_
  refine WPe_getR (pc := 1) (t := 5) (C := RX5) (T := TX5) 3 (dd dtX5_minute 1 rfl) (shE h1) rfl (Nat.le_of_ble_eq_true rfl) rfl (bw_mem2 123 rfl rfl) ?_
  refine WPe_ck fun h2 => ?_
  refine WPe_getI (pc := 4) (t := 1) (C := RX1) (T := TX1) 0 (dd dtX5_minute 2 rfl) (shE h2) rfl (Nat.le_of_ble_eq_true rfl) rfl (bw_mem2 69 rfl rfl) ?_
  refine WPe_sipush (pc := 7) (999 : Int32) (dd dtX5_minute 3 rfl) (by decide) ?_
  refine WPe_icmp_lt (pc := 10) 18 (dd dtX5_minute 4 rfl) (by decide) (fun h3 => ?_) (fun h3 => ?_)
  · refine WPe_aload_n (pc := 18) 0 (dd dtX5_minute 7 rfl) rfl ?_
    refine WPe_getR (pc := 19) (t := 5) (C := RX5) (T := TX5) 3 (dd dtX5_minute 8 rfl) (shE h1) rfl (Nat.le_of_ble_eq_true rfl) rfl (bw_mem2 123 rfl rfl) ?_
    refine WPe_callV (pc := 22) (rtc := rtI) (Mc := mX1_passMinute) (d' := 5) (mc' := 0) (ms' := 0) [] [] rfl (dd dtX5_minute 9 rfl) (okf1_passMinute (wr w x0 3) w) moX1_passMinute miX1_passMinute (bw_mem3 36 rfl rfl) (Or.inl ⟨_, _, _, _, (shE h2), rfl⟩) rfl (Nat.le_of_ble_eq_true rfl) ⟨(Nat.le_of_ble_eq_true rfl), (Nat.le_of_ble_eq_true rfl)⟩ ⟨(Nat.le_of_ble_eq_true rfl), (Nat.le_of_ble_eq_true rfl)⟩ (fun z4 h5 e6 => ?_)
    refine WPe_st (st2 := [vI z4.1]) rfl ?_
    exact WPe_ireturn (pc := 25) (dd dtX5_minute 10 rfl) rfl rfl ⟨(Nat.le_of_ble_eq_true rfl), (Nat.le_of_ble_eq_true rfl)⟩
  · refine WPe_bipush (pc := 13) (-3 : Int32) (dd dtX5_minute 5 rfl) (by decide) ?_
    refine WPe_goto (pc := 15) 25 (dd dtX5_minute 6 rfl) (by decide) ?_
    exact WPe_ireturn (pc := 25) (dd dtX5_minute 10 rfl) rfl rfl ⟨(Nat.le_of_ble_eq_true rfl), (Nat.le_of_ble_eq_true rfl)⟩
theorem okf5_minute (x0 : Nat) (w : Wd) : ∀ z, f5_minute x0 w = some z → OkM mX5_minute 6 0 0 [vR x0] w (rtI z.1) z.2 :=
  OkM.of (rt := rtI) moX5_minute (Nat.le_of_ble_eq_true rfl) (fun X => wpf5_minute X w x0 w)
def tbX5_think : List (Nat × Instr × Nat) := [(0, .aload_n 0, 1), (1, .getfield 52, 3), (4, .aload_n 0, 1), (5, .getfield 48, 3), (8, .invokevirtual 223, 3), (11, .return_, 1)]
set_option maxRecDepth 20000 in
theorem dtX5_think : ∀ x ∈ tbX5_think, decode cX5_think x.1 = .ok x.2 := by decide +kernel
noncomputable def f5_think (x0 : Nat) (w : Wd) : Option (Unit × Wd) :=
  ck (tg w x0 = 5) (ck (tg w (wr w x0 4) = 1) ((f1_becomeAs (wr w x0 4) (wr w x0 3) w).bind fun z3 => (some ((), z3.2))))
theorem wpf5_think (X : CX) (w0 : Wd) (x0 : Nat) (w : Wd) : WPe rtV X (mX5_think, 3, 0, 0, w0) 0 0 (f5_think x0 w) 0 [(0, vR x0)] [] w := by
  unfold f5_think
  refine WPe_aload_n (pc := 0) 0 (dd dtX5_think 0 rfl) rfl ?_
  refine WPe_ck fun h1 => ?_
  refine WPe_getR (pc := 1) (t := 5) (C := RX5) (T := TX5) 4 (dd dtX5_think 1 rfl) (shE h1) rfl (Nat.le_of_ble_eq_true rfl) rfl (bw_mem2 124 rfl rfl) ?_
  refine WPe_aload_n (pc := 4) 0 (dd dtX5_think 2 rfl) rfl ?_
  refine WPe_getR (pc := 5) (t := 5) (C := RX5) (T := TX5) 3 (dd dtX5_think 3 rfl) (shE h1) rfl (Nat.le_of_ble_eq_true rfl) rfl (bw_mem2 123 rfl rfl) ?_
  refine WPe_ck fun h2 => ?_
  refine WPe_callV (pc := 8) (rtc := rtV) (Mc := mX1_becomeAs) (d' := 2) (mc' := 0) (ms' := 0) [vR (wr w x0 3)] [] rfl (dd dtX5_think 4 rfl) (okf1_becomeAs (wr w x0 4) (wr w x0 3) w) moX1_becomeAs miX1_becomeAs (bw_mem3 57 rfl rfl) (Or.inl ⟨_, _, _, _, (shE h2), rfl⟩) rfl (Nat.le_of_ble_eq_true rfl) ⟨(Nat.le_of_ble_eq_true rfl), (Nat.le_of_ble_eq_true rfl)⟩ ⟨(Nat.le_of_ble_eq_true rfl), (Nat.le_of_ble_eq_true rfl)⟩ (fun z3 h4 e5 => ?_)
  refine WPe_st (st2 := []) rfl ?_
  exact WPe_return (pc := 11) (dd dtX5_think 5 rfl) rfl rfl ⟨(Nat.le_of_ble_eq_true rfl), (Nat.le_of_ble_eq_true rfl)⟩
theorem okf5_think (x0 : Nat) (w : Wd) : ∀ z, f5_think x0 w = some z → OkM mX5_think 3 0 0 [vR x0] w (rtV z.1) z.2 :=
  OkM.of (rt := rtV) moX5_think (Nat.le_of_ble_eq_true rfl) (fun X => wpf5_think X w x0 w)
def tbX5_joyBehind : List (Nat × Instr × Nat) := [(0, .iconst 0, 1), (1, .istore_n 2, 1), (2, .iload_n 2, 1), (3, .iload_n 1, 1), (4, .if_icmp .ge 17, 3), (7, .aload_n 0, 1), (8, .getfield 52, 3), (11, .invokevirtual 169, 3), (14, .pop, 1), (15, .iinc 2 1, 3), (18, .goto (-16), 3), (21, .aload_n 0, 1), (22, .getfield 52, 3), (25, .invokevirtual 71, 3), (28, .ireturn, 1)]
set_option maxRecDepth 20000 in
theorem dtX5_joyBehind : ∀ x ∈ tbX5_joyBehind, decode cX5_joyBehind x.1 = .ok x.2 := by decide +kernel
noncomputable def b5_joyBehind_2 (k2 : Nat × Int32 × Int32 → Wd → Option (Int32 × Wd)) (v : Nat × Int32 × Int32) (w : Wd) : Option (Int32 × Wd) :=
  if v.2.1 ≤ v.2.2 then (ck (tg w v.1 = 5) (ck (tg w (wr w v.1 4) = 1) ((f1_joyOfAll (wr w v.1 4) w).bind fun z4 => (some (z4.1, z4.2))))) else (ck (tg w v.1 = 5) (ck (tg w (wr w v.1 4) = 1) ((f1_passMinute (wr w v.1 4) w).bind fun z9 => (k2 (v.1, v.2.1, (v.2.2 + (1 : Int32))) z9.2))))
theorem wpb5_joyBehind_2 (X : CX) (w0 : Wd) (k2 : Nat × Int32 × Int32 → Wd → Option (Int32 × Wd)) (hk2 : ∀ (v : Nat × Int32 × Int32) (w : Wd), WPe rtI X (mX5_joyBehind, 6, 0, 0, w0) 0 0 (k2 v w) 2 [(0, vR v.1), (1, vI v.2.1), (2, vI v.2.2)] [] w) (v : Nat × Int32 × Int32) (w : Wd) : WPe rtI X (mX5_joyBehind, 6, 0, 0, w0) 0 0 (b5_joyBehind_2 k2 v w) 2 [(0, vR v.1), (1, vI v.2.1), (2, vI v.2.2)] [] w := by
  unfold b5_joyBehind_2
  refine WPe_iload_n (pc := 2) 2 (dd dtX5_joyBehind 2 rfl) rfl ?_
  refine WPe_iload_n (pc := 3) 1 (dd dtX5_joyBehind 3 rfl) rfl ?_
  refine WPe_icmp_ge (pc := 4) 21 (dd dtX5_joyBehind 4 rfl) (by decide) (fun h1 => ?_) (fun h1 => ?_)
  · refine WPe_aload_n (pc := 21) 0 (dd dtX5_joyBehind 11 rfl) rfl ?_
    refine WPe_ck fun h2 => ?_
    refine WPe_getR (pc := 22) (t := 5) (C := RX5) (T := TX5) 4 (dd dtX5_joyBehind 12 rfl) (shE h2) rfl (Nat.le_of_ble_eq_true rfl) rfl (bw_mem2 124 rfl rfl) ?_
    refine WPe_ck fun h3 => ?_
    refine WPe_callV (pc := 25) (rtc := rtI) (Mc := mX1_joyOfAll) (d' := 1) (mc' := 0) (ms' := 0) [] [] rfl (dd dtX5_joyBehind 13 rfl) (okf1_joyOfAll (wr w v.1 4) w) moX1_joyOfAll miX1_joyOfAll (bw_mem2 153 rfl rfl) (Or.inl ⟨_, _, _, _, (shE h3), rfl⟩) rfl (Nat.le_of_ble_eq_true rfl) ⟨(Nat.le_of_ble_eq_true rfl), (Nat.le_of_ble_eq_true rfl)⟩ ⟨(Nat.le_of_ble_eq_true rfl), (Nat.le_of_ble_eq_true rfl)⟩ (fun z4 h5 e6 => ?_)
    refine WPe_st (st2 := [vI z4.1]) rfl ?_
    exact WPe_ireturn (pc := 28) (dd dtX5_joyBehind 14 rfl) rfl rfl ⟨(Nat.le_of_ble_eq_true rfl), (Nat.le_of_ble_eq_true rfl)⟩
  · refine WPe_aload_n (pc := 7) 0 (dd dtX5_joyBehind 5 rfl) rfl ?_
    refine WPe_ck fun h7 => ?_
    refine WPe_getR (pc := 8) (t := 5) (C := RX5) (T := TX5) 4 (dd dtX5_joyBehind 6 rfl) (shE h7) rfl (Nat.le_of_ble_eq_true rfl) rfl (bw_mem2 124 rfl rfl) ?_
    refine WPe_ck fun h8 => ?_
    refine WPe_callV (pc := 11) (rtc := rtI) (Mc := mX1_passMinute) (d' := 5) (mc' := 0) (ms' := 0) [] [] rfl (dd dtX5_joyBehind 7 rfl) (okf1_passMinute (wr w v.1 4) w) moX1_passMinute miX1_passMinute (bw_mem3 36 rfl rfl) (Or.inl ⟨_, _, _, _, (shE h8), rfl⟩) rfl (Nat.le_of_ble_eq_true rfl) ⟨(Nat.le_of_ble_eq_true rfl), (Nat.le_of_ble_eq_true rfl)⟩ ⟨(Nat.le_of_ble_eq_true rfl), (Nat.le_of_ble_eq_true rfl)⟩ (fun z9 h10 e11 => ?_)
    refine WPe_st (st2 := [vI z9.1]) rfl ?_
    refine WPe_pop (pc := 14) (dd dtX5_joyBehind 8 rfl) rfl ?_
    refine WPe_iinc (pc := 15) (ls' := [(2, vI (v.2.2 + (1 : Int32))), (0, vR v.1), (1, vI v.2.1)]) 2 (v.2.2 + (1 : Int32)) (dd dtX5_joyBehind 9 rfl) rfl (congrArg (HAdd.hAdd _) (by decide : Int32.ofInt (1) = (1 : Int32))) (Nat.le_of_ble_eq_true rfl) rfl ?_
    refine WPe_goto (pc := 18) 2 (dd dtX5_joyBehind 10 rfl) (by decide) ?_
    refine WPe_sub [1, 2, 0] rfl ?_
    exact hk2 (v.1, v.2.1, (v.2.2 + (1 : Int32))) z9.2
theorem wplb5_joyBehind_2 (X : CX) (w0 : Wd)  : ∀ (n9 : Nat) (v : Nat × Int32 × Int32) (w : Wd), WPe rtI X (mX5_joyBehind, 6, 0, 0, w0) 0 0 (loopF (b5_joyBehind_2 ) n9 v w) 2 [(0, vR v.1), (1, vI v.2.1), (2, vI v.2.2)] [] w :=
  WPe_loop (rt := rtI) (X := X) (M := (mX5_joyBehind, 6, 0, 0, w0)) (fun v : Nat × Int32 × Int32 => [(0, vR v.1), (1, vI v.2.1), (2, vI v.2.2)]) (fun k hk v w => wpb5_joyBehind_2 X w0  k hk v w)
noncomputable def f5_joyBehind (x0 : Nat) (x1 : Int32) (w : Wd) : Option (Int32 × Wd) :=
  loopF (b5_joyBehind_2) FU (x0, x1, (0 : Int32)) w
theorem wpf5_joyBehind (X : CX) (w0 : Wd) (x0 : Nat) (x1 : Int32) (w : Wd) : WPe rtI X (mX5_joyBehind, 6, 0, 0, w0) 0 0 (f5_joyBehind x0 x1 w) 0 [(0, vR x0), (1, vI x1)] [] w := by
  unfold f5_joyBehind
  refine WPe_iconst (pc := 0) (0 : Int32) (dd dtX5_joyBehind 0 rfl) (by decide) ?_
  refine WPe_istore_n (pc := 1) (ls' := [(2, vI (0 : Int32)), (0, vR x0), (1, vI x1)]) (dd dtX5_joyBehind 1 rfl) (Nat.le_of_ble_eq_true rfl) rfl ?_
  refine WPe_sub [1, 2, 0] rfl ?_
  exact wplb5_joyBehind_2 X w0  FU _ _
theorem okf5_joyBehind (x0 : Nat) (x1 : Int32) (w : Wd) : ∀ z, f5_joyBehind x0 x1 w = some z → OkM mX5_joyBehind 6 0 0 [vR x0, vI x1] w (rtI z.1) z.2 :=
  OkM.of (rt := rtI) moX5_joyBehind (Nat.le_of_ble_eq_true rfl) (fun X => wpf5_joyBehind X w x0 x1 w)
def tbX5_run : List (Nat × Instr × Nat) := [(0, .iload_n 1, 1), (1, .iconst 0, 1), (2, .bipush 40, 2), (4, .invokestatic 111, 3), (7, .ifCond .ne 6, 3), (10, .bipush (-2), 2), (12, .ireturn, 1), (13, .iload_n 2, 1), (14, .iconst 0, 1), (15, .iconst 3, 1), (16, .invokestatic 111, 3), (19, .ifCond .ne 34, 3), (22, .aload_n 0, 1), (23, .getfield 48, 3), (26, .iload_n 2, 1), (27, .bipush 10, 2), (29, .isub, 1), (30, .invokevirtual 115, 3), (33, .ifCond .ne 20, 3), (36, .aload_n 0, 1), (37, .getfield 48, 3), (40, .iload_n 2, 1), (41, .bipush 20, 2), (43, .isub, 1), (44, .invokevirtual 115, 3), (47, .ifCond .ne 6, 3), (50, .bipush (-2), 2), (52, .ireturn, 1), (53, .aload_n 0, 1), (54, .invokevirtual 172, 3), (57, .aload_n 0, 1), (58, .iload_n 1, 1), (59, .invokevirtual 175, 3), (62, .istore_n 3, 1), (63, .iload_n 2, 1), (64, .tableswitch 58 0 3 #[32, 40, 42, 50], 32), (96, .aload_n 0, 1), (97, .getfield 52, 3), (100, .invokevirtual 178, 3), (103, .ireturn, 1), (104, .iload_n 3, 1), (105, .ireturn, 1), (106, .aload_n 0, 1), (107, .getfield 52, 3), (110, .getfield 91, 3), (113, .ireturn, 1), (114, .aload_n 0, 1), (115, .getfield 52, 3), (118, .getfield 94, 3), (121, .ireturn, 1), (122, .iload_n 2, 1), (123, .bipush 20, 2), (125, .if_icmp .ge 21, 3), (128, .aload_n 0, 1), (129, .getfield 52, 3), (132, .getfield 118, 3), (135, .iload_n 2, 1), (136, .bipush 10, 2), (138, .isub, 1), (139, .aaload, 1), (140, .getfield 138, 3), (143, .goto 18, 3), (146, .aload_n 0, 1), (147, .getfield 52, 3), (150, .getfield 118, 3), (153, .iload_n 2, 1), (154, .bipush 20, 2), (156, .isub, 1), (157, .aaload, 1), (158, .getfield 141, 3), (161, .ireturn, 1)]
set_option maxRecDepth 20000 in
theorem dtX5_run : ∀ x ∈ tbX5_run, decode cX5_run x.1 = .ok x.2 := by decide +kernel
noncomputable def j5_run_53  (x0 : Nat) (x1 : Int32) (x2 : Int32) (w : Wd) : Option (Int32 × Wd) :=
  ck (tg w x0 = 5) ((f5_think x0 w).bind fun z21 => ((f5_joyBehind x0 x1 z21.2).bind fun z24 => (if x2 = (0 : Int32) then (ck (tg z24.2 (wr z24.2 x0 4) = 1) ((f1_bitsIn (wr z24.2 x0 4) z24.2).bind fun z29 => (some (z29.1, z29.2)))) else (if x2 = (1 : Int32) then (some (z24.1, z24.2)) else (if x2 = (2 : Int32) then (ck (tg z24.2 (wr z24.2 x0 4) = 1) (some ((wi z24.2 (wr z24.2 x0 4) 1), z24.2))) else (if x2 = (3 : Int32) then (ck (tg z24.2 (wr z24.2 x0 4) = 1) (some ((wi z24.2 (wr z24.2 x0 4) 2), z24.2))) else (if (20 : Int32) ≤ x2 then (ck (tg z24.2 (wr z24.2 x0 4) = 1) (ck (tg z24.2 (wr z24.2 (wr z24.2 x0 4) 6) = 22 ∧ vp_in (x2 - (20 : Int32)) (ln z24.2 (wr z24.2 (wr z24.2 x0 4) 6))) (ck (tg z24.2 (wr z24.2 (wr z24.2 (wr z24.2 x0 4) 6) ((x2 - (20 : Int32))).toNatClampNeg) = 0) (some ((wi z24.2 (wr z24.2 (wr z24.2 (wr z24.2 x0 4) 6) ((x2 - (20 : Int32))).toNatClampNeg) 4), z24.2))))) else (ck (tg z24.2 (wr z24.2 x0 4) = 1) (ck (tg z24.2 (wr z24.2 (wr z24.2 x0 4) 6) = 22 ∧ vp_in (x2 - (10 : Int32)) (ln z24.2 (wr z24.2 (wr z24.2 x0 4) 6))) (ck (tg z24.2 (wr z24.2 (wr z24.2 (wr z24.2 x0 4) 6) ((x2 - (10 : Int32))).toNatClampNeg) = 0) (some ((wi z24.2 (wr z24.2 (wr z24.2 (wr z24.2 x0 4) 6) ((x2 - (10 : Int32))).toNatClampNeg) 3), z24.2))))))))))))
theorem wpj5_run_53 (X : CX) (w0 : Wd)  (x0 : Nat) (x1 : Int32) (x2 : Int32) (w : Wd) : WPe rtI X (mX5_run, 7, 0, 0, w0) 0 0 (j5_run_53  x0 x1 x2 w) 53 [(0, vR x0), (1, vI x1), (2, vI x2)] [] w := by
  unfold j5_run_53
  refine WPe_aload_n (pc := 53) 0 (dd dtX5_run 28 rfl) rfl ?_
  refine WPe_ck fun h20 => ?_
  refine WPe_callV (pc := 54) (rtc := rtV) (Mc := mX5_think) (d' := 3) (mc' := 0) (ms' := 0) [] [] rfl (dd dtX5_run 29 rfl) (okf5_think x0 w) moX5_think miX5_think (bw_mem3 53 rfl rfl) (Or.inl ⟨_, _, _, _, (shE h20), rfl⟩) rfl (Nat.le_of_ble_eq_true rfl) ⟨(Nat.le_of_ble_eq_true rfl), (Nat.le_of_ble_eq_true rfl)⟩ ⟨(Nat.le_of_ble_eq_true rfl), (Nat.le_of_ble_eq_true rfl)⟩ (fun z21 h22 e23 => ?_)
  refine WPe_st (st2 := []) rfl ?_
  refine WPe_aload_n (pc := 57) 0 (dd dtX5_run 30 rfl) rfl ?_
  refine WPe_iload_n (pc := 58) 1 (dd dtX5_run 31 rfl) rfl ?_
  refine WPe_callV (pc := 59) (rtc := rtI) (Mc := mX5_joyBehind) (d' := 6) (mc' := 0) (ms' := 0) [vI x1] [] rfl (dd dtX5_run 32 rfl) (okf5_joyBehind x0 x1 z21.2) moX5_joyBehind miX5_joyBehind (bw_mem3 65 rfl rfl) (Or.inl ⟨_, _, _, _, (e23.at (shE h20) (by decide)), rfl⟩) rfl (Nat.le_of_ble_eq_true rfl) ⟨(Nat.le_of_ble_eq_true rfl), (Nat.le_of_ble_eq_true rfl)⟩ ⟨(Nat.le_of_ble_eq_true rfl), (Nat.le_of_ble_eq_true rfl)⟩ (fun z24 h25 e26 => ?_)
  refine WPe_st (st2 := [vI z24.1]) rfl ?_
  refine WPe_istore_n (pc := 62) (ls' := [(3, vI z24.1), (0, vR x0), (1, vI x1), (2, vI x2)]) (dd dtX5_run 33 rfl) (Nat.le_of_ble_eq_true rfl) rfl ?_
  refine WPe_iload_n (pc := 63) 3 (dd dtX5_run 34 rfl) rfl ?_
  refine WPe_ite (fun h27 => ?_) (fun h27 => ?_)
  · refine WPe_tabIn (pc := 64) (0 : Int32) 96 (dd dtX5_run 35 rfl) h27 (by decide) (by decide) rfl (by decide) ?_
    refine WPe_aload_n (pc := 96) 1 (dd dtX5_run 36 rfl) rfl ?_
    refine WPe_getR (pc := 97) (t := 5) (C := RX5) (T := TX5) 4 (dd dtX5_run 37 rfl) (e26.at (e23.at (shE h20) (by decide)) (by decide)) rfl (Nat.le_of_ble_eq_true rfl) rfl (bw_mem2 124 rfl rfl) ?_
    refine WPe_ck fun h28 => ?_
    refine WPe_callV (pc := 100) (rtc := rtI) (Mc := mX1_bitsIn) (d' := 1) (mc' := 0) (ms' := 0) [] [] rfl (dd dtX5_run 38 rfl) (okf1_bitsIn (wr z24.2 x0 4) z24.2) moX1_bitsIn miX1_bitsIn (bw_mem3 69 rfl rfl) (Or.inl ⟨_, _, _, _, (shE h28), rfl⟩) rfl (Nat.le_of_ble_eq_true rfl) ⟨(Nat.le_of_ble_eq_true rfl), (Nat.le_of_ble_eq_true rfl)⟩ ⟨(Nat.le_of_ble_eq_true rfl), (Nat.le_of_ble_eq_true rfl)⟩ (fun z29 h30 e31 => ?_)
    refine WPe_st (st2 := [vI z29.1]) rfl ?_
    exact WPe_ireturn (pc := 103) (dd dtX5_run 39 rfl) rfl rfl ⟨(Nat.le_of_ble_eq_true rfl), (Nat.le_of_ble_eq_true rfl)⟩
  · refine WPe_ite (fun h32 => ?_) (fun h32 => ?_)
    · refine WPe_tabIn (pc := 64) (1 : Int32) 104 (dd dtX5_run 35 rfl) h32 (by decide) (by decide) rfl (by decide) ?_
      refine WPe_iload_n (pc := 104) 0 (dd dtX5_run 40 rfl) rfl ?_
      exact WPe_ireturn (pc := 105) (dd dtX5_run 41 rfl) rfl rfl ⟨(Nat.le_of_ble_eq_true rfl), (Nat.le_of_ble_eq_true rfl)⟩
    · refine WPe_ite (fun h33 => ?_) (fun h33 => ?_)
      · refine WPe_tabIn (pc := 64) (2 : Int32) 106 (dd dtX5_run 35 rfl) h33 (by decide) (by decide) rfl (by decide) ?_
        refine WPe_aload_n (pc := 106) 1 (dd dtX5_run 42 rfl) rfl ?_
        refine WPe_getR (pc := 107) (t := 5) (C := RX5) (T := TX5) 4 (dd dtX5_run 43 rfl) (e26.at (e23.at (shE h20) (by decide)) (by decide)) rfl (Nat.le_of_ble_eq_true rfl) rfl (bw_mem2 124 rfl rfl) ?_
        refine WPe_ck fun h34 => ?_
        refine WPe_getI (pc := 110) (t := 1) (C := RX1) (T := TX1) 1 (dd dtX5_run 44 rfl) (shE h34) rfl (Nat.le_of_ble_eq_true rfl) rfl (bw_mem2 73 rfl rfl) ?_
        exact WPe_ireturn (pc := 113) (dd dtX5_run 45 rfl) rfl rfl ⟨(Nat.le_of_ble_eq_true rfl), (Nat.le_of_ble_eq_true rfl)⟩
      · refine WPe_ite (fun h35 => ?_) (fun h35 => ?_)
        · refine WPe_tabIn (pc := 64) (3 : Int32) 114 (dd dtX5_run 35 rfl) h35 (by decide) (by decide) rfl (by decide) ?_
          refine WPe_aload_n (pc := 114) 1 (dd dtX5_run 46 rfl) rfl ?_
          refine WPe_getR (pc := 115) (t := 5) (C := RX5) (T := TX5) 4 (dd dtX5_run 47 rfl) (e26.at (e23.at (shE h20) (by decide)) (by decide)) rfl (Nat.le_of_ble_eq_true rfl) rfl (bw_mem2 124 rfl rfl) ?_
          refine WPe_ck fun h36 => ?_
          refine WPe_getI (pc := 118) (t := 1) (C := RX1) (T := TX1) 2 (dd dtX5_run 48 rfl) (shE h36) rfl (Nat.le_of_ble_eq_true rfl) rfl (bw_mem2 76 rfl rfl) ?_
          exact WPe_ireturn (pc := 121) (dd dtX5_run 49 rfl) rfl rfl ⟨(Nat.le_of_ble_eq_true rfl), (Nat.le_of_ble_eq_true rfl)⟩
        · refine WPe_tabOut (pc := 64) 122 (dd dtX5_run 35 rfl) (fun j hj => ?_) (by decide) ?_
          · match j, hj with
            | 0, _ => exact Or.inr (tneq h27 (by decide))
            | 1, _ => exact Or.inr (tneq h32 (by decide))
            | 2, _ => exact Or.inr (tneq h33 (by decide))
            | 3, _ => exact Or.inr (tneq h35 (by decide))
            | j + 4, h => exact absurd h (by omega)
          refine WPe_iload_n (pc := 122) 3 (dd dtX5_run 50 rfl) rfl ?_
          refine WPe_bipush (pc := 123) (20 : Int32) (dd dtX5_run 51 rfl) (by decide) ?_
          refine WPe_icmp_ge (pc := 125) 146 (dd dtX5_run 52 rfl) (by decide) (fun h37 => ?_) (fun h37 => ?_)
          · refine WPe_aload_n (pc := 146) 1 (dd dtX5_run 62 rfl) rfl ?_
            refine WPe_getR (pc := 147) (t := 5) (C := RX5) (T := TX5) 4 (dd dtX5_run 63 rfl) (e26.at (e23.at (shE h20) (by decide)) (by decide)) rfl (Nat.le_of_ble_eq_true rfl) rfl (bw_mem2 124 rfl rfl) ?_
            refine WPe_ck fun h38 => ?_
            refine WPe_getR (pc := 150) (t := 1) (C := RX1) (T := TX1) 6 (dd dtX5_run 64 rfl) (shE h38) rfl (Nat.le_of_ble_eq_true rfl) rfl (bw_mem2 84 rfl rfl) ?_
            refine WPe_iload_n (pc := 153) 3 (dd dtX5_run 65 rfl) rfl ?_
            refine WPe_bipush (pc := 154) (20 : Int32) (dd dtX5_run 66 rfl) (by decide) ?_
            refine WPe_isub (pc := 156) (dd dtX5_run 67 rfl) ?_
            refine WPe_ck fun h39 => ?_
            refine WPe_aald (pc := 157) (dd dtX5_run 68 rfl) (shE h39.1) ⟨(Nat.le_of_ble_eq_true rfl), (Nat.le_of_ble_eq_true rfl)⟩ h39.2 ?_
            refine WPe_ck fun h40 => ?_
            refine WPe_getI (pc := 158) (t := 0) (C := RX0) (T := TX0) 4 (dd dtX5_run 69 rfl) (shE h40) rfl (Nat.le_of_ble_eq_true rfl) rfl (bw_mem2 56 rfl rfl) ?_
            exact WPe_ireturn (pc := 161) (dd dtX5_run 70 rfl) rfl rfl ⟨(Nat.le_of_ble_eq_true rfl), (Nat.le_of_ble_eq_true rfl)⟩
          · refine WPe_aload_n (pc := 128) 1 (dd dtX5_run 53 rfl) rfl ?_
            refine WPe_getR (pc := 129) (t := 5) (C := RX5) (T := TX5) 4 (dd dtX5_run 54 rfl) (e26.at (e23.at (shE h20) (by decide)) (by decide)) rfl (Nat.le_of_ble_eq_true rfl) rfl (bw_mem2 124 rfl rfl) ?_
            refine WPe_ck fun h41 => ?_
            refine WPe_getR (pc := 132) (t := 1) (C := RX1) (T := TX1) 6 (dd dtX5_run 55 rfl) (shE h41) rfl (Nat.le_of_ble_eq_true rfl) rfl (bw_mem2 84 rfl rfl) ?_
            refine WPe_iload_n (pc := 135) 3 (dd dtX5_run 56 rfl) rfl ?_
            refine WPe_bipush (pc := 136) (10 : Int32) (dd dtX5_run 57 rfl) (by decide) ?_
            refine WPe_isub (pc := 138) (dd dtX5_run 58 rfl) ?_
            refine WPe_ck fun h42 => ?_
            refine WPe_aald (pc := 139) (dd dtX5_run 59 rfl) (shE h42.1) ⟨(Nat.le_of_ble_eq_true rfl), (Nat.le_of_ble_eq_true rfl)⟩ h42.2 ?_
            refine WPe_ck fun h43 => ?_
            refine WPe_getI (pc := 140) (t := 0) (C := RX0) (T := TX0) 3 (dd dtX5_run 60 rfl) (shE h43) rfl (Nat.le_of_ble_eq_true rfl) rfl (bw_mem2 53 rfl rfl) ?_
            refine WPe_goto (pc := 143) 161 (dd dtX5_run 61 rfl) (by decide) ?_
            exact WPe_ireturn (pc := 161) (dd dtX5_run 70 rfl) rfl rfl ⟨(Nat.le_of_ble_eq_true rfl), (Nat.le_of_ble_eq_true rfl)⟩
noncomputable def f5_run (x0 : Nat) (x1 : Int32) (x2 : Int32) (w : Wd) : Option (Int32 × Wd) :=
  (f5_isWithin x1 (0 : Int32) (40 : Int32) w).bind fun z1 => (if z1.1 = (0 : Int32) then (some ((-2 : Int32), z1.2)) else ((f5_isWithin x2 (0 : Int32) (3 : Int32) z1.2).bind fun z5 => (if z5.1 = (0 : Int32) then (ck (tg z5.2 x0 = 5) (ck (tg z5.2 (wr z5.2 x0 3) = 1) ((f1_has (wr z5.2 x0 3) (x2 - (10 : Int32)) z5.2).bind fun z11 => (if z11.1 = (0 : Int32) then (ck (tg z11.2 (wr z11.2 x0 3) = 1) ((f1_has (wr z11.2 x0 3) (x2 - (20 : Int32)) z11.2).bind fun z16 => (if z16.1 = (0 : Int32) then (some ((-2 : Int32), z16.2)) else (j5_run_53 x0 x1 x2 z16.2)))) else (j5_run_53 x0 x1 x2 z11.2))))) else (j5_run_53 x0 x1 x2 z5.2))))
theorem wpf5_run (X : CX) (w0 : Wd) (x0 : Nat) (x1 : Int32) (x2 : Int32) (w : Wd) : WPe rtI X (mX5_run, 7, 0, 0, w0) 0 0 (f5_run x0 x1 x2 w) 0 [(0, vR x0), (1, vI x1), (2, vI x2)] [] w := by
  unfold f5_run
  refine WPe_iload_n (pc := 0) 1 (dd dtX5_run 0 rfl) rfl ?_
  refine WPe_iconst (pc := 1) (0 : Int32) (dd dtX5_run 1 rfl) (by decide) ?_
  refine WPe_bipush (pc := 2) (40 : Int32) (dd dtX5_run 2 rfl) (by decide) ?_
  refine WPe_callS (pc := 4) (rtc := rtI) (Mc := mX5_isWithin) (d' := 1) (mc' := 0) (ms' := 0) [vI x1, vI (0 : Int32), vI (40 : Int32)] [] rfl (dd dtX5_run 3 rfl) (okf5_isWithin x1 (0 : Int32) (40 : Int32) w) moX5_isWithin msX5_isWithin (bw_mem2 176 rfl rfl) rfl (Nat.le_of_ble_eq_true rfl) ⟨(Nat.le_of_ble_eq_true rfl), (Nat.le_of_ble_eq_true rfl)⟩ ⟨(Nat.le_of_ble_eq_true rfl), (Nat.le_of_ble_eq_true rfl)⟩ (fun z1 h2 e3 => ?_)
  refine WPe_st (st2 := [vI z1.1]) rfl ?_
  refine WPe_if_ne (pc := 7) 13 (dd dtX5_run 4 rfl) (by decide) (fun h4 => ?_) (fun h4 => ?_)
  · refine WPe_bipush (pc := 10) (-2 : Int32) (dd dtX5_run 5 rfl) (by decide) ?_
    exact WPe_ireturn (pc := 12) (dd dtX5_run 6 rfl) rfl rfl ⟨(Nat.le_of_ble_eq_true rfl), (Nat.le_of_ble_eq_true rfl)⟩
  · refine WPe_iload_n (pc := 13) 2 (dd dtX5_run 7 rfl) rfl ?_
    refine WPe_iconst (pc := 14) (0 : Int32) (dd dtX5_run 8 rfl) (by decide) ?_
    refine WPe_iconst (pc := 15) (3 : Int32) (dd dtX5_run 9 rfl) (by decide) ?_
    refine WPe_callS (pc := 16) (rtc := rtI) (Mc := mX5_isWithin) (d' := 1) (mc' := 0) (ms' := 0) [vI x2, vI (0 : Int32), vI (3 : Int32)] [] rfl (dd dtX5_run 10 rfl) (okf5_isWithin x2 (0 : Int32) (3 : Int32) z1.2) moX5_isWithin msX5_isWithin (bw_mem2 176 rfl rfl) rfl (Nat.le_of_ble_eq_true rfl) ⟨(Nat.le_of_ble_eq_true rfl), (Nat.le_of_ble_eq_true rfl)⟩ ⟨(Nat.le_of_ble_eq_true rfl), (Nat.le_of_ble_eq_true rfl)⟩ (fun z5 h6 e7 => ?_)
    refine WPe_st (st2 := [vI z5.1]) rfl ?_
    refine WPe_if_ne (pc := 19) 53 (dd dtX5_run 11 rfl) (by decide) (fun h8 => ?_) (fun h8 => ?_)
    · refine WPe_aload_n (pc := 22) 0 (dd dtX5_run 12 rfl) rfl ?_
      refine WPe_ck fun h9 => ?_
      refine WPe_getR (pc := 23) (t := 5) (C := RX5) (T := TX5) 3 (dd dtX5_run 13 rfl) (shE h9) rfl (Nat.le_of_ble_eq_true rfl) rfl (bw_mem2 123 rfl rfl) ?_
      refine WPe_iload_n (pc := 26) 2 (dd dtX5_run 14 rfl) rfl ?_
      refine WPe_bipush (pc := 27) (10 : Int32) (dd dtX5_run 15 rfl) (by decide) ?_
      refine WPe_isub (pc := 29) (dd dtX5_run 16 rfl) ?_
      refine WPe_ck fun h10 => ?_
      refine WPe_callV (pc := 30) (rtc := rtI) (Mc := mX1_has) (d' := 1) (mc' := 0) (ms' := 0) [vI (x2 - (10 : Int32))] [] rfl (dd dtX5_run 17 rfl) (okf1_has (wr z5.2 x0 3) (x2 - (10 : Int32)) z5.2) moX1_has miX1_has (bw_mem2 193 rfl rfl) (Or.inl ⟨_, _, _, _, (shE h10), rfl⟩) rfl (Nat.le_of_ble_eq_true rfl) ⟨(Nat.le_of_ble_eq_true rfl), (Nat.le_of_ble_eq_true rfl)⟩ ⟨(Nat.le_of_ble_eq_true rfl), (Nat.le_of_ble_eq_true rfl)⟩ (fun z11 h12 e13 => ?_)
      refine WPe_st (st2 := [vI z11.1]) rfl ?_
      refine WPe_if_ne (pc := 33) 53 (dd dtX5_run 18 rfl) (by decide) (fun h14 => ?_) (fun h14 => ?_)
      · refine WPe_aload_n (pc := 36) 0 (dd dtX5_run 19 rfl) rfl ?_
        refine WPe_getR (pc := 37) (t := 5) (C := RX5) (T := TX5) 3 (dd dtX5_run 20 rfl) (e13.at (shE h9) (by decide)) rfl (Nat.le_of_ble_eq_true rfl) rfl (bw_mem2 123 rfl rfl) ?_
        refine WPe_iload_n (pc := 40) 2 (dd dtX5_run 21 rfl) rfl ?_
        refine WPe_bipush (pc := 41) (20 : Int32) (dd dtX5_run 22 rfl) (by decide) ?_
        refine WPe_isub (pc := 43) (dd dtX5_run 23 rfl) ?_
        refine WPe_ck fun h15 => ?_
        refine WPe_callV (pc := 44) (rtc := rtI) (Mc := mX1_has) (d' := 1) (mc' := 0) (ms' := 0) [vI (x2 - (20 : Int32))] [] rfl (dd dtX5_run 24 rfl) (okf1_has (wr z11.2 x0 3) (x2 - (20 : Int32)) z11.2) moX1_has miX1_has (bw_mem2 193 rfl rfl) (Or.inl ⟨_, _, _, _, (shE h15), rfl⟩) rfl (Nat.le_of_ble_eq_true rfl) ⟨(Nat.le_of_ble_eq_true rfl), (Nat.le_of_ble_eq_true rfl)⟩ ⟨(Nat.le_of_ble_eq_true rfl), (Nat.le_of_ble_eq_true rfl)⟩ (fun z16 h17 e18 => ?_)
        refine WPe_st (st2 := [vI z16.1]) rfl ?_
        refine WPe_if_ne (pc := 47) 53 (dd dtX5_run 25 rfl) (by decide) (fun h19 => ?_) (fun h19 => ?_)
        · refine WPe_bipush (pc := 50) (-2 : Int32) (dd dtX5_run 26 rfl) (by decide) ?_
          exact WPe_ireturn (pc := 52) (dd dtX5_run 27 rfl) rfl rfl ⟨(Nat.le_of_ble_eq_true rfl), (Nat.le_of_ble_eq_true rfl)⟩
        · refine WPe_sub [0, 1, 2] rfl ?_
          exact wpj5_run_53 X w0  x0 x1 x2 z16.2
      · refine WPe_sub [0, 1, 2] rfl ?_
        exact wpj5_run_53 X w0  x0 x1 x2 z11.2
    · refine WPe_sub [0, 1, 2] rfl ?_
      exact wpj5_run_53 X w0  x0 x1 x2 z5.2
theorem okf5_run (x0 : Nat) (x1 : Int32) (x2 : Int32) (w : Wd) : ∀ z, f5_run x0 x1 x2 w = some z → OkM mX5_run 7 0 0 [vR x0, vI x1, vI x2] w (rtI z.1) z.2 :=
  OkM.of (rt := rtI) moX5_run (Nat.le_of_ble_eq_true rfl) (fun X => wpf5_run X w x0 x1 x2 w)
def tbX5_minutesTillOut : List (Nat × Instr × Nat) := [(0, .iconst 0, 1), (1, .istore_n 2, 1), (2, .iload_n 2, 1), (3, .bipush 40, 2), (5, .if_icmp .gt 35, 3), (8, .aload_n 0, 1), (9, .getfield 52, 3), (12, .getfield 118, 3), (15, .iload_n 1, 1), (16, .aaload, 1), (17, .getfield 133, 3), (20, .iconst 3, 1), (21, .if_icmp .ne 5, 3), (24, .iload_n 2, 1), (25, .ireturn, 1), (26, .aload_n 0, 1), (27, .getfield 52, 3), (30, .invokevirtual 169, 3), (33, .pop, 1), (34, .iinc 2 1, 3), (37, .goto (-35), 3), (40, .bipush 41, 2), (42, .ireturn, 1)]
set_option maxRecDepth 20000 in
theorem dtX5_minutesTillOut : ∀ x ∈ tbX5_minutesTillOut, decode cX5_minutesTillOut x.1 = .ok x.2 := by decide +kernel
noncomputable def b5_minutesTillOut_2 (k2 : Nat × Int32 × Int32 → Wd → Option (Int32 × Wd)) (v : Nat × Int32 × Int32) (w : Wd) : Option (Int32 × Wd) :=
  if (40 : Int32) < v.2.2 then (some ((41 : Int32), w)) else (ck (tg w v.1 = 5) (ck (tg w (wr w v.1 4) = 1) (ck (tg w (wr w (wr w v.1 4) 6) = 22 ∧ vp_in v.2.1 (ln w (wr w (wr w v.1 4) 6))) (ck (tg w (wr w (wr w (wr w v.1 4) 6) (v.2.1).toNatClampNeg) = 0) (if (wi w (wr w (wr w (wr w v.1 4) 6) (v.2.1).toNatClampNeg) 2) = (3 : Int32) then (some (v.2.2, w)) else ((f1_passMinute (wr w v.1 4) w).bind fun z7 => (k2 (v.1, v.2.1, (v.2.2 + (1 : Int32))) z7.2)))))))
theorem wpb5_minutesTillOut_2 (X : CX) (w0 : Wd) (k2 : Nat × Int32 × Int32 → Wd → Option (Int32 × Wd)) (hk2 : ∀ (v : Nat × Int32 × Int32) (w : Wd), WPe rtI X (mX5_minutesTillOut, 6, 0, 0, w0) 0 0 (k2 v w) 2 [(0, vR v.1), (1, vI v.2.1), (2, vI v.2.2)] [] w) (v : Nat × Int32 × Int32) (w : Wd) : WPe rtI X (mX5_minutesTillOut, 6, 0, 0, w0) 0 0 (b5_minutesTillOut_2 k2 v w) 2 [(0, vR v.1), (1, vI v.2.1), (2, vI v.2.2)] [] w := by
  unfold b5_minutesTillOut_2
  refine WPe_iload_n (pc := 2) 2 (dd dtX5_minutesTillOut 2 rfl) rfl ?_
  refine WPe_bipush (pc := 3) (40 : Int32) (dd dtX5_minutesTillOut 3 rfl) (by decide) ?_
  refine WPe_icmp_gt (pc := 5) 40 (dd dtX5_minutesTillOut 4 rfl) (by decide) (fun h1 => ?_) (fun h1 => ?_)
  · refine WPe_bipush (pc := 40) (41 : Int32) (dd dtX5_minutesTillOut 21 rfl) (by decide) ?_
    exact WPe_ireturn (pc := 42) (dd dtX5_minutesTillOut 22 rfl) rfl rfl ⟨(Nat.le_of_ble_eq_true rfl), (Nat.le_of_ble_eq_true rfl)⟩
  · refine WPe_aload_n (pc := 8) 0 (dd dtX5_minutesTillOut 5 rfl) rfl ?_
    refine WPe_ck fun h2 => ?_
    refine WPe_getR (pc := 9) (t := 5) (C := RX5) (T := TX5) 4 (dd dtX5_minutesTillOut 6 rfl) (shE h2) rfl (Nat.le_of_ble_eq_true rfl) rfl (bw_mem2 124 rfl rfl) ?_
    refine WPe_ck fun h3 => ?_
    refine WPe_getR (pc := 12) (t := 1) (C := RX1) (T := TX1) 6 (dd dtX5_minutesTillOut 7 rfl) (shE h3) rfl (Nat.le_of_ble_eq_true rfl) rfl (bw_mem2 84 rfl rfl) ?_
    refine WPe_iload_n (pc := 15) 1 (dd dtX5_minutesTillOut 8 rfl) rfl ?_
    refine WPe_ck fun h4 => ?_
    refine WPe_aald (pc := 16) (dd dtX5_minutesTillOut 9 rfl) (shE h4.1) ⟨(Nat.le_of_ble_eq_true rfl), (Nat.le_of_ble_eq_true rfl)⟩ h4.2 ?_
    refine WPe_ck fun h5 => ?_
    refine WPe_getI (pc := 17) (t := 0) (C := RX0) (T := TX0) 2 (dd dtX5_minutesTillOut 10 rfl) (shE h5) rfl (Nat.le_of_ble_eq_true rfl) rfl (bw_mem2 49 rfl rfl) ?_
    refine WPe_iconst (pc := 20) (3 : Int32) (dd dtX5_minutesTillOut 11 rfl) (by decide) ?_
    refine WPe_icmp_ne (pc := 21) 26 (dd dtX5_minutesTillOut 12 rfl) (by decide) (fun h6 => ?_) (fun h6 => ?_)
    · refine WPe_iload_n (pc := 24) 2 (dd dtX5_minutesTillOut 13 rfl) rfl ?_
      exact WPe_ireturn (pc := 25) (dd dtX5_minutesTillOut 14 rfl) rfl rfl ⟨(Nat.le_of_ble_eq_true rfl), (Nat.le_of_ble_eq_true rfl)⟩
    · refine WPe_aload_n (pc := 26) 0 (dd dtX5_minutesTillOut 15 rfl) rfl ?_
      refine WPe_getR (pc := 27) (t := 5) (C := RX5) (T := TX5) 4 (dd dtX5_minutesTillOut 16 rfl) (shE h2) rfl (Nat.le_of_ble_eq_true rfl) rfl (bw_mem2 124 rfl rfl) ?_
      refine WPe_callV (pc := 30) (rtc := rtI) (Mc := mX1_passMinute) (d' := 5) (mc' := 0) (ms' := 0) [] [] rfl (dd dtX5_minutesTillOut 17 rfl) (okf1_passMinute (wr w v.1 4) w) moX1_passMinute miX1_passMinute (bw_mem3 36 rfl rfl) (Or.inl ⟨_, _, _, _, (shE h3), rfl⟩) rfl (Nat.le_of_ble_eq_true rfl) ⟨(Nat.le_of_ble_eq_true rfl), (Nat.le_of_ble_eq_true rfl)⟩ ⟨(Nat.le_of_ble_eq_true rfl), (Nat.le_of_ble_eq_true rfl)⟩ (fun z7 h8 e9 => ?_)
      refine WPe_st (st2 := [vI z7.1]) rfl ?_
      refine WPe_pop (pc := 33) (dd dtX5_minutesTillOut 18 rfl) rfl ?_
      refine WPe_iinc (pc := 34) (ls' := [(2, vI (v.2.2 + (1 : Int32))), (0, vR v.1), (1, vI v.2.1)]) 2 (v.2.2 + (1 : Int32)) (dd dtX5_minutesTillOut 19 rfl) rfl (congrArg (HAdd.hAdd _) (by decide : Int32.ofInt (1) = (1 : Int32))) (Nat.le_of_ble_eq_true rfl) rfl ?_
      refine WPe_goto (pc := 37) 2 (dd dtX5_minutesTillOut 20 rfl) (by decide) ?_
      refine WPe_sub [1, 2, 0] rfl ?_
      exact hk2 (v.1, v.2.1, (v.2.2 + (1 : Int32))) z7.2
theorem wplb5_minutesTillOut_2 (X : CX) (w0 : Wd)  : ∀ (n9 : Nat) (v : Nat × Int32 × Int32) (w : Wd), WPe rtI X (mX5_minutesTillOut, 6, 0, 0, w0) 0 0 (loopF (b5_minutesTillOut_2 ) n9 v w) 2 [(0, vR v.1), (1, vI v.2.1), (2, vI v.2.2)] [] w :=
  WPe_loop (rt := rtI) (X := X) (M := (mX5_minutesTillOut, 6, 0, 0, w0)) (fun v : Nat × Int32 × Int32 => [(0, vR v.1), (1, vI v.2.1), (2, vI v.2.2)]) (fun k hk v w => wpb5_minutesTillOut_2 X w0  k hk v w)
noncomputable def f5_minutesTillOut (x0 : Nat) (x1 : Int32) (w : Wd) : Option (Int32 × Wd) :=
  loopF (b5_minutesTillOut_2) FU (x0, x1, (0 : Int32)) w
theorem wpf5_minutesTillOut (X : CX) (w0 : Wd) (x0 : Nat) (x1 : Int32) (w : Wd) : WPe rtI X (mX5_minutesTillOut, 6, 0, 0, w0) 0 0 (f5_minutesTillOut x0 x1 w) 0 [(0, vR x0), (1, vI x1)] [] w := by
  unfold f5_minutesTillOut
  refine WPe_iconst (pc := 0) (0 : Int32) (dd dtX5_minutesTillOut 0 rfl) (by decide) ?_
  refine WPe_istore_n (pc := 1) (ls' := [(2, vI (0 : Int32)), (0, vR x0), (1, vI x1)]) (dd dtX5_minutesTillOut 1 rfl) (Nat.le_of_ble_eq_true rfl) rfl ?_
  refine WPe_sub [1, 2, 0] rfl ?_
  exact wplb5_minutesTillOut_2 X w0  FU _ _
theorem okf5_minutesTillOut (x0 : Nat) (x1 : Int32) (w : Wd) : ∀ z, f5_minutesTillOut x0 x1 w = some z → OkM mX5_minutesTillOut 6 0 0 [vR x0, vI x1] w (rtI z.1) z.2 :=
  OkM.of (rt := rtI) moX5_minutesTillOut (Nat.le_of_ble_eq_true rfl) (fun X => wpf5_minutesTillOut X w x0 x1 w)
def tbX5_leaves : List (Nat × Instr × Nat) := [(0, .aload_n 0, 1), (1, .getfield 48, 3), (4, .iload_n 1, 1), (5, .invokevirtual 115, 3), (8, .ifCond .ne 6, 3), (11, .bipush (-5), 2), (13, .ireturn, 1), (14, .aload_n 0, 1), (15, .invokevirtual 172, 3), (18, .aload_n 0, 1), (19, .iload_n 1, 1), (20, .invokevirtual 181, 3), (23, .istore_n 2, 1), (24, .iload_n 2, 1), (25, .bipush 41, 2), (27, .if_icmp .ne 7, 3), (30, .iconst (-1), 1), (31, .goto 4, 3), (34, .iload_n 2, 1), (35, .ireturn, 1)]
set_option maxRecDepth 20000 in
theorem dtX5_leaves : ∀ x ∈ tbX5_leaves, decode cX5_leaves x.1 = .ok x.2 := by decide +kernel
noncomputable def f5_leaves (x0 : Nat) (x1 : Int32) (w : Wd) : Option (Int32 × Wd) :=
  ck (tg w x0 = 5) (ck (tg w (wr w x0 3) = 1) ((f1_has (wr w x0 3) x1 w).bind fun z3 => (if z3.1 = (0 : Int32) then (some ((-5 : Int32), z3.2)) else ((f5_think x0 z3.2).bind fun z7 => ((f5_minutesTillOut x0 x1 z7.2).bind fun z10 => (if z10.1 = (41 : Int32) then (some ((-1 : Int32), z10.2)) else (some (z10.1, z10.2))))))))
theorem wpf5_leaves (X : CX) (w0 : Wd) (x0 : Nat) (x1 : Int32) (w : Wd) : WPe rtI X (mX5_leaves, 7, 0, 0, w0) 0 0 (f5_leaves x0 x1 w) 0 [(0, vR x0), (1, vI x1)] [] w := by
  unfold f5_leaves
  refine WPe_aload_n (pc := 0) 0 (dd dtX5_leaves 0 rfl) rfl ?_
  refine WPe_ck fun h1 => ?_
  refine WPe_getR (pc := 1) (t := 5) (C := RX5) (T := TX5) 3 (dd dtX5_leaves 1 rfl) (shE h1) rfl (Nat.le_of_ble_eq_true rfl) rfl (bw_mem2 123 rfl rfl) ?_
  refine WPe_iload_n (pc := 4) 1 (dd dtX5_leaves 2 rfl) rfl ?_
  refine WPe_ck fun h2 => ?_
  refine WPe_callV (pc := 5) (rtc := rtI) (Mc := mX1_has) (d' := 1) (mc' := 0) (ms' := 0) [vI x1] [] rfl (dd dtX5_leaves 3 rfl) (okf1_has (wr w x0 3) x1 w) moX1_has miX1_has (bw_mem2 193 rfl rfl) (Or.inl ⟨_, _, _, _, (shE h2), rfl⟩) rfl (Nat.le_of_ble_eq_true rfl) ⟨(Nat.le_of_ble_eq_true rfl), (Nat.le_of_ble_eq_true rfl)⟩ ⟨(Nat.le_of_ble_eq_true rfl), (Nat.le_of_ble_eq_true rfl)⟩ (fun z3 h4 e5 => ?_)
  refine WPe_st (st2 := [vI z3.1]) rfl ?_
  refine WPe_if_ne (pc := 8) 14 (dd dtX5_leaves 4 rfl) (by decide) (fun h6 => ?_) (fun h6 => ?_)
  · refine WPe_bipush (pc := 11) (-5 : Int32) (dd dtX5_leaves 5 rfl) (by decide) ?_
    exact WPe_ireturn (pc := 13) (dd dtX5_leaves 6 rfl) rfl rfl ⟨(Nat.le_of_ble_eq_true rfl), (Nat.le_of_ble_eq_true rfl)⟩
  · refine WPe_aload_n (pc := 14) 0 (dd dtX5_leaves 7 rfl) rfl ?_
    refine WPe_callV (pc := 15) (rtc := rtV) (Mc := mX5_think) (d' := 3) (mc' := 0) (ms' := 0) [] [] rfl (dd dtX5_leaves 8 rfl) (okf5_think x0 z3.2) moX5_think miX5_think (bw_mem3 53 rfl rfl) (Or.inl ⟨_, _, _, _, (e5.at (shE h1) (by decide)), rfl⟩) rfl (Nat.le_of_ble_eq_true rfl) ⟨(Nat.le_of_ble_eq_true rfl), (Nat.le_of_ble_eq_true rfl)⟩ ⟨(Nat.le_of_ble_eq_true rfl), (Nat.le_of_ble_eq_true rfl)⟩ (fun z7 h8 e9 => ?_)
    refine WPe_st (st2 := []) rfl ?_
    refine WPe_aload_n (pc := 18) 0 (dd dtX5_leaves 9 rfl) rfl ?_
    refine WPe_iload_n (pc := 19) 1 (dd dtX5_leaves 10 rfl) rfl ?_
    refine WPe_callV (pc := 20) (rtc := rtI) (Mc := mX5_minutesTillOut) (d' := 6) (mc' := 0) (ms' := 0) [vI x1] [] rfl (dd dtX5_leaves 11 rfl) (okf5_minutesTillOut x0 x1 z7.2) moX5_minutesTillOut miX5_minutesTillOut (bw_mem3 77 rfl rfl) (Or.inl ⟨_, _, _, _, (e9.at (e5.at (shE h1) (by decide)) (by decide)), rfl⟩) rfl (Nat.le_of_ble_eq_true rfl) ⟨(Nat.le_of_ble_eq_true rfl), (Nat.le_of_ble_eq_true rfl)⟩ ⟨(Nat.le_of_ble_eq_true rfl), (Nat.le_of_ble_eq_true rfl)⟩ (fun z10 h11 e12 => ?_)
    refine WPe_st (st2 := [vI z10.1]) rfl ?_
    refine WPe_istore_n (pc := 23) (ls' := [(2, vI z10.1), (0, vR x0), (1, vI x1)]) (dd dtX5_leaves 12 rfl) (Nat.le_of_ble_eq_true rfl) rfl ?_
    refine WPe_iload_n (pc := 24) 0 (dd dtX5_leaves 13 rfl) rfl ?_
    refine WPe_bipush (pc := 25) (41 : Int32) (dd dtX5_leaves 14 rfl) (by decide) ?_
    refine WPe_icmp_ne (pc := 27) 34 (dd dtX5_leaves 15 rfl) (by decide) (fun h13 => ?_) (fun h13 => ?_)
    · refine WPe_iconst (pc := 30) (-1 : Int32) (dd dtX5_leaves 16 rfl) (by decide) ?_
      refine WPe_goto (pc := 31) 35 (dd dtX5_leaves 17 rfl) (by decide) ?_
      exact WPe_ireturn (pc := 35) (dd dtX5_leaves 19 rfl) rfl rfl ⟨(Nat.le_of_ble_eq_true rfl), (Nat.le_of_ble_eq_true rfl)⟩
    · refine WPe_iload_n (pc := 34) 0 (dd dtX5_leaves 18 rfl) rfl ?_
      exact WPe_ireturn (pc := 35) (dd dtX5_leaves 19 rfl) rfl rfl ⟨(Nat.le_of_ble_eq_true rfl), (Nat.le_of_ble_eq_true rfl)⟩
theorem okf5_leaves (x0 : Nat) (x1 : Int32) (w : Wd) : ∀ z, f5_leaves x0 x1 w = some z → OkM mX5_leaves 7 0 0 [vR x0, vI x1] w (rtI z.1) z.2 :=
  OkM.of (rt := rtI) moX5_leaves (Nat.le_of_ble_eq_true rfl) (fun X => wpf5_leaves X w x0 x1 w)
def tbX5_together : List (Nat × Instr × Nat) := [(0, .aload_n 0, 1), (1, .invokevirtual 172, 3), (4, .iconst 0, 1), (5, .istore_n 1, 1), (6, .iload_n 1, 1), (7, .bipush 40, 2), (9, .if_icmp .ge 21, 3), (12, .aload_n 0, 1), (13, .getfield 52, 3), (16, .invokevirtual 169, 3), (19, .ifCond .eq 5, 3), (22, .iload_n 1, 1), (23, .ireturn, 1), (24, .iinc 1 1, 3), (27, .goto (-21), 3), (30, .bipush 40, 2), (32, .ireturn, 1)]
set_option maxRecDepth 20000 in
theorem dtX5_together : ∀ x ∈ tbX5_together, decode cX5_together x.1 = .ok x.2 := by decide +kernel
noncomputable def b5_together_6 (k6 : Nat × Int32 → Wd → Option (Int32 × Wd)) (v : Nat × Int32) (w : Wd) : Option (Int32 × Wd) :=
  if (40 : Int32) ≤ v.2 then (some ((40 : Int32), w)) else (ck (tg w v.1 = 5) (ck (tg w (wr w v.1 4) = 1) ((f1_passMinute (wr w v.1 4) w).bind fun z8 => (if z8.1 = (0 : Int32) then (k6 (v.1, (v.2 + (1 : Int32))) z8.2) else (some (v.2, z8.2))))))
theorem wpb5_together_6 (X : CX) (w0 : Wd) (k6 : Nat × Int32 → Wd → Option (Int32 × Wd)) (hk6 : ∀ (v : Nat × Int32) (w : Wd), WPe rtI X (mX5_together, 6, 0, 0, w0) 0 0 (k6 v w) 6 [(0, vR v.1), (1, vI v.2)] [] w) (v : Nat × Int32) (w : Wd) : WPe rtI X (mX5_together, 6, 0, 0, w0) 0 0 (b5_together_6 k6 v w) 6 [(0, vR v.1), (1, vI v.2)] [] w := by
  unfold b5_together_6
  refine WPe_iload_n (pc := 6) 1 (dd dtX5_together 4 rfl) rfl ?_
  refine WPe_bipush (pc := 7) (40 : Int32) (dd dtX5_together 5 rfl) (by decide) ?_
  refine WPe_icmp_ge (pc := 9) 30 (dd dtX5_together 6 rfl) (by decide) (fun h5 => ?_) (fun h5 => ?_)
  · refine WPe_bipush (pc := 30) (40 : Int32) (dd dtX5_together 15 rfl) (by decide) ?_
    exact WPe_ireturn (pc := 32) (dd dtX5_together 16 rfl) rfl rfl ⟨(Nat.le_of_ble_eq_true rfl), (Nat.le_of_ble_eq_true rfl)⟩
  · refine WPe_aload_n (pc := 12) 0 (dd dtX5_together 7 rfl) rfl ?_
    refine WPe_ck fun h6 => ?_
    refine WPe_getR (pc := 13) (t := 5) (C := RX5) (T := TX5) 4 (dd dtX5_together 8 rfl) (shE h6) rfl (Nat.le_of_ble_eq_true rfl) rfl (bw_mem2 124 rfl rfl) ?_
    refine WPe_ck fun h7 => ?_
    refine WPe_callV (pc := 16) (rtc := rtI) (Mc := mX1_passMinute) (d' := 5) (mc' := 0) (ms' := 0) [] [] rfl (dd dtX5_together 9 rfl) (okf1_passMinute (wr w v.1 4) w) moX1_passMinute miX1_passMinute (bw_mem3 36 rfl rfl) (Or.inl ⟨_, _, _, _, (shE h7), rfl⟩) rfl (Nat.le_of_ble_eq_true rfl) ⟨(Nat.le_of_ble_eq_true rfl), (Nat.le_of_ble_eq_true rfl)⟩ ⟨(Nat.le_of_ble_eq_true rfl), (Nat.le_of_ble_eq_true rfl)⟩ (fun z8 h9 e10 => ?_)
    refine WPe_st (st2 := [vI z8.1]) rfl ?_
    refine WPe_if_eq (pc := 19) 24 (dd dtX5_together 10 rfl) (by decide) (fun h11 => ?_) (fun h11 => ?_)
    · refine WPe_iinc (pc := 24) (ls' := [(1, vI (v.2 + (1 : Int32))), (0, vR v.1)]) 1 (v.2 + (1 : Int32)) (dd dtX5_together 13 rfl) rfl (congrArg (HAdd.hAdd _) (by decide : Int32.ofInt (1) = (1 : Int32))) (Nat.le_of_ble_eq_true rfl) rfl ?_
      refine WPe_goto (pc := 27) 6 (dd dtX5_together 14 rfl) (by decide) ?_
      refine WPe_sub [1, 0] rfl ?_
      exact hk6 (v.1, (v.2 + (1 : Int32))) z8.2
    · refine WPe_iload_n (pc := 22) 1 (dd dtX5_together 11 rfl) rfl ?_
      exact WPe_ireturn (pc := 23) (dd dtX5_together 12 rfl) rfl rfl ⟨(Nat.le_of_ble_eq_true rfl), (Nat.le_of_ble_eq_true rfl)⟩
theorem wplb5_together_6 (X : CX) (w0 : Wd)  : ∀ (n9 : Nat) (v : Nat × Int32) (w : Wd), WPe rtI X (mX5_together, 6, 0, 0, w0) 0 0 (loopF (b5_together_6 ) n9 v w) 6 [(0, vR v.1), (1, vI v.2)] [] w :=
  WPe_loop (rt := rtI) (X := X) (M := (mX5_together, 6, 0, 0, w0)) (fun v : Nat × Int32 => [(0, vR v.1), (1, vI v.2)]) (fun k hk v w => wpb5_together_6 X w0  k hk v w)
noncomputable def f5_together (x0 : Nat) (w : Wd) : Option (Int32 × Wd) :=
  ck (tg w x0 = 5) ((f5_think x0 w).bind fun z2 => (loopF (b5_together_6) FU (x0, (0 : Int32)) z2.2))
theorem wpf5_together (X : CX) (w0 : Wd) (x0 : Nat) (w : Wd) : WPe rtI X (mX5_together, 6, 0, 0, w0) 0 0 (f5_together x0 w) 0 [(0, vR x0)] [] w := by
  unfold f5_together
  refine WPe_aload_n (pc := 0) 0 (dd dtX5_together 0 rfl) rfl ?_
  refine WPe_ck fun h1 => ?_
  refine WPe_callV (pc := 1) (rtc := rtV) (Mc := mX5_think) (d' := 3) (mc' := 0) (ms' := 0) [] [] rfl (dd dtX5_together 1 rfl) (okf5_think x0 w) moX5_think miX5_think (bw_mem3 53 rfl rfl) (Or.inl ⟨_, _, _, _, (shE h1), rfl⟩) rfl (Nat.le_of_ble_eq_true rfl) ⟨(Nat.le_of_ble_eq_true rfl), (Nat.le_of_ble_eq_true rfl)⟩ ⟨(Nat.le_of_ble_eq_true rfl), (Nat.le_of_ble_eq_true rfl)⟩ (fun z2 h3 e4 => ?_)
  refine WPe_st (st2 := []) rfl ?_
  refine WPe_iconst (pc := 4) (0 : Int32) (dd dtX5_together 2 rfl) (by decide) ?_
  refine WPe_istore_n (pc := 5) (ls' := [(1, vI (0 : Int32)), (0, vR x0)]) (dd dtX5_together 3 rfl) (Nat.le_of_ble_eq_true rfl) rfl ?_
  refine WPe_sub [1, 0] rfl ?_
  exact wplb5_together_6 X w0  FU _ _
theorem okf5_together (x0 : Nat) (w : Wd) : ∀ z, f5_together x0 w = some z → OkM mX5_together 6 0 0 [vR x0] w (rtI z.1) z.2 :=
  OkM.of (rt := rtI) moX5_together (Nat.le_of_ble_eq_true rfl) (fun X => wpf5_together X w x0 w)
def tbX5_joyPouring : List (Nat × Instr × Nat) := [(0, .aload_n 0, 1), (1, .invokevirtual 172, 3), (4, .iconst 0, 1), (5, .istore_n 3, 1), (6, .iload_n 3, 1), (7, .iload_n 1, 1), (8, .if_icmp .ge 35, 3), (11, .iload_n 2, 1), (12, .iload_n 3, 1), (13, .ishr, 1), (14, .iconst 1, 1), (15, .iand, 1), (16, .iconst 1, 1), (17, .if_icmp .ne 12, 3), (20, .aload_n 0, 1), (21, .getfield 52, 3), (24, .iconst 1, 1), (25, .invokevirtual 160, 3), (28, .pop, 1), (29, .aload_n 0, 1), (30, .getfield 52, 3), (33, .invokevirtual 169, 3), (36, .pop, 1), (37, .iinc 3 1, 3), (40, .goto (-34), 3), (43, .aload_n 0, 1), (44, .getfield 52, 3), (47, .invokevirtual 71, 3), (50, .ireturn, 1)]
set_option maxRecDepth 20000 in
theorem dtX5_joyPouring : ∀ x ∈ tbX5_joyPouring, decode cX5_joyPouring x.1 = .ok x.2 := by decide +kernel
noncomputable def j5_joyPouring_29 (k6 : Nat × Int32 × Int32 × Int32 → Wd → Option (Int32 × Wd)) (x0 : Nat) (x1 : Int32) (x2 : Int32) (x3 : Int32) (w : Wd) : Option (Int32 × Wd) :=
  ck (tg w x0 = 5) (ck (tg w (wr w x0 4) = 1) ((f1_passMinute (wr w x0 4) w).bind fun z19 => (k6 (x0, x1, x2, (x3 + (1 : Int32))) z19.2)))
theorem wpj5_joyPouring_29 (X : CX) (w0 : Wd) (k6 : Nat × Int32 × Int32 × Int32 → Wd → Option (Int32 × Wd)) (hk6 : ∀ (v : Nat × Int32 × Int32 × Int32) (w : Wd), WPe rtI X (mX5_joyPouring, 6, 0, 0, w0) 0 0 (k6 v w) 6 [(0, vR v.1), (1, vI v.2.1), (2, vI v.2.2.1), (3, vI v.2.2.2)] [] w) (x0 : Nat) (x1 : Int32) (x2 : Int32) (x3 : Int32) (w : Wd) : WPe rtI X (mX5_joyPouring, 6, 0, 0, w0) 0 0 (j5_joyPouring_29 k6 x0 x1 x2 x3 w) 29 [(0, vR x0), (1, vI x1), (2, vI x2), (3, vI x3)] [] w := by
  unfold j5_joyPouring_29
  refine WPe_aload_n (pc := 29) 0 (dd dtX5_joyPouring 19 rfl) rfl ?_
  refine WPe_ck fun h17 => ?_
  refine WPe_getR (pc := 30) (t := 5) (C := RX5) (T := TX5) 4 (dd dtX5_joyPouring 20 rfl) (shE h17) rfl (Nat.le_of_ble_eq_true rfl) rfl (bw_mem2 124 rfl rfl) ?_
  refine WPe_ck fun h18 => ?_
  refine WPe_callV (pc := 33) (rtc := rtI) (Mc := mX1_passMinute) (d' := 5) (mc' := 0) (ms' := 0) [] [] rfl (dd dtX5_joyPouring 21 rfl) (okf1_passMinute (wr w x0 4) w) moX1_passMinute miX1_passMinute (bw_mem3 36 rfl rfl) (Or.inl ⟨_, _, _, _, (shE h18), rfl⟩) rfl (Nat.le_of_ble_eq_true rfl) ⟨(Nat.le_of_ble_eq_true rfl), (Nat.le_of_ble_eq_true rfl)⟩ ⟨(Nat.le_of_ble_eq_true rfl), (Nat.le_of_ble_eq_true rfl)⟩ (fun z19 h20 e21 => ?_)
  refine WPe_st (st2 := [vI z19.1]) rfl ?_
  refine WPe_pop (pc := 36) (dd dtX5_joyPouring 22 rfl) rfl ?_
  refine WPe_iinc (pc := 37) (ls' := [(3, vI (x3 + (1 : Int32))), (0, vR x0), (1, vI x1), (2, vI x2)]) 3 (x3 + (1 : Int32)) (dd dtX5_joyPouring 23 rfl) rfl (congrArg (HAdd.hAdd _) (by decide : Int32.ofInt (1) = (1 : Int32))) (Nat.le_of_ble_eq_true rfl) rfl ?_
  refine WPe_goto (pc := 40) 6 (dd dtX5_joyPouring 24 rfl) (by decide) ?_
  refine WPe_sub [1, 2, 3, 0] rfl ?_
  exact hk6 (x0, x1, x2, (x3 + (1 : Int32))) z19.2
noncomputable def b5_joyPouring_6 (k6 : Nat × Int32 × Int32 × Int32 → Wd → Option (Int32 × Wd)) (v : Nat × Int32 × Int32 × Int32) (w : Wd) : Option (Int32 × Wd) :=
  if v.2.1 ≤ v.2.2.2 then (ck (tg w v.1 = 5) (ck (tg w (wr w v.1 4) = 1) ((f1_joyOfAll (wr w v.1 4) w).bind fun z8 => (some (z8.1, z8.2))))) else (if ((v.2.2.1 >>> (v.2.2.2 &&& 31)) &&& (1 : Int32)) = (1 : Int32) then (ck (tg w v.1 = 5) (ck (tg w (wr w v.1 4) = 1) ((f1_pourLadles (wr w v.1 4) (1 : Int32) w).bind fun z14 => (j5_joyPouring_29 k6 v.1 v.2.1 v.2.2.1 v.2.2.2 z14.2)))) else (j5_joyPouring_29 k6 v.1 v.2.1 v.2.2.1 v.2.2.2 w))
theorem wpb5_joyPouring_6 (X : CX) (w0 : Wd) (k6 : Nat × Int32 × Int32 × Int32 → Wd → Option (Int32 × Wd)) (hk6 : ∀ (v : Nat × Int32 × Int32 × Int32) (w : Wd), WPe rtI X (mX5_joyPouring, 6, 0, 0, w0) 0 0 (k6 v w) 6 [(0, vR v.1), (1, vI v.2.1), (2, vI v.2.2.1), (3, vI v.2.2.2)] [] w) (v : Nat × Int32 × Int32 × Int32) (w : Wd) : WPe rtI X (mX5_joyPouring, 6, 0, 0, w0) 0 0 (b5_joyPouring_6 k6 v w) 6 [(0, vR v.1), (1, vI v.2.1), (2, vI v.2.2.1), (3, vI v.2.2.2)] [] w := by
  unfold b5_joyPouring_6
  refine WPe_iload_n (pc := 6) 3 (dd dtX5_joyPouring 4 rfl) rfl ?_
  refine WPe_iload_n (pc := 7) 1 (dd dtX5_joyPouring 5 rfl) rfl ?_
  refine WPe_icmp_ge (pc := 8) 43 (dd dtX5_joyPouring 6 rfl) (by decide) (fun h5 => ?_) (fun h5 => ?_)
  · refine WPe_aload_n (pc := 43) 0 (dd dtX5_joyPouring 25 rfl) rfl ?_
    refine WPe_ck fun h6 => ?_
    refine WPe_getR (pc := 44) (t := 5) (C := RX5) (T := TX5) 4 (dd dtX5_joyPouring 26 rfl) (shE h6) rfl (Nat.le_of_ble_eq_true rfl) rfl (bw_mem2 124 rfl rfl) ?_
    refine WPe_ck fun h7 => ?_
    refine WPe_callV (pc := 47) (rtc := rtI) (Mc := mX1_joyOfAll) (d' := 1) (mc' := 0) (ms' := 0) [] [] rfl (dd dtX5_joyPouring 27 rfl) (okf1_joyOfAll (wr w v.1 4) w) moX1_joyOfAll miX1_joyOfAll (bw_mem2 153 rfl rfl) (Or.inl ⟨_, _, _, _, (shE h7), rfl⟩) rfl (Nat.le_of_ble_eq_true rfl) ⟨(Nat.le_of_ble_eq_true rfl), (Nat.le_of_ble_eq_true rfl)⟩ ⟨(Nat.le_of_ble_eq_true rfl), (Nat.le_of_ble_eq_true rfl)⟩ (fun z8 h9 e10 => ?_)
    refine WPe_st (st2 := [vI z8.1]) rfl ?_
    exact WPe_ireturn (pc := 50) (dd dtX5_joyPouring 28 rfl) rfl rfl ⟨(Nat.le_of_ble_eq_true rfl), (Nat.le_of_ble_eq_true rfl)⟩
  · refine WPe_iload_n (pc := 11) 2 (dd dtX5_joyPouring 7 rfl) rfl ?_
    refine WPe_iload_n (pc := 12) 3 (dd dtX5_joyPouring 8 rfl) rfl ?_
    refine WPe_ishr (pc := 13) (dd dtX5_joyPouring 9 rfl) ?_
    refine WPe_iconst (pc := 14) (1 : Int32) (dd dtX5_joyPouring 10 rfl) (by decide) ?_
    refine WPe_iand (pc := 15) (dd dtX5_joyPouring 11 rfl) ?_
    refine WPe_iconst (pc := 16) (1 : Int32) (dd dtX5_joyPouring 12 rfl) (by decide) ?_
    refine WPe_icmp_ne (pc := 17) 29 (dd dtX5_joyPouring 13 rfl) (by decide) (fun h11 => ?_) (fun h11 => ?_)
    · refine WPe_aload_n (pc := 20) 0 (dd dtX5_joyPouring 14 rfl) rfl ?_
      refine WPe_ck fun h12 => ?_
      refine WPe_getR (pc := 21) (t := 5) (C := RX5) (T := TX5) 4 (dd dtX5_joyPouring 15 rfl) (shE h12) rfl (Nat.le_of_ble_eq_true rfl) rfl (bw_mem2 124 rfl rfl) ?_
      refine WPe_iconst (pc := 24) (1 : Int32) (dd dtX5_joyPouring 16 rfl) (by decide) ?_
      refine WPe_ck fun h13 => ?_
      refine WPe_callV (pc := 25) (rtc := rtI) (Mc := mX1_pourLadles) (d' := 1) (mc' := 0) (ms' := 0) [vI (1 : Int32)] [] rfl (dd dtX5_joyPouring 17 rfl) (okf1_pourLadles (wr w v.1 4) (1 : Int32) w) moX1_pourLadles miX1_pourLadles (bw_mem3 10 rfl rfl) (Or.inl ⟨_, _, _, _, (shE h13), rfl⟩) rfl (Nat.le_of_ble_eq_true rfl) ⟨(Nat.le_of_ble_eq_true rfl), (Nat.le_of_ble_eq_true rfl)⟩ ⟨(Nat.le_of_ble_eq_true rfl), (Nat.le_of_ble_eq_true rfl)⟩ (fun z14 h15 e16 => ?_)
      refine WPe_st (st2 := [vI z14.1]) rfl ?_
      refine WPe_pop (pc := 28) (dd dtX5_joyPouring 18 rfl) rfl ?_
      refine WPe_sub [0, 1, 2, 3] rfl ?_
      exact wpj5_joyPouring_29 X w0 k6 hk6 v.1 v.2.1 v.2.2.1 v.2.2.2 z14.2
    · refine WPe_sub [0, 1, 2, 3] rfl ?_
      exact wpj5_joyPouring_29 X w0 k6 hk6 v.1 v.2.1 v.2.2.1 v.2.2.2 w
theorem wplb5_joyPouring_6 (X : CX) (w0 : Wd)  : ∀ (n9 : Nat) (v : Nat × Int32 × Int32 × Int32) (w : Wd), WPe rtI X (mX5_joyPouring, 6, 0, 0, w0) 0 0 (loopF (b5_joyPouring_6 ) n9 v w) 6 [(0, vR v.1), (1, vI v.2.1), (2, vI v.2.2.1), (3, vI v.2.2.2)] [] w :=
  WPe_loop (rt := rtI) (X := X) (M := (mX5_joyPouring, 6, 0, 0, w0)) (fun v : Nat × Int32 × Int32 × Int32 => [(0, vR v.1), (1, vI v.2.1), (2, vI v.2.2.1), (3, vI v.2.2.2)]) (fun k hk v w => wpb5_joyPouring_6 X w0  k hk v w)
noncomputable def f5_joyPouring (x0 : Nat) (x1 : Int32) (x2 : Int32) (w : Wd) : Option (Int32 × Wd) :=
  ck (tg w x0 = 5) ((f5_think x0 w).bind fun z2 => (loopF (b5_joyPouring_6) FU (x0, x1, x2, (0 : Int32)) z2.2))
theorem wpf5_joyPouring (X : CX) (w0 : Wd) (x0 : Nat) (x1 : Int32) (x2 : Int32) (w : Wd) : WPe rtI X (mX5_joyPouring, 6, 0, 0, w0) 0 0 (f5_joyPouring x0 x1 x2 w) 0 [(0, vR x0), (1, vI x1), (2, vI x2)] [] w := by
  unfold f5_joyPouring
  refine WPe_aload_n (pc := 0) 0 (dd dtX5_joyPouring 0 rfl) rfl ?_
  refine WPe_ck fun h1 => ?_
  refine WPe_callV (pc := 1) (rtc := rtV) (Mc := mX5_think) (d' := 3) (mc' := 0) (ms' := 0) [] [] rfl (dd dtX5_joyPouring 1 rfl) (okf5_think x0 w) moX5_think miX5_think (bw_mem3 53 rfl rfl) (Or.inl ⟨_, _, _, _, (shE h1), rfl⟩) rfl (Nat.le_of_ble_eq_true rfl) ⟨(Nat.le_of_ble_eq_true rfl), (Nat.le_of_ble_eq_true rfl)⟩ ⟨(Nat.le_of_ble_eq_true rfl), (Nat.le_of_ble_eq_true rfl)⟩ (fun z2 h3 e4 => ?_)
  refine WPe_st (st2 := []) rfl ?_
  refine WPe_iconst (pc := 4) (0 : Int32) (dd dtX5_joyPouring 2 rfl) (by decide) ?_
  refine WPe_istore_n (pc := 5) (ls' := [(3, vI (0 : Int32)), (0, vR x0), (1, vI x1), (2, vI x2)]) (dd dtX5_joyPouring 3 rfl) (Nat.le_of_ble_eq_true rfl) rfl ?_
  refine WPe_sub [1, 2, 3, 0] rfl ?_
  exact wplb5_joyPouring_6 X w0  FU _ _
theorem okf5_joyPouring (x0 : Nat) (x1 : Int32) (x2 : Int32) (w : Wd) : ∀ z, f5_joyPouring x0 x1 x2 w = some z → OkM mX5_joyPouring 6 0 0 [vR x0, vI x1, vI x2] w (rtI z.1) z.2 :=
  OkM.of (rt := rtI) moX5_joyPouring (Nat.le_of_ble_eq_true rfl) (fun X => wpf5_joyPouring X w x0 x1 x2 w)
def tbX5_when : List (Nat × Instr × Nat) := [(0, .iload_n 1, 1), (1, .iconst 1, 1), (2, .bipush 8, 2), (4, .invokestatic 111, 3), (7, .ifCond .eq 12, 3), (10, .iload_n 2, 1), (11, .iconst 0, 1), (12, .iconst 1, 1), (13, .invokestatic 111, 3), (16, .ifCond .ne 6, 3), (19, .bipush (-2), 2), (21, .ireturn, 1), (22, .iconst (-1), 1), (23, .istore_n 3, 1), (24, .iconst 0, 1), (25, .istore 4, 2), (27, .iconst 0, 1), (28, .istore 5, 2), (30, .iload 5, 2), (32, .iconst 1, 1), (33, .iload_n 1, 1), (34, .ishl, 1), (35, .if_icmp .ge 31, 3), (38, .aload_n 0, 1), (39, .iload_n 1, 1), (40, .iload 5, 2), (42, .invokevirtual 184, 3), (45, .istore 6, 2), (47, .iload 6, 2), (49, .iload_n 3, 1), (50, .if_icmp .le 10, 3), (53, .iload 6, 2), (55, .istore_n 3, 1), (56, .iload 5, 2), (58, .istore 4, 2), (60, .iinc 5 1, 3), (63, .goto (-33), 3), (66, .iload_n 2, 1), (67, .ifCond .ne 8, 3), (70, .iload 4, 2), (72, .goto 4, 3), (75, .iload_n 3, 1), (76, .ireturn, 1)]
set_option maxRecDepth 20000 in
theorem dtX5_when : ∀ x ∈ tbX5_when, decode cX5_when x.1 = .ok x.2 := by decide +kernel
noncomputable def j5_when_60 (k30 : Nat × Int32 × Int32 × Int32 × Int32 × Int32 → Wd → Option (Int32 × Wd)) (x0 : Nat) (x1 : Int32) (x2 : Int32) (x3 : Int32) (x4 : Int32) (x5 : Int32) (w : Wd) : Option (Int32 × Wd) :=
  k30 (x0, x1, x2, x3, x4, (x5 + (1 : Int32))) w
theorem wpj5_when_60 (X : CX) (w0 : Wd) (k30 : Nat × Int32 × Int32 × Int32 × Int32 × Int32 → Wd → Option (Int32 × Wd)) (hk30 : ∀ (v : Nat × Int32 × Int32 × Int32 × Int32 × Int32) (w : Wd), WPe rtI X (mX5_when, 7, 0, 0, w0) 0 0 (k30 v w) 30 [(0, vR v.1), (1, vI v.2.1), (2, vI v.2.2.1), (3, vI v.2.2.2.1), (4, vI v.2.2.2.2.1), (5, vI v.2.2.2.2.2)] [] w) (x0 : Nat) (x1 : Int32) (x2 : Int32) (x3 : Int32) (x4 : Int32) (x5 : Int32) (w : Wd) : WPe rtI X (mX5_when, 7, 0, 0, w0) 0 0 (j5_when_60 k30 x0 x1 x2 x3 x4 x5 w) 60 [(0, vR x0), (1, vI x1), (2, vI x2), (3, vI x3), (4, vI x4), (5, vI x5)] [] w := by
  unfold j5_when_60
  refine WPe_iinc (pc := 60) (ls' := [(5, vI (x5 + (1 : Int32))), (0, vR x0), (1, vI x1), (2, vI x2), (3, vI x3), (4, vI x4)]) 5 (x5 + (1 : Int32)) (dd dtX5_when 35 rfl) rfl (congrArg (HAdd.hAdd _) (by decide : Int32.ofInt (1) = (1 : Int32))) (Nat.le_of_ble_eq_true rfl) rfl ?_
  refine WPe_goto (pc := 63) 30 (dd dtX5_when 36 rfl) (by decide) ?_
  refine WPe_sub [1, 2, 3, 4, 5, 0] rfl ?_
  exact hk30 (x0, x1, x2, x3, x4, (x5 + (1 : Int32))) w
noncomputable def b5_when_30 (k30 : Nat × Int32 × Int32 × Int32 × Int32 × Int32 → Wd → Option (Int32 × Wd)) (v : Nat × Int32 × Int32 × Int32 × Int32 × Int32) (w : Wd) : Option (Int32 × Wd) :=
  if ((1 : Int32) <<< (v.2.1 &&& 31)) ≤ v.2.2.2.2.2 then (if v.2.2.1 = (0 : Int32) then (some (v.2.2.2.2.1, w)) else (some (v.2.2.2.1, w))) else (ck (tg w v.1 = 5) ((f5_joyPouring v.1 v.2.1 v.2.2.2.2.2 w).bind fun z12 => (if z12.1 ≤ v.2.2.2.1 then (j5_when_60 k30 v.1 v.2.1 v.2.2.1 v.2.2.2.1 v.2.2.2.2.1 v.2.2.2.2.2 z12.2) else (j5_when_60 k30 v.1 v.2.1 v.2.2.1 z12.1 v.2.2.2.2.2 v.2.2.2.2.2 z12.2))))
theorem wpb5_when_30 (X : CX) (w0 : Wd) (k30 : Nat × Int32 × Int32 × Int32 × Int32 × Int32 → Wd → Option (Int32 × Wd)) (hk30 : ∀ (v : Nat × Int32 × Int32 × Int32 × Int32 × Int32) (w : Wd), WPe rtI X (mX5_when, 7, 0, 0, w0) 0 0 (k30 v w) 30 [(0, vR v.1), (1, vI v.2.1), (2, vI v.2.2.1), (3, vI v.2.2.2.1), (4, vI v.2.2.2.2.1), (5, vI v.2.2.2.2.2)] [] w) (v : Nat × Int32 × Int32 × Int32 × Int32 × Int32) (w : Wd) : WPe rtI X (mX5_when, 7, 0, 0, w0) 0 0 (b5_when_30 k30 v w) 30 [(0, vR v.1), (1, vI v.2.1), (2, vI v.2.2.1), (3, vI v.2.2.2.1), (4, vI v.2.2.2.2.1), (5, vI v.2.2.2.2.2)] [] w := by
  unfold b5_when_30
  refine WPe_iload (pc := 30) 5 (dd dtX5_when 18 rfl) rfl ?_
  refine WPe_iconst (pc := 32) (1 : Int32) (dd dtX5_when 19 rfl) (by decide) ?_
  refine WPe_iload_n (pc := 33) 1 (dd dtX5_when 20 rfl) rfl ?_
  refine WPe_ishl (pc := 34) (dd dtX5_when 21 rfl) ?_
  refine WPe_icmp_ge (pc := 35) 66 (dd dtX5_when 22 rfl) (by decide) (fun h9 => ?_) (fun h9 => ?_)
  · refine WPe_iload_n (pc := 66) 2 (dd dtX5_when 37 rfl) rfl ?_
    refine WPe_if_ne (pc := 67) 75 (dd dtX5_when 38 rfl) (by decide) (fun h10 => ?_) (fun h10 => ?_)
    · refine WPe_iload (pc := 70) 4 (dd dtX5_when 39 rfl) rfl ?_
      refine WPe_goto (pc := 72) 76 (dd dtX5_when 40 rfl) (by decide) ?_
      exact WPe_ireturn (pc := 76) (dd dtX5_when 42 rfl) rfl rfl ⟨(Nat.le_of_ble_eq_true rfl), (Nat.le_of_ble_eq_true rfl)⟩
    · refine WPe_iload_n (pc := 75) 3 (dd dtX5_when 41 rfl) rfl ?_
      exact WPe_ireturn (pc := 76) (dd dtX5_when 42 rfl) rfl rfl ⟨(Nat.le_of_ble_eq_true rfl), (Nat.le_of_ble_eq_true rfl)⟩
  · refine WPe_aload_n (pc := 38) 0 (dd dtX5_when 23 rfl) rfl ?_
    refine WPe_iload_n (pc := 39) 1 (dd dtX5_when 24 rfl) rfl ?_
    refine WPe_iload (pc := 40) 5 (dd dtX5_when 25 rfl) rfl ?_
    refine WPe_ck fun h11 => ?_
    refine WPe_callV (pc := 42) (rtc := rtI) (Mc := mX5_joyPouring) (d' := 6) (mc' := 0) (ms' := 0) [vI v.2.1, vI v.2.2.2.2.2] [] rfl (dd dtX5_when 26 rfl) (okf5_joyPouring v.1 v.2.1 v.2.2.2.2.2 w) moX5_joyPouring miX5_joyPouring (bw_mem3 89 rfl rfl) (Or.inl ⟨_, _, _, _, (shE h11), rfl⟩) rfl (Nat.le_of_ble_eq_true rfl) ⟨(Nat.le_of_ble_eq_true rfl), (Nat.le_of_ble_eq_true rfl)⟩ ⟨(Nat.le_of_ble_eq_true rfl), (Nat.le_of_ble_eq_true rfl)⟩ (fun z12 h13 e14 => ?_)
    refine WPe_st (st2 := [vI z12.1]) rfl ?_
    refine WPe_istore (pc := 45) (ls' := [(6, vI z12.1), (0, vR v.1), (1, vI v.2.1), (2, vI v.2.2.1), (3, vI v.2.2.2.1), (4, vI v.2.2.2.2.1), (5, vI v.2.2.2.2.2)]) (dd dtX5_when 27 rfl) (Nat.le_of_ble_eq_true rfl) rfl ?_
    refine WPe_iload (pc := 47) 0 (dd dtX5_when 28 rfl) rfl ?_
    refine WPe_iload_n (pc := 49) 4 (dd dtX5_when 29 rfl) rfl ?_
    refine WPe_icmp_le (pc := 50) 60 (dd dtX5_when 30 rfl) (by decide) (fun h15 => ?_) (fun h15 => ?_)
    · refine WPe_sub [1, 2, 3, 4, 5, 6] rfl ?_
      exact wpj5_when_60 X w0 k30 hk30 v.1 v.2.1 v.2.2.1 v.2.2.2.1 v.2.2.2.2.1 v.2.2.2.2.2 z12.2
    · refine WPe_iload (pc := 53) 0 (dd dtX5_when 31 rfl) rfl ?_
      refine WPe_istore_n (pc := 55) (ls' := [(3, vI z12.1), (6, vI z12.1), (0, vR v.1), (1, vI v.2.1), (2, vI v.2.2.1), (4, vI v.2.2.2.2.1), (5, vI v.2.2.2.2.2)]) (dd dtX5_when 32 rfl) (Nat.le_of_ble_eq_true rfl) rfl ?_
      refine WPe_iload (pc := 56) 6 (dd dtX5_when 33 rfl) rfl ?_
      refine WPe_istore (pc := 58) (ls' := [(4, vI v.2.2.2.2.2), (3, vI z12.1), (6, vI z12.1), (0, vR v.1), (1, vI v.2.1), (2, vI v.2.2.1), (5, vI v.2.2.2.2.2)]) (dd dtX5_when 34 rfl) (Nat.le_of_ble_eq_true rfl) rfl ?_
      refine WPe_sub [3, 4, 5, 1, 0, 6] rfl ?_
      exact wpj5_when_60 X w0 k30 hk30 v.1 v.2.1 v.2.2.1 z12.1 v.2.2.2.2.2 v.2.2.2.2.2 z12.2
theorem wplb5_when_30 (X : CX) (w0 : Wd)  : ∀ (n9 : Nat) (v : Nat × Int32 × Int32 × Int32 × Int32 × Int32) (w : Wd), WPe rtI X (mX5_when, 7, 0, 0, w0) 0 0 (loopF (b5_when_30 ) n9 v w) 30 [(0, vR v.1), (1, vI v.2.1), (2, vI v.2.2.1), (3, vI v.2.2.2.1), (4, vI v.2.2.2.2.1), (5, vI v.2.2.2.2.2)] [] w :=
  WPe_loop (rt := rtI) (X := X) (M := (mX5_when, 7, 0, 0, w0)) (fun v : Nat × Int32 × Int32 × Int32 × Int32 × Int32 => [(0, vR v.1), (1, vI v.2.1), (2, vI v.2.2.1), (3, vI v.2.2.2.1), (4, vI v.2.2.2.2.1), (5, vI v.2.2.2.2.2)]) (fun k hk v w => wpb5_when_30 X w0  k hk v w)
noncomputable def f5_when (x0 : Nat) (x1 : Int32) (x2 : Int32) (w : Wd) : Option (Int32 × Wd) :=
  (f5_isWithin x1 (1 : Int32) (8 : Int32) w).bind fun z1 => (if z1.1 = (0 : Int32) then (some ((-2 : Int32), z1.2)) else ((f5_isWithin x2 (0 : Int32) (1 : Int32) z1.2).bind fun z5 => (if z5.1 = (0 : Int32) then (some ((-2 : Int32), z5.2)) else (loopF (b5_when_30) FU (x0, x1, x2, (-1 : Int32), (0 : Int32), (0 : Int32)) z5.2))))
theorem wpf5_when (X : CX) (w0 : Wd) (x0 : Nat) (x1 : Int32) (x2 : Int32) (w : Wd) : WPe rtI X (mX5_when, 7, 0, 0, w0) 0 0 (f5_when x0 x1 x2 w) 0 [(0, vR x0), (1, vI x1), (2, vI x2)] [] w := by
  unfold f5_when
  refine WPe_iload_n (pc := 0) 1 (dd dtX5_when 0 rfl) rfl ?_
  refine WPe_iconst (pc := 1) (1 : Int32) (dd dtX5_when 1 rfl) (by decide) ?_
  refine WPe_bipush (pc := 2) (8 : Int32) (dd dtX5_when 2 rfl) (by decide) ?_
  refine WPe_callS (pc := 4) (rtc := rtI) (Mc := mX5_isWithin) (d' := 1) (mc' := 0) (ms' := 0) [vI x1, vI (1 : Int32), vI (8 : Int32)] [] rfl (dd dtX5_when 3 rfl) (okf5_isWithin x1 (1 : Int32) (8 : Int32) w) moX5_isWithin msX5_isWithin (bw_mem2 176 rfl rfl) rfl (Nat.le_of_ble_eq_true rfl) ⟨(Nat.le_of_ble_eq_true rfl), (Nat.le_of_ble_eq_true rfl)⟩ ⟨(Nat.le_of_ble_eq_true rfl), (Nat.le_of_ble_eq_true rfl)⟩ (fun z1 h2 e3 => ?_)
  refine WPe_st (st2 := [vI z1.1]) rfl ?_
  refine WPe_if_eq (pc := 7) 19 (dd dtX5_when 4 rfl) (by decide) (fun h4 => ?_) (fun h4 => ?_)
  · refine WPe_bipush (pc := 19) (-2 : Int32) (dd dtX5_when 10 rfl) (by decide) ?_
    exact WPe_ireturn (pc := 21) (dd dtX5_when 11 rfl) rfl rfl ⟨(Nat.le_of_ble_eq_true rfl), (Nat.le_of_ble_eq_true rfl)⟩
  · refine WPe_iload_n (pc := 10) 2 (dd dtX5_when 5 rfl) rfl ?_
    refine WPe_iconst (pc := 11) (0 : Int32) (dd dtX5_when 6 rfl) (by decide) ?_
    refine WPe_iconst (pc := 12) (1 : Int32) (dd dtX5_when 7 rfl) (by decide) ?_
    refine WPe_callS (pc := 13) (rtc := rtI) (Mc := mX5_isWithin) (d' := 1) (mc' := 0) (ms' := 0) [vI x2, vI (0 : Int32), vI (1 : Int32)] [] rfl (dd dtX5_when 8 rfl) (okf5_isWithin x2 (0 : Int32) (1 : Int32) z1.2) moX5_isWithin msX5_isWithin (bw_mem2 176 rfl rfl) rfl (Nat.le_of_ble_eq_true rfl) ⟨(Nat.le_of_ble_eq_true rfl), (Nat.le_of_ble_eq_true rfl)⟩ ⟨(Nat.le_of_ble_eq_true rfl), (Nat.le_of_ble_eq_true rfl)⟩ (fun z5 h6 e7 => ?_)
    refine WPe_st (st2 := [vI z5.1]) rfl ?_
    refine WPe_if_ne (pc := 16) 22 (dd dtX5_when 9 rfl) (by decide) (fun h8 => ?_) (fun h8 => ?_)
    · refine WPe_bipush (pc := 19) (-2 : Int32) (dd dtX5_when 10 rfl) (by decide) ?_
      exact WPe_ireturn (pc := 21) (dd dtX5_when 11 rfl) rfl rfl ⟨(Nat.le_of_ble_eq_true rfl), (Nat.le_of_ble_eq_true rfl)⟩
    · refine WPe_iconst (pc := 22) (-1 : Int32) (dd dtX5_when 12 rfl) (by decide) ?_
      refine WPe_istore_n (pc := 23) (ls' := [(3, vI (-1 : Int32)), (0, vR x0), (1, vI x1), (2, vI x2)]) (dd dtX5_when 13 rfl) (Nat.le_of_ble_eq_true rfl) rfl ?_
      refine WPe_iconst (pc := 24) (0 : Int32) (dd dtX5_when 14 rfl) (by decide) ?_
      refine WPe_istore (pc := 25) (ls' := [(4, vI (0 : Int32)), (3, vI (-1 : Int32)), (0, vR x0), (1, vI x1), (2, vI x2)]) (dd dtX5_when 15 rfl) (Nat.le_of_ble_eq_true rfl) rfl ?_
      refine WPe_iconst (pc := 27) (0 : Int32) (dd dtX5_when 16 rfl) (by decide) ?_
      refine WPe_istore (pc := 28) (ls' := [(5, vI (0 : Int32)), (4, vI (0 : Int32)), (3, vI (-1 : Int32)), (0, vR x0), (1, vI x1), (2, vI x2)]) (dd dtX5_when 17 rfl) (Nat.le_of_ble_eq_true rfl) rfl ?_
      refine WPe_sub [3, 4, 5, 2, 1, 0] rfl ?_
      exact wplb5_when_30 X w0  FU _ _
theorem okf5_when (x0 : Nat) (x1 : Int32) (x2 : Int32) (w : Wd) : ∀ z, f5_when x0 x1 x2 w = some z → OkM mX5_when 7 0 0 [vR x0, vI x1, vI x2] w (rtI z.1) z.2 :=
  OkM.of (rt := rtI) moX5_when (Nat.le_of_ble_eq_true rfl) (fun X => wpf5_when X w x0 x1 x2 w)
def tbX5_seatBy : List (Nat × Instr × Nat) := [(0, .iload_n 1, 1), (1, .istore_n 2, 1), (2, .iconst 1, 1), (3, .istore_n 3, 1), (4, .iconst 0, 1), (5, .istore 4, 2), (7, .aload_n 0, 1), (8, .getfield 52, 3), (11, .getfield 65, 3), (14, .iconst 1, 1), (15, .isub, 1), (16, .istore 5, 2), (18, .iload 5, 2), (20, .ifCond .lt 61, 3), (23, .aload_n 0, 1), (24, .getfield 52, 3), (27, .getfield 118, 3), (30, .iload 5, 2), (32, .aaload, 1), (33, .astore 6, 2), (35, .aload 6, 2), (37, .getfield 133, 3), (40, .iconst 3, 1), (41, .if_icmp .eq 29, 3), (44, .aload 6, 2), (46, .iload_n 2, 1), (47, .iconst 3, 1), (48, .irem, 1), (49, .putfield 133, 3), (52, .iload_n 2, 1), (53, .iconst 3, 1), (54, .idiv, 1), (55, .istore_n 2, 1), (56, .iload 4, 2), (58, .iload_n 3, 1), (59, .aload 6, 2), (61, .getfield 133, 3), (64, .iconst 1, 1), (65, .iadd, 1), (66, .imul, 1), (67, .iadd, 1), (68, .istore 4, 2), (70, .iload_n 3, 1), (71, .bipush 10, 2), (73, .imul, 1), (74, .istore_n 3, 1), (75, .iinc 5 (-1), 3), (78, .goto (-60), 3), (81, .iload 4, 2), (83, .ireturn, 1)]
set_option maxRecDepth 20000 in
theorem dtX5_seatBy : ∀ x ∈ tbX5_seatBy, decode cX5_seatBy x.1 = .ok x.2 := by decide +kernel
noncomputable def j5_seatBy_70 (k18 : Nat × Int32 × Int32 × Int32 × Int32 → Wd → Option (Int32 × Wd)) (x0 : Nat) (x2 : Int32) (x3 : Int32) (x4 : Int32) (x5 : Int32) (w : Wd) : Option (Int32 × Wd) :=
  k18 (x0, x2, (x3 * (10 : Int32)), x4, (x5 + (-1 : Int32))) w
theorem wpj5_seatBy_70 (X : CX) (w0 : Wd) (k18 : Nat × Int32 × Int32 × Int32 × Int32 → Wd → Option (Int32 × Wd)) (hk18 : ∀ (v : Nat × Int32 × Int32 × Int32 × Int32) (w : Wd), WPe rtI X (mX5_seatBy, 1, 0, 0, w0) 0 0 (k18 v w) 18 [(0, vR v.1), (2, vI v.2.1), (3, vI v.2.2.1), (4, vI v.2.2.2.1), (5, vI v.2.2.2.2)] [] w) (x0 : Nat) (x2 : Int32) (x3 : Int32) (x4 : Int32) (x5 : Int32) (w : Wd) : WPe rtI X (mX5_seatBy, 1, 0, 0, w0) 0 0 (j5_seatBy_70 k18 x0 x2 x3 x4 x5 w) 70 [(0, vR x0), (2, vI x2), (3, vI x3), (4, vI x4), (5, vI x5)] [] w := by
  unfold j5_seatBy_70
  refine WPe_iload_n (pc := 70) 2 (dd dtX5_seatBy 42 rfl) rfl ?_
  refine WPe_bipush (pc := 71) (10 : Int32) (dd dtX5_seatBy 43 rfl) (by decide) ?_
  refine WPe_imul (pc := 73) (dd dtX5_seatBy 44 rfl) ?_
  refine WPe_istore_n (pc := 74) (ls' := [(3, vI (x3 * (10 : Int32))), (0, vR x0), (2, vI x2), (4, vI x4), (5, vI x5)]) (dd dtX5_seatBy 45 rfl) (Nat.le_of_ble_eq_true rfl) rfl ?_
  refine WPe_iinc (pc := 75) (ls' := [(5, vI (x5 + (-1 : Int32))), (3, vI (x3 * (10 : Int32))), (0, vR x0), (2, vI x2), (4, vI x4)]) 4 (x5 + (-1 : Int32)) (dd dtX5_seatBy 46 rfl) rfl (congrArg (HAdd.hAdd _) (by decide : Int32.ofInt (-1) = (-1 : Int32))) (Nat.le_of_ble_eq_true rfl) rfl ?_
  refine WPe_goto (pc := 78) 18 (dd dtX5_seatBy 47 rfl) (by decide) ?_
  refine WPe_sub [2, 3, 1, 4, 0] rfl ?_
  exact hk18 (x0, x2, (x3 * (10 : Int32)), x4, (x5 + (-1 : Int32))) w
noncomputable def b5_seatBy_18 (k18 : Nat × Int32 × Int32 × Int32 × Int32 → Wd → Option (Int32 × Wd)) (v : Nat × Int32 × Int32 × Int32 × Int32) (w : Wd) : Option (Int32 × Wd) :=
  if v.2.2.2.2 < (0 : Int32) then (some (v.2.2.2.1, w)) else (ck (tg w v.1 = 5) (ck (tg w (wr w v.1 4) = 1) (ck (tg w (wr w (wr w v.1 4) 6) = 22 ∧ vp_in v.2.2.2.2 (ln w (wr w (wr w v.1 4) 6))) (ck (tg w (wr w (wr w (wr w v.1 4) 6) (v.2.2.2.2).toNatClampNeg) = 0) (if (wi w (wr w (wr w (wr w v.1 4) 6) (v.2.2.2.2).toNatClampNeg) 2) = (3 : Int32) then (j5_seatBy_70 k18 v.1 v.2.1 v.2.2.1 v.2.2.2.1 v.2.2.2.2 w) else (lw (sI w (wr w (wr w (wr w v.1 4) 6) (v.2.2.2.2).toNatClampNeg) 2 (v.2.1 - v.2.1 / (3 : Int32) * (3 : Int32))) fun w9 => (j5_seatBy_70 k18 v.1 (v.2.1 / (3 : Int32)) v.2.2.1 (v.2.2.2.1 + (v.2.2.1 * ((wi w9 (wr w (wr w (wr w v.1 4) 6) (v.2.2.2.2).toNatClampNeg) 2) + (1 : Int32)))) v.2.2.2.2 w9)))))))
theorem wpb5_seatBy_18 (X : CX) (w0 : Wd) (k18 : Nat × Int32 × Int32 × Int32 × Int32 → Wd → Option (Int32 × Wd)) (hk18 : ∀ (v : Nat × Int32 × Int32 × Int32 × Int32) (w : Wd), WPe rtI X (mX5_seatBy, 1, 0, 0, w0) 0 0 (k18 v w) 18 [(0, vR v.1), (2, vI v.2.1), (3, vI v.2.2.1), (4, vI v.2.2.2.1), (5, vI v.2.2.2.2)] [] w) (v : Nat × Int32 × Int32 × Int32 × Int32) (w : Wd) : WPe rtI X (mX5_seatBy, 1, 0, 0, w0) 0 0 (b5_seatBy_18 k18 v w) 18 [(0, vR v.1), (2, vI v.2.1), (3, vI v.2.2.1), (4, vI v.2.2.2.1), (5, vI v.2.2.2.2)] [] w := by
  unfold b5_seatBy_18
  refine WPe_iload (pc := 18) 4 (dd dtX5_seatBy 12 rfl) rfl ?_
  refine WPe_if_lt (pc := 20) 81 (dd dtX5_seatBy 13 rfl) (by decide) (fun h3 => ?_) (fun h3 => ?_)
  · refine WPe_iload (pc := 81) 3 (dd dtX5_seatBy 48 rfl) rfl ?_
    exact WPe_ireturn (pc := 83) (dd dtX5_seatBy 49 rfl) rfl rfl ⟨(Nat.le_of_ble_eq_true rfl), (Nat.le_of_ble_eq_true rfl)⟩
  · refine WPe_aload_n (pc := 23) 0 (dd dtX5_seatBy 14 rfl) rfl ?_
    refine WPe_ck fun h4 => ?_
    refine WPe_getR (pc := 24) (t := 5) (C := RX5) (T := TX5) 4 (dd dtX5_seatBy 15 rfl) (shE h4) rfl (Nat.le_of_ble_eq_true rfl) rfl (bw_mem2 124 rfl rfl) ?_
    refine WPe_ck fun h5 => ?_
    refine WPe_getR (pc := 27) (t := 1) (C := RX1) (T := TX1) 6 (dd dtX5_seatBy 16 rfl) (shE h5) rfl (Nat.le_of_ble_eq_true rfl) rfl (bw_mem2 84 rfl rfl) ?_
    refine WPe_iload (pc := 30) 4 (dd dtX5_seatBy 17 rfl) rfl ?_
    refine WPe_ck fun h6 => ?_
    refine WPe_aald (pc := 32) (dd dtX5_seatBy 18 rfl) (shE h6.1) ⟨(Nat.le_of_ble_eq_true rfl), (Nat.le_of_ble_eq_true rfl)⟩ h6.2 ?_
    refine WPe_astore (pc := 33) (ls' := [(6, vR (wr w (wr w (wr w v.1 4) 6) (v.2.2.2.2).toNatClampNeg)), (0, vR v.1), (2, vI v.2.1), (3, vI v.2.2.1), (4, vI v.2.2.2.1), (5, vI v.2.2.2.2)]) (dd dtX5_seatBy 19 rfl) (Nat.le_of_ble_eq_true rfl) rfl ?_
    refine WPe_aload (pc := 35) 0 (dd dtX5_seatBy 20 rfl) rfl ?_
    refine WPe_ck fun h7 => ?_
    refine WPe_getI (pc := 37) (t := 0) (C := RX0) (T := TX0) 2 (dd dtX5_seatBy 21 rfl) (shE h7) rfl (Nat.le_of_ble_eq_true rfl) rfl (bw_mem2 49 rfl rfl) ?_
    refine WPe_iconst (pc := 40) (3 : Int32) (dd dtX5_seatBy 22 rfl) (by decide) ?_
    refine WPe_icmp_eq (pc := 41) 70 (dd dtX5_seatBy 23 rfl) (by decide) (fun h8 => ?_) (fun h8 => ?_)
    · refine WPe_sub [1, 2, 3, 4, 5] rfl ?_
      exact wpj5_seatBy_70 X w0 k18 hk18 v.1 v.2.1 v.2.2.1 v.2.2.2.1 v.2.2.2.2 w
    · refine WPe_aload (pc := 44) 0 (dd dtX5_seatBy 24 rfl) rfl ?_
      refine WPe_iload_n (pc := 46) 2 (dd dtX5_seatBy 25 rfl) rfl ?_
      refine WPe_iconst (pc := 47) (3 : Int32) (dd dtX5_seatBy 26 rfl) (by decide) ?_
      refine WPe_irem (pc := 48) (dd dtX5_seatBy 27 rfl) (by decide) ?_
      refine WPe_putI (pc := 49) (t := 0) (C := RX0) (T := TX0) 2 (dd dtX5_seatBy 28 rfl) (shE h7) rfl (Nat.le_of_ble_eq_true rfl) (bw_mem2 49 rfl rfl) (Or.inl rfl) rfl rfl rfl ?_
      refine WPe_lw fun w9 e10 => ?_
      refine WPe_iload_n (pc := 52) 2 (dd dtX5_seatBy 29 rfl) rfl ?_
      refine WPe_iconst (pc := 53) (3 : Int32) (dd dtX5_seatBy 30 rfl) (by decide) ?_
      refine WPe_idiv (pc := 54) (dd dtX5_seatBy 31 rfl) (by decide) ?_
      refine WPe_istore_n (pc := 55) (ls' := [(2, vI (v.2.1 / (3 : Int32))), (6, vR (wr w (wr w (wr w v.1 4) 6) (v.2.2.2.2).toNatClampNeg)), (0, vR v.1), (3, vI v.2.2.1), (4, vI v.2.2.2.1), (5, vI v.2.2.2.2)]) (dd dtX5_seatBy 32 rfl) (Nat.le_of_ble_eq_true rfl) rfl ?_
      refine WPe_iload (pc := 56) 4 (dd dtX5_seatBy 33 rfl) rfl ?_
      refine WPe_iload_n (pc := 58) 3 (dd dtX5_seatBy 34 rfl) rfl ?_
      refine WPe_aload (pc := 59) 1 (dd dtX5_seatBy 35 rfl) rfl ?_
      refine WPe_getI (pc := 61) (t := 0) (C := RX0) (T := TX0) 2 (dd dtX5_seatBy 36 rfl) (shI e10 (shE h7)) rfl (Nat.le_of_ble_eq_true rfl) rfl (bw_mem2 49 rfl rfl) ?_
      refine WPe_iconst (pc := 64) (1 : Int32) (dd dtX5_seatBy 37 rfl) (by decide) ?_
      refine WPe_iadd (pc := 65) (dd dtX5_seatBy 38 rfl) ?_
      refine WPe_imul (pc := 66) (dd dtX5_seatBy 39 rfl) ?_
      refine WPe_iadd (pc := 67) (dd dtX5_seatBy 40 rfl) ?_
      refine WPe_istore (pc := 68) (ls' := [(4, vI (v.2.2.2.1 + (v.2.2.1 * ((wi w9 (wr w (wr w (wr w v.1 4) 6) (v.2.2.2.2).toNatClampNeg) 2) + (1 : Int32))))), (2, vI (v.2.1 / (3 : Int32))), (6, vR (wr w (wr w (wr w v.1 4) 6) (v.2.2.2.2).toNatClampNeg)), (0, vR v.1), (3, vI v.2.2.1), (5, vI v.2.2.2.2)]) (dd dtX5_seatBy 41 rfl) (Nat.le_of_ble_eq_true rfl) rfl ?_
      refine WPe_sub [3, 1, 4, 0, 5] rfl ?_
      exact wpj5_seatBy_70 X w0 k18 hk18 v.1 (v.2.1 / (3 : Int32)) v.2.2.1 (v.2.2.2.1 + (v.2.2.1 * ((wi w9 (wr w (wr w (wr w v.1 4) 6) (v.2.2.2.2).toNatClampNeg) 2) + (1 : Int32)))) v.2.2.2.2 w9
theorem wplb5_seatBy_18 (X : CX) (w0 : Wd)  : ∀ (n9 : Nat) (v : Nat × Int32 × Int32 × Int32 × Int32) (w : Wd), WPe rtI X (mX5_seatBy, 1, 0, 0, w0) 0 0 (loopF (b5_seatBy_18 ) n9 v w) 18 [(0, vR v.1), (2, vI v.2.1), (3, vI v.2.2.1), (4, vI v.2.2.2.1), (5, vI v.2.2.2.2)] [] w :=
  WPe_loop (rt := rtI) (X := X) (M := (mX5_seatBy, 1, 0, 0, w0)) (fun v : Nat × Int32 × Int32 × Int32 × Int32 => [(0, vR v.1), (2, vI v.2.1), (3, vI v.2.2.1), (4, vI v.2.2.2.1), (5, vI v.2.2.2.2)]) (fun k hk v w => wpb5_seatBy_18 X w0  k hk v w)
noncomputable def f5_seatBy (x0 : Nat) (x1 : Int32) (w : Wd) : Option (Int32 × Wd) :=
  ck (tg w x0 = 5) (ck (tg w (wr w x0 4) = 1) (loopF (b5_seatBy_18) FU (x0, x1, (1 : Int32), (0 : Int32), ((wi w (wr w x0 4) 4) - (1 : Int32))) w))
theorem wpf5_seatBy (X : CX) (w0 : Wd) (x0 : Nat) (x1 : Int32) (w : Wd) : WPe rtI X (mX5_seatBy, 1, 0, 0, w0) 0 0 (f5_seatBy x0 x1 w) 0 [(0, vR x0), (1, vI x1)] [] w := by
  unfold f5_seatBy
  refine WPe_iload_n (pc := 0) 1 (dd dtX5_seatBy 0 rfl) rfl ?_
  refine WPe_istore_n (pc := 1) (ls' := [(2, vI x1), (0, vR x0), (1, vI x1)]) (dd dtX5_seatBy 1 rfl) (Nat.le_of_ble_eq_true rfl) rfl ?_
  refine WPe_iconst (pc := 2) (1 : Int32) (dd dtX5_seatBy 2 rfl) (by decide) ?_
  refine WPe_istore_n (pc := 3) (ls' := [(3, vI (1 : Int32)), (2, vI x1), (0, vR x0), (1, vI x1)]) (dd dtX5_seatBy 3 rfl) (Nat.le_of_ble_eq_true rfl) rfl ?_
  refine WPe_iconst (pc := 4) (0 : Int32) (dd dtX5_seatBy 4 rfl) (by decide) ?_
  refine WPe_istore (pc := 5) (ls' := [(4, vI (0 : Int32)), (3, vI (1 : Int32)), (2, vI x1), (0, vR x0), (1, vI x1)]) (dd dtX5_seatBy 5 rfl) (Nat.le_of_ble_eq_true rfl) rfl ?_
  refine WPe_aload_n (pc := 7) 3 (dd dtX5_seatBy 6 rfl) rfl ?_
  refine WPe_ck fun h1 => ?_
  refine WPe_getR (pc := 8) (t := 5) (C := RX5) (T := TX5) 4 (dd dtX5_seatBy 7 rfl) (shE h1) rfl (Nat.le_of_ble_eq_true rfl) rfl (bw_mem2 124 rfl rfl) ?_
  refine WPe_ck fun h2 => ?_
  refine WPe_getI (pc := 11) (t := 1) (C := RX1) (T := TX1) 4 (dd dtX5_seatBy 8 rfl) (shE h2) rfl (Nat.le_of_ble_eq_true rfl) rfl (bw_mem2 80 rfl rfl) ?_
  refine WPe_iconst (pc := 14) (1 : Int32) (dd dtX5_seatBy 9 rfl) (by decide) ?_
  refine WPe_isub (pc := 15) (dd dtX5_seatBy 10 rfl) ?_
  refine WPe_istore (pc := 16) (ls' := [(5, vI ((wi w (wr w x0 4) 4) - (1 : Int32))), (4, vI (0 : Int32)), (3, vI (1 : Int32)), (2, vI x1), (0, vR x0), (1, vI x1)]) (dd dtX5_seatBy 11 rfl) (Nat.le_of_ble_eq_true rfl) rfl ?_
  refine WPe_sub [4, 3, 2, 1, 0] rfl ?_
  exact wplb5_seatBy_18 X w0  FU _ _
theorem okf5_seatBy (x0 : Nat) (x1 : Int32) (w : Wd) : ∀ z, f5_seatBy x0 x1 w = some z → OkM mX5_seatBy 1 0 0 [vR x0, vI x1] w (rtI z.1) z.2 :=
  OkM.of (rt := rtI) moX5_seatBy (Nat.le_of_ble_eq_true rfl) (fun X => wpf5_seatBy X w x0 x1 w)
def tbX5_benches : List (Nat × Instr × Nat) := [(0, .iload_n 1, 1), (1, .iconst 1, 1), (2, .bipush 10, 2), (4, .invokestatic 111, 3), (7, .ifCond .eq 12, 3), (10, .iload_n 2, 1), (11, .iconst 0, 1), (12, .iconst 1, 1), (13, .invokestatic 111, 3), (16, .ifCond .ne 6, 3), (19, .bipush (-2), 2), (21, .ireturn, 1), (22, .iconst 1, 1), (23, .istore_n 3, 1), (24, .aload_n 0, 1), (25, .getfield 48, 3), (28, .invokevirtual 68, 3), (31, .istore 4, 2), (33, .iload 4, 2), (35, .ifCond .le 13, 3), (38, .iload_n 3, 1), (39, .iconst 3, 1), (40, .imul, 1), (41, .istore_n 3, 1), (42, .iinc 4 (-1), 3), (45, .goto (-12), 3), (48, .iconst (-1), 1), (49, .istore 4, 2), (51, .iconst 0, 1), (52, .istore 5, 2), (54, .iconst 0, 1), (55, .istore 6, 2), (57, .iload 6, 2), (59, .iload_n 3, 1), (60, .if_icmp .ge 43, 3), (63, .aload_n 0, 1), (64, .invokevirtual 172, 3), (67, .aload_n 0, 1), (68, .iload 6, 2), (70, .invokevirtual 187, 3), (73, .istore 7, 2), (75, .aload_n 0, 1), (76, .iload_n 1, 1), (77, .invokevirtual 175, 3), (80, .istore 8, 2), (82, .iload 8, 2), (84, .iload 4, 2), (86, .if_icmp .le 11, 3), (89, .iload 8, 2), (91, .istore 4, 2), (93, .iload 7, 2), (95, .istore 5, 2), (97, .iinc 6 1, 3), (100, .goto (-43), 3), (103, .iload_n 2, 1), (104, .ifCond .ne 8, 3), (107, .iload 5, 2), (109, .goto 5, 3), (112, .iload 4, 2), (114, .ireturn, 1)]
set_option maxRecDepth 20000 in
theorem dtX5_benches : ∀ x ∈ tbX5_benches, decode cX5_benches x.1 = .ok x.2 := by decide +kernel
noncomputable def j5_benches_97 (k57 : Nat × Int32 × Int32 × Int32 × Int32 × Int32 × Int32 → Wd → Option (Int32 × Wd)) (x0 : Nat) (x1 : Int32) (x2 : Int32) (x3 : Int32) (x4 : Int32) (x5 : Int32) (x6 : Int32) (w : Wd) : Option (Int32 × Wd) :=
  k57 (x0, x1, x2, x3, x4, x5, (x6 + (1 : Int32))) w
theorem wpj5_benches_97 (X : CX) (w0 : Wd) (k57 : Nat × Int32 × Int32 × Int32 × Int32 × Int32 × Int32 → Wd → Option (Int32 × Wd)) (hk57 : ∀ (v : Nat × Int32 × Int32 × Int32 × Int32 × Int32 × Int32) (w : Wd), WPe rtI X (mX5_benches, 7, 0, 0, w0) 0 0 (k57 v w) 57 [(0, vR v.1), (1, vI v.2.1), (2, vI v.2.2.1), (3, vI v.2.2.2.1), (4, vI v.2.2.2.2.1), (5, vI v.2.2.2.2.2.1), (6, vI v.2.2.2.2.2.2)] [] w) (x0 : Nat) (x1 : Int32) (x2 : Int32) (x3 : Int32) (x4 : Int32) (x5 : Int32) (x6 : Int32) (w : Wd) : WPe rtI X (mX5_benches, 7, 0, 0, w0) 0 0 (j5_benches_97 k57 x0 x1 x2 x3 x4 x5 x6 w) 97 [(0, vR x0), (1, vI x1), (2, vI x2), (3, vI x3), (4, vI x4), (5, vI x5), (6, vI x6)] [] w := by
  unfold j5_benches_97
  refine WPe_iinc (pc := 97) (ls' := [(6, vI (x6 + (1 : Int32))), (0, vR x0), (1, vI x1), (2, vI x2), (3, vI x3), (4, vI x4), (5, vI x5)]) 6 (x6 + (1 : Int32)) (dd dtX5_benches 52 rfl) rfl (congrArg (HAdd.hAdd _) (by decide : Int32.ofInt (1) = (1 : Int32))) (Nat.le_of_ble_eq_true rfl) rfl ?_
  refine WPe_goto (pc := 100) 57 (dd dtX5_benches 53 rfl) (by decide) ?_
  refine WPe_sub [1, 2, 3, 4, 5, 6, 0] rfl ?_
  exact hk57 (x0, x1, x2, x3, x4, x5, (x6 + (1 : Int32))) w
noncomputable def b5_benches_57 (k57 : Nat × Int32 × Int32 × Int32 × Int32 × Int32 × Int32 → Wd → Option (Int32 × Wd)) (v : Nat × Int32 × Int32 × Int32 × Int32 × Int32 × Int32) (w : Wd) : Option (Int32 × Wd) :=
  if v.2.2.2.1 ≤ v.2.2.2.2.2.2 then (if v.2.2.1 = (0 : Int32) then (some (v.2.2.2.2.2.1, w)) else (some (v.2.2.2.2.1, w))) else (ck (tg w v.1 = 5) ((f5_think v.1 w).bind fun z18 => ((f5_seatBy v.1 v.2.2.2.2.2.2 z18.2).bind fun z21 => ((f5_joyBehind v.1 v.2.1 z21.2).bind fun z24 => (if z24.1 ≤ v.2.2.2.2.1 then (j5_benches_97 k57 v.1 v.2.1 v.2.2.1 v.2.2.2.1 v.2.2.2.2.1 v.2.2.2.2.2.1 v.2.2.2.2.2.2 z24.2) else (j5_benches_97 k57 v.1 v.2.1 v.2.2.1 v.2.2.2.1 z24.1 z21.1 v.2.2.2.2.2.2 z24.2))))))
theorem wpb5_benches_57 (X : CX) (w0 : Wd) (k57 : Nat × Int32 × Int32 × Int32 × Int32 × Int32 × Int32 → Wd → Option (Int32 × Wd)) (hk57 : ∀ (v : Nat × Int32 × Int32 × Int32 × Int32 × Int32 × Int32) (w : Wd), WPe rtI X (mX5_benches, 7, 0, 0, w0) 0 0 (k57 v w) 57 [(0, vR v.1), (1, vI v.2.1), (2, vI v.2.2.1), (3, vI v.2.2.2.1), (4, vI v.2.2.2.2.1), (5, vI v.2.2.2.2.2.1), (6, vI v.2.2.2.2.2.2)] [] w) (v : Nat × Int32 × Int32 × Int32 × Int32 × Int32 × Int32) (w : Wd) : WPe rtI X (mX5_benches, 7, 0, 0, w0) 0 0 (b5_benches_57 k57 v w) 57 [(0, vR v.1), (1, vI v.2.1), (2, vI v.2.2.1), (3, vI v.2.2.2.1), (4, vI v.2.2.2.2.1), (5, vI v.2.2.2.2.2.1), (6, vI v.2.2.2.2.2.2)] [] w := by
  unfold b5_benches_57
  refine WPe_iload (pc := 57) 6 (dd dtX5_benches 32 rfl) rfl ?_
  refine WPe_iload_n (pc := 59) 3 (dd dtX5_benches 33 rfl) rfl ?_
  refine WPe_icmp_ge (pc := 60) 103 (dd dtX5_benches 34 rfl) (by decide) (fun h15 => ?_) (fun h15 => ?_)
  · refine WPe_iload_n (pc := 103) 2 (dd dtX5_benches 54 rfl) rfl ?_
    refine WPe_if_ne (pc := 104) 112 (dd dtX5_benches 55 rfl) (by decide) (fun h16 => ?_) (fun h16 => ?_)
    · refine WPe_iload (pc := 107) 5 (dd dtX5_benches 56 rfl) rfl ?_
      refine WPe_goto (pc := 109) 114 (dd dtX5_benches 57 rfl) (by decide) ?_
      exact WPe_ireturn (pc := 114) (dd dtX5_benches 59 rfl) rfl rfl ⟨(Nat.le_of_ble_eq_true rfl), (Nat.le_of_ble_eq_true rfl)⟩
    · refine WPe_iload (pc := 112) 4 (dd dtX5_benches 58 rfl) rfl ?_
      exact WPe_ireturn (pc := 114) (dd dtX5_benches 59 rfl) rfl rfl ⟨(Nat.le_of_ble_eq_true rfl), (Nat.le_of_ble_eq_true rfl)⟩
  · refine WPe_aload_n (pc := 63) 0 (dd dtX5_benches 35 rfl) rfl ?_
    refine WPe_ck fun h17 => ?_
    refine WPe_callV (pc := 64) (rtc := rtV) (Mc := mX5_think) (d' := 3) (mc' := 0) (ms' := 0) [] [] rfl (dd dtX5_benches 36 rfl) (okf5_think v.1 w) moX5_think miX5_think (bw_mem3 53 rfl rfl) (Or.inl ⟨_, _, _, _, (shE h17), rfl⟩) rfl (Nat.le_of_ble_eq_true rfl) ⟨(Nat.le_of_ble_eq_true rfl), (Nat.le_of_ble_eq_true rfl)⟩ ⟨(Nat.le_of_ble_eq_true rfl), (Nat.le_of_ble_eq_true rfl)⟩ (fun z18 h19 e20 => ?_)
    refine WPe_st (st2 := []) rfl ?_
    refine WPe_aload_n (pc := 67) 0 (dd dtX5_benches 37 rfl) rfl ?_
    refine WPe_iload (pc := 68) 6 (dd dtX5_benches 38 rfl) rfl ?_
    refine WPe_callV (pc := 70) (rtc := rtI) (Mc := mX5_seatBy) (d' := 1) (mc' := 0) (ms' := 0) [vI v.2.2.2.2.2.2] [] rfl (dd dtX5_benches 39 rfl) (okf5_seatBy v.1 v.2.2.2.2.2.2 z18.2) moX5_seatBy miX5_seatBy (bw_mem3 97 rfl rfl) (Or.inl ⟨_, _, _, _, (e20.at (shE h17) (by decide)), rfl⟩) rfl (Nat.le_of_ble_eq_true rfl) ⟨(Nat.le_of_ble_eq_true rfl), (Nat.le_of_ble_eq_true rfl)⟩ ⟨(Nat.le_of_ble_eq_true rfl), (Nat.le_of_ble_eq_true rfl)⟩ (fun z21 h22 e23 => ?_)
    refine WPe_st (st2 := [vI z21.1]) rfl ?_
    refine WPe_istore (pc := 73) (ls' := [(7, vI z21.1), (0, vR v.1), (1, vI v.2.1), (2, vI v.2.2.1), (3, vI v.2.2.2.1), (4, vI v.2.2.2.2.1), (5, vI v.2.2.2.2.2.1), (6, vI v.2.2.2.2.2.2)]) (dd dtX5_benches 40 rfl) (Nat.le_of_ble_eq_true rfl) rfl ?_
    refine WPe_aload_n (pc := 75) 1 (dd dtX5_benches 41 rfl) rfl ?_
    refine WPe_iload_n (pc := 76) 2 (dd dtX5_benches 42 rfl) rfl ?_
    refine WPe_callV (pc := 77) (rtc := rtI) (Mc := mX5_joyBehind) (d' := 6) (mc' := 0) (ms' := 0) [vI v.2.1] [] rfl (dd dtX5_benches 43 rfl) (okf5_joyBehind v.1 v.2.1 z21.2) moX5_joyBehind miX5_joyBehind (bw_mem3 65 rfl rfl) (Or.inl ⟨_, _, _, _, (e23.at (e20.at (shE h17) (by decide)) (by decide)), rfl⟩) rfl (Nat.le_of_ble_eq_true rfl) ⟨(Nat.le_of_ble_eq_true rfl), (Nat.le_of_ble_eq_true rfl)⟩ ⟨(Nat.le_of_ble_eq_true rfl), (Nat.le_of_ble_eq_true rfl)⟩ (fun z24 h25 e26 => ?_)
    refine WPe_st (st2 := [vI z24.1]) rfl ?_
    refine WPe_istore (pc := 80) (ls' := [(8, vI z24.1), (7, vI z21.1), (0, vR v.1), (1, vI v.2.1), (2, vI v.2.2.1), (3, vI v.2.2.2.1), (4, vI v.2.2.2.2.1), (5, vI v.2.2.2.2.2.1), (6, vI v.2.2.2.2.2.2)]) (dd dtX5_benches 44 rfl) (Nat.le_of_ble_eq_true rfl) rfl ?_
    refine WPe_iload (pc := 82) 0 (dd dtX5_benches 45 rfl) rfl ?_
    refine WPe_iload (pc := 84) 6 (dd dtX5_benches 46 rfl) rfl ?_
    refine WPe_icmp_le (pc := 86) 97 (dd dtX5_benches 47 rfl) (by decide) (fun h27 => ?_) (fun h27 => ?_)
    · refine WPe_sub [2, 3, 4, 5, 6, 7, 8] rfl ?_
      exact wpj5_benches_97 X w0 k57 hk57 v.1 v.2.1 v.2.2.1 v.2.2.2.1 v.2.2.2.2.1 v.2.2.2.2.2.1 v.2.2.2.2.2.2 z24.2
    · refine WPe_iload (pc := 89) 0 (dd dtX5_benches 48 rfl) rfl ?_
      refine WPe_istore (pc := 91) (ls' := [(4, vI z24.1), (8, vI z24.1), (7, vI z21.1), (0, vR v.1), (1, vI v.2.1), (2, vI v.2.2.1), (3, vI v.2.2.2.1), (5, vI v.2.2.2.2.2.1), (6, vI v.2.2.2.2.2.2)]) (dd dtX5_benches 49 rfl) (Nat.le_of_ble_eq_true rfl) rfl ?_
      refine WPe_iload (pc := 93) 2 (dd dtX5_benches 50 rfl) rfl ?_
      refine WPe_istore (pc := 95) (ls' := [(5, vI z21.1), (4, vI z24.1), (8, vI z24.1), (7, vI z21.1), (0, vR v.1), (1, vI v.2.1), (2, vI v.2.2.1), (3, vI v.2.2.2.1), (6, vI v.2.2.2.2.2.2)]) (dd dtX5_benches 51 rfl) (Nat.le_of_ble_eq_true rfl) rfl ?_
      refine WPe_sub [4, 5, 6, 7, 1, 0, 8] rfl ?_
      exact wpj5_benches_97 X w0 k57 hk57 v.1 v.2.1 v.2.2.1 v.2.2.2.1 z24.1 z21.1 v.2.2.2.2.2.2 z24.2
theorem wplb5_benches_57 (X : CX) (w0 : Wd)  : ∀ (n9 : Nat) (v : Nat × Int32 × Int32 × Int32 × Int32 × Int32 × Int32) (w : Wd), WPe rtI X (mX5_benches, 7, 0, 0, w0) 0 0 (loopF (b5_benches_57 ) n9 v w) 57 [(0, vR v.1), (1, vI v.2.1), (2, vI v.2.2.1), (3, vI v.2.2.2.1), (4, vI v.2.2.2.2.1), (5, vI v.2.2.2.2.2.1), (6, vI v.2.2.2.2.2.2)] [] w :=
  WPe_loop (rt := rtI) (X := X) (M := (mX5_benches, 7, 0, 0, w0)) (fun v : Nat × Int32 × Int32 × Int32 × Int32 × Int32 × Int32 => [(0, vR v.1), (1, vI v.2.1), (2, vI v.2.2.1), (3, vI v.2.2.2.1), (4, vI v.2.2.2.2.1), (5, vI v.2.2.2.2.2.1), (6, vI v.2.2.2.2.2.2)]) (fun k hk v w => wpb5_benches_57 X w0  k hk v w)
noncomputable def b5_benches_33 (k33 : Nat × Int32 × Int32 × Int32 × Int32 → Wd → Option (Int32 × Wd)) (v : Nat × Int32 × Int32 × Int32 × Int32) (w : Wd) : Option (Int32 × Wd) :=
  if v.2.2.2.2 ≤ (0 : Int32) then (loopF (b5_benches_57) FU (v.1, v.2.1, v.2.2.1, v.2.2.2.1, (-1 : Int32), (0 : Int32), (0 : Int32)) w) else (k33 (v.1, v.2.1, v.2.2.1, (v.2.2.2.1 * (3 : Int32)), (v.2.2.2.2 + (-1 : Int32))) w)
theorem wpb5_benches_33 (X : CX) (w0 : Wd) (k33 : Nat × Int32 × Int32 × Int32 × Int32 → Wd → Option (Int32 × Wd)) (hk33 : ∀ (v : Nat × Int32 × Int32 × Int32 × Int32) (w : Wd), WPe rtI X (mX5_benches, 7, 0, 0, w0) 0 0 (k33 v w) 33 [(0, vR v.1), (1, vI v.2.1), (2, vI v.2.2.1), (3, vI v.2.2.2.1), (4, vI v.2.2.2.2)] [] w) (v : Nat × Int32 × Int32 × Int32 × Int32) (w : Wd) : WPe rtI X (mX5_benches, 7, 0, 0, w0) 0 0 (b5_benches_33 k33 v w) 33 [(0, vR v.1), (1, vI v.2.1), (2, vI v.2.2.1), (3, vI v.2.2.2.1), (4, vI v.2.2.2.2)] [] w := by
  unfold b5_benches_33
  refine WPe_iload (pc := 33) 4 (dd dtX5_benches 18 rfl) rfl ?_
  refine WPe_if_le (pc := 35) 48 (dd dtX5_benches 19 rfl) (by decide) (fun h14 => ?_) (fun h14 => ?_)
  · refine WPe_iconst (pc := 48) (-1 : Int32) (dd dtX5_benches 26 rfl) (by decide) ?_
    refine WPe_istore (pc := 49) (ls' := [(4, vI (-1 : Int32)), (0, vR v.1), (1, vI v.2.1), (2, vI v.2.2.1), (3, vI v.2.2.2.1)]) (dd dtX5_benches 27 rfl) (Nat.le_of_ble_eq_true rfl) rfl ?_
    refine WPe_iconst (pc := 51) (0 : Int32) (dd dtX5_benches 28 rfl) (by decide) ?_
    refine WPe_istore (pc := 52) (ls' := [(5, vI (0 : Int32)), (4, vI (-1 : Int32)), (0, vR v.1), (1, vI v.2.1), (2, vI v.2.2.1), (3, vI v.2.2.2.1)]) (dd dtX5_benches 29 rfl) (Nat.le_of_ble_eq_true rfl) rfl ?_
    refine WPe_iconst (pc := 54) (0 : Int32) (dd dtX5_benches 30 rfl) (by decide) ?_
    refine WPe_istore (pc := 55) (ls' := [(6, vI (0 : Int32)), (5, vI (0 : Int32)), (4, vI (-1 : Int32)), (0, vR v.1), (1, vI v.2.1), (2, vI v.2.2.1), (3, vI v.2.2.2.1)]) (dd dtX5_benches 31 rfl) (Nat.le_of_ble_eq_true rfl) rfl ?_
    refine WPe_sub [3, 4, 5, 6, 2, 1, 0] rfl ?_
    exact wplb5_benches_57 X w0  FU _ _
  · refine WPe_iload_n (pc := 38) 3 (dd dtX5_benches 20 rfl) rfl ?_
    refine WPe_iconst (pc := 39) (3 : Int32) (dd dtX5_benches 21 rfl) (by decide) ?_
    refine WPe_imul (pc := 40) (dd dtX5_benches 22 rfl) ?_
    refine WPe_istore_n (pc := 41) (ls' := [(3, vI (v.2.2.2.1 * (3 : Int32))), (0, vR v.1), (1, vI v.2.1), (2, vI v.2.2.1), (4, vI v.2.2.2.2)]) (dd dtX5_benches 23 rfl) (Nat.le_of_ble_eq_true rfl) rfl ?_
    refine WPe_iinc (pc := 42) (ls' := [(4, vI (v.2.2.2.2 + (-1 : Int32))), (3, vI (v.2.2.2.1 * (3 : Int32))), (0, vR v.1), (1, vI v.2.1), (2, vI v.2.2.1)]) 4 (v.2.2.2.2 + (-1 : Int32)) (dd dtX5_benches 24 rfl) rfl (congrArg (HAdd.hAdd _) (by decide : Int32.ofInt (-1) = (-1 : Int32))) (Nat.le_of_ble_eq_true rfl) rfl ?_
    refine WPe_goto (pc := 45) 33 (dd dtX5_benches 25 rfl) (by decide) ?_
    refine WPe_sub [2, 3, 4, 1, 0] rfl ?_
    exact hk33 (v.1, v.2.1, v.2.2.1, (v.2.2.2.1 * (3 : Int32)), (v.2.2.2.2 + (-1 : Int32))) w
theorem wplb5_benches_33 (X : CX) (w0 : Wd)  : ∀ (n9 : Nat) (v : Nat × Int32 × Int32 × Int32 × Int32) (w : Wd), WPe rtI X (mX5_benches, 7, 0, 0, w0) 0 0 (loopF (b5_benches_33 ) n9 v w) 33 [(0, vR v.1), (1, vI v.2.1), (2, vI v.2.2.1), (3, vI v.2.2.2.1), (4, vI v.2.2.2.2)] [] w :=
  WPe_loop (rt := rtI) (X := X) (M := (mX5_benches, 7, 0, 0, w0)) (fun v : Nat × Int32 × Int32 × Int32 × Int32 => [(0, vR v.1), (1, vI v.2.1), (2, vI v.2.2.1), (3, vI v.2.2.2.1), (4, vI v.2.2.2.2)]) (fun k hk v w => wpb5_benches_33 X w0  k hk v w)
noncomputable def f5_benches (x0 : Nat) (x1 : Int32) (x2 : Int32) (w : Wd) : Option (Int32 × Wd) :=
  (f5_isWithin x1 (1 : Int32) (10 : Int32) w).bind fun z1 => (if z1.1 = (0 : Int32) then (some ((-2 : Int32), z1.2)) else ((f5_isWithin x2 (0 : Int32) (1 : Int32) z1.2).bind fun z5 => (if z5.1 = (0 : Int32) then (some ((-2 : Int32), z5.2)) else (ck (tg z5.2 x0 = 5) (ck (tg z5.2 (wr z5.2 x0 3) = 1) ((f1_bathersIn (wr z5.2 x0 3) z5.2).bind fun z11 => (loopF (b5_benches_33) FU (x0, x1, x2, (1 : Int32), z11.1) z11.2)))))))
theorem wpf5_benches (X : CX) (w0 : Wd) (x0 : Nat) (x1 : Int32) (x2 : Int32) (w : Wd) : WPe rtI X (mX5_benches, 7, 0, 0, w0) 0 0 (f5_benches x0 x1 x2 w) 0 [(0, vR x0), (1, vI x1), (2, vI x2)] [] w := by
  unfold f5_benches
  refine WPe_iload_n (pc := 0) 1 (dd dtX5_benches 0 rfl) rfl ?_
  refine WPe_iconst (pc := 1) (1 : Int32) (dd dtX5_benches 1 rfl) (by decide) ?_
  refine WPe_bipush (pc := 2) (10 : Int32) (dd dtX5_benches 2 rfl) (by decide) ?_
  refine WPe_callS (pc := 4) (rtc := rtI) (Mc := mX5_isWithin) (d' := 1) (mc' := 0) (ms' := 0) [vI x1, vI (1 : Int32), vI (10 : Int32)] [] rfl (dd dtX5_benches 3 rfl) (okf5_isWithin x1 (1 : Int32) (10 : Int32) w) moX5_isWithin msX5_isWithin (bw_mem2 176 rfl rfl) rfl (Nat.le_of_ble_eq_true rfl) ⟨(Nat.le_of_ble_eq_true rfl), (Nat.le_of_ble_eq_true rfl)⟩ ⟨(Nat.le_of_ble_eq_true rfl), (Nat.le_of_ble_eq_true rfl)⟩ (fun z1 h2 e3 => ?_)
  refine WPe_st (st2 := [vI z1.1]) rfl ?_
  refine WPe_if_eq (pc := 7) 19 (dd dtX5_benches 4 rfl) (by decide) (fun h4 => ?_) (fun h4 => ?_)
  · refine WPe_bipush (pc := 19) (-2 : Int32) (dd dtX5_benches 10 rfl) (by decide) ?_
    exact WPe_ireturn (pc := 21) (dd dtX5_benches 11 rfl) rfl rfl ⟨(Nat.le_of_ble_eq_true rfl), (Nat.le_of_ble_eq_true rfl)⟩
  · refine WPe_iload_n (pc := 10) 2 (dd dtX5_benches 5 rfl) rfl ?_
    refine WPe_iconst (pc := 11) (0 : Int32) (dd dtX5_benches 6 rfl) (by decide) ?_
    refine WPe_iconst (pc := 12) (1 : Int32) (dd dtX5_benches 7 rfl) (by decide) ?_
    refine WPe_callS (pc := 13) (rtc := rtI) (Mc := mX5_isWithin) (d' := 1) (mc' := 0) (ms' := 0) [vI x2, vI (0 : Int32), vI (1 : Int32)] [] rfl (dd dtX5_benches 8 rfl) (okf5_isWithin x2 (0 : Int32) (1 : Int32) z1.2) moX5_isWithin msX5_isWithin (bw_mem2 176 rfl rfl) rfl (Nat.le_of_ble_eq_true rfl) ⟨(Nat.le_of_ble_eq_true rfl), (Nat.le_of_ble_eq_true rfl)⟩ ⟨(Nat.le_of_ble_eq_true rfl), (Nat.le_of_ble_eq_true rfl)⟩ (fun z5 h6 e7 => ?_)
    refine WPe_st (st2 := [vI z5.1]) rfl ?_
    refine WPe_if_ne (pc := 16) 22 (dd dtX5_benches 9 rfl) (by decide) (fun h8 => ?_) (fun h8 => ?_)
    · refine WPe_bipush (pc := 19) (-2 : Int32) (dd dtX5_benches 10 rfl) (by decide) ?_
      exact WPe_ireturn (pc := 21) (dd dtX5_benches 11 rfl) rfl rfl ⟨(Nat.le_of_ble_eq_true rfl), (Nat.le_of_ble_eq_true rfl)⟩
    · refine WPe_iconst (pc := 22) (1 : Int32) (dd dtX5_benches 12 rfl) (by decide) ?_
      refine WPe_istore_n (pc := 23) (ls' := [(3, vI (1 : Int32)), (0, vR x0), (1, vI x1), (2, vI x2)]) (dd dtX5_benches 13 rfl) (Nat.le_of_ble_eq_true rfl) rfl ?_
      refine WPe_aload_n (pc := 24) 1 (dd dtX5_benches 14 rfl) rfl ?_
      refine WPe_ck fun h9 => ?_
      refine WPe_getR (pc := 25) (t := 5) (C := RX5) (T := TX5) 3 (dd dtX5_benches 15 rfl) (shE h9) rfl (Nat.le_of_ble_eq_true rfl) rfl (bw_mem2 123 rfl rfl) ?_
      refine WPe_ck fun h10 => ?_
      refine WPe_callV (pc := 28) (rtc := rtI) (Mc := mX1_bathersIn) (d' := 1) (mc' := 0) (ms' := 0) [] [] rfl (dd dtX5_benches 16 rfl) (okf1_bathersIn (wr z5.2 x0 3) z5.2) moX1_bathersIn miX1_bathersIn (bw_mem2 149 rfl rfl) (Or.inl ⟨_, _, _, _, (shE h10), rfl⟩) rfl (Nat.le_of_ble_eq_true rfl) ⟨(Nat.le_of_ble_eq_true rfl), (Nat.le_of_ble_eq_true rfl)⟩ ⟨(Nat.le_of_ble_eq_true rfl), (Nat.le_of_ble_eq_true rfl)⟩ (fun z11 h12 e13 => ?_)
      refine WPe_st (st2 := [vI z11.1]) rfl ?_
      refine WPe_istore (pc := 31) (ls' := [(4, vI z11.1), (3, vI (1 : Int32)), (0, vR x0), (1, vI x1), (2, vI x2)]) (dd dtX5_benches 17 rfl) (Nat.le_of_ble_eq_true rfl) rfl ?_
      refine WPe_sub [2, 3, 4, 1, 0] rfl ?_
      exact wplb5_benches_33 X w0  FU _ _
theorem okf5_benches (x0 : Nat) (x1 : Int32) (x2 : Int32) (w : Wd) : ∀ z, f5_benches x0 x1 x2 w = some z → OkM mX5_benches 7 0 0 [vR x0, vI x1, vI x2] w (rtI z.1) z.2 :=
  OkM.of (rt := rtI) moX5_benches (Nat.le_of_ble_eq_true rfl) (fun X => wpf5_benches X w x0 x1 x2 w)
