/-! the reference's rows, one after another -/
theorem lw_eq {A : Type} (w : Wd) (f : Wd → Option A) : lw w f = f w := rfl
theorem mi_0 {w0 w : Wd} (h : PreM 0 w0 w) : f6_init 75 w = j6_init_12 75 (stp 0 w) := by
  have hx : nx w = 76 := h.2.1
  have ht : tg (wN w 20 6) 75 = 6 := tg75 (n := 6) [] h
  have hs : stp 0 w = sR (wN w 20 6) 75 1 76 := rfl
  rw [hs]
  unfold f6_init
  rw [ck_pos (show tg w 75 = 6 by unfold tg; rw [h.1]), lw_eq, hx, lw_eq]
theorem mi_1 {w0 w : Wd} (h : PreM 1 w0 w) : j6_init_12 75 w = j6_init_20 75 (stp 1 w) := by
  have hx : nx w = 77 := h.2.1
  have ht : tg (wN w 20 6) 75 = 6 := tg75 (n := 6) [] h
  have hs : stp 1 w = sR (wN w 20 6) 75 2 77 := rfl
  rw [hs]
  unfold j6_init_12
  rw [lw_eq, hx, ck_pos ht, lw_eq]
theorem mi_2 {w0 w : Wd} (h : PreM 2 w0 w) : j6_init_20 75 w = j6_init_28 75 (stp 2 w) := by
  have hx : nx w = 78 := h.2.1
  have ht : tg (wN w 20 18) 75 = 6 := tg75 (n := 18) [] h
  have hs : stp 2 w = sR (wN w 20 18) 75 3 78 := rfl
  rw [hs]
  unfold j6_init_20
  rw [lw_eq, hx, ck_pos ht, lw_eq]
theorem mi_3 {w0 w : Wd} (h : PreM 3 w0 w) : j6_init_28 75 w = j6_init_53 75 (stp 3 w) := by
  have hx : nx w = 79 := h.2.1
  have ht : tg (sI (sI (sI (sI (wN w 20 4) 79 ((0 : Int32)).toNatClampNeg (0 : Int32)) 79 ((1 : Int32)).toNatClampNeg (200 : Int32)) 79 ((2 : Int32)).toNatClampNeg (0 : Int32)) 79 ((3 : Int32)).toNatClampNeg (5 : Int32)) 75 = 6 := tg75 (n := 4) [0, 200, 0, 5] h
  have hs : stp 3 w = sR (sI (sI (sI (sI (wN w 20 4) 79 ((0 : Int32)).toNatClampNeg (0 : Int32)) 79 ((1 : Int32)).toNatClampNeg (200 : Int32)) 79 ((2 : Int32)).toNatClampNeg (0 : Int32)) 79 ((3 : Int32)).toNatClampNeg (5 : Int32)) 75 4 79 := rfl
  rw [hs]
  unfold j6_init_28
  rw [lw_eq, lw_eq, lw_eq, lw_eq, lw_eq, hx, ck_pos ht, lw_eq]
theorem mi_4 {w0 w : Wd} (h : PreM 4 w0 w) : j6_init_53 75 w = j6_init_62 75 (stp 4 w) := by
  have hx : nx w = 80 := h.2.1
  have ht : tg (wN w 20 160) 75 = 6 := tg75 (n := 160) [] h
  have hs : stp 4 w = sR (wN w 20 160) 75 5 80 := rfl
  rw [hs]
  unfold j6_init_53
  rw [lw_eq, hx, ck_pos ht, lw_eq]
theorem mi_5 {w0 w : Wd} (h : PreM 5 w0 w) : j6_init_62 75 w = j6_init_71 75 (stp 5 w) := by
  have hx : nx w = 81 := h.2.1
  have ht : tg (wN w 20 1200) 75 = 6 := tg75 (n := 1200) [] h
  have hs : stp 5 w = sR (wN w 20 1200) 75 7 81 := rfl
  rw [hs]
  unfold j6_init_62
  rw [lw_eq, hx, ck_pos ht, lw_eq]
theorem mi_6 {w0 w : Wd} (h : PreM 6 w0 w) : j6_init_71 75 w = j6_init_79 75 (stp 6 w) := by
  have hx : nx w = 82 := h.2.1
  have ht : tg (wN w 20 24) 75 = 6 := tg75 (n := 24) [] h
  have hs : stp 6 w = sR (wN w 20 24) 75 8 82 := rfl
  rw [hs]
  unfold j6_init_71
  rw [lw_eq, hx, ck_pos ht, lw_eq]
theorem mi_7 {w0 w : Wd} (h : PreM 7 w0 w) : j6_init_79 75 w = j6_init_87 75 (stp 7 w) := by
  have hx : nx w = 83 := h.2.1
  have ht : tg (wN w 20 22) 75 = 6 := tg75 (n := 22) [] h
  have hs : stp 7 w = sR (wN w 20 22) 75 12 83 := rfl
  rw [hs]
  unfold j6_init_79
  rw [lw_eq, hx, ck_pos ht, lw_eq]
theorem mi_8 {w0 w : Wd} (h : PreM 8 w0 w) : j6_init_87 75 w = j6_init_94 75 (stp 8 w) := by
  have hx : nx w = 84 := h.2.1
  have ht : tg (wN w 20 2) 75 = 6 := tg75 (n := 2) [] h
  have hs : stp 8 w = sR (wN w 20 2) 75 13 84 := rfl
  rw [hs]
  unfold j6_init_87
  rw [lw_eq, hx, ck_pos ht, lw_eq]
theorem mi_9 {w0 w : Wd} (h : PreM 9 w0 w) : j6_init_94 75 w = j6_init_117 75 (stp 9 w) := by
  have hx : nx w = 85 := h.2.1
  have ht : tg (sI (sI (sI (sI (wN w 20 4) 85 ((0 : Int32)).toNatClampNeg (-1 : Int32)) 85 ((1 : Int32)).toNatClampNeg (-1 : Int32)) 85 ((2 : Int32)).toNatClampNeg (-1 : Int32)) 85 ((3 : Int32)).toNatClampNeg (-1 : Int32)) 75 = 6 := tg75 (n := 4) [-1, -1, -1, -1] h
  have hs : stp 9 w = sR (sI (sI (sI (sI (wN w 20 4) 85 ((0 : Int32)).toNatClampNeg (-1 : Int32)) 85 ((1 : Int32)).toNatClampNeg (-1 : Int32)) 85 ((2 : Int32)).toNatClampNeg (-1 : Int32)) 85 ((3 : Int32)).toNatClampNeg (-1 : Int32)) 75 14 85 := rfl
  rw [hs]
  unfold j6_init_94
  rw [lw_eq, lw_eq, lw_eq, lw_eq, lw_eq, hx, ck_pos ht, lw_eq]
theorem mi_10 {w0 w : Wd} (h : PreM 10 w0 w) : j6_init_117 75 w = j6_init_124 75 (stp 10 w) := by
  have hx : nx w = 86 := h.2.1
  have ht : tg (wN w 20 4) 75 = 6 := tg75 (n := 4) [] h
  have hs : stp 10 w = sR (wN w 20 4) 75 15 86 := rfl
  rw [hs]
  unfold j6_init_117
  rw [lw_eq, hx, ck_pos ht, lw_eq]
theorem mi_11 {w0 w : Wd} (h : PreM 11 w0 w) : j6_init_124 75 w = j6_init_133 75 (stp 11 w) := by
  have hx : nx w = 87 := h.2.1
  have ht : tg (wN w 20 160) 75 = 6 := tg75 (n := 160) [] h
  have hs : stp 11 w = sR (wN w 20 160) 75 16 87 := rfl
  rw [hs]
  unfold j6_init_124
  rw [lw_eq, hx, ck_pos ht, lw_eq]
theorem mi_14 {w0 w : Wd} (h : PreM 14 w0 w) : j6_init_1031 75 w = j6_init_1040 75 (stp 14 w) := by
  have hx : nx w = 90 := h.2.1
  have ht : tg (wN w 20 200) 75 = 6 := tg75 (n := 200) [] h
  have hs : stp 14 w = sR (wN w 20 200) 75 23 90 := rfl
  rw [hs]
  unfold j6_init_1031
  rw [lw_eq, hx, ck_pos ht, lw_eq]
theorem mi_15 {w0 w : Wd} (h : PreM 15 w0 w) : j6_init_1040 75 w = j6_init_1049 75 (stp 15 w) := by
  have hx : nx w = 91 := h.2.1
  have ht : tg (wN w 20 200) 75 = 6 := tg75 (n := 200) [] h
  have hs : stp 15 w = sR (wN w 20 200) 75 27 91 := rfl
  rw [hs]
  unfold j6_init_1040
  rw [lw_eq, hx, ck_pos ht, lw_eq]
theorem mi_16 {w0 w : Wd} (h : PreM 16 w0 w) : j6_init_1049 75 w = j6_init_1057 75 (stp 16 w) := by
  have hx : nx w = 92 := h.2.1
  have ht : tg (wN w 20 6) 75 = 6 := tg75 (n := 6) [] h
  have hs : stp 16 w = sR (wN w 20 6) 75 28 92 := rfl
  rw [hs]
  unfold j6_init_1049
  rw [lw_eq, hx, ck_pos ht, lw_eq]
theorem mi_17 {w0 w : Wd} (h : PreM 17 w0 w) : j6_init_1057 75 w = j6_init_1065 75 (stp 17 w) := by
  have hx : nx w = 93 := h.2.1
  have ht : tg (wN w 20 22) 75 = 6 := tg75 (n := 22) [] h
  have hs : stp 17 w = sR (wN w 20 22) 75 29 93 := rfl
  rw [hs]
  unfold j6_init_1057
  rw [lw_eq, hx, ck_pos ht, lw_eq]
