/-! the reference's rows, one after another -/
theorem mi_0 {w0 w : Wd} (h : PreM 0 w0 w) : f6_init 75 w = j6_init_12 75 (stp 0 w) := by
  unfold f6_init lw
  have hx : nx w = 76 := h.2.1
  rw [ck_pos (show tg w 75 = 6 by unfold tg; rw [h.1])]
  dsimp only
  rw [hx]
  rfl
theorem mi_1 {w0 w : Wd} (h : PreM 1 w0 w) : j6_init_12 75 w = j6_init_20 75 (stp 1 w) := by
  have hx : nx w = 77 := h.2.1
  have ht := tg75 (n := (mG 1).2.2) (vG 1) h
  unfold j6_init_12 lw
  dsimp only
  rw [hx]
  exact ck_pos ht
theorem mi_2 {w0 w : Wd} (h : PreM 2 w0 w) : j6_init_20 75 w = j6_init_28 75 (stp 2 w) := by
  have hx : nx w = 78 := h.2.1
  have ht := tg75 (n := (mG 2).2.2) (vG 2) h
  unfold j6_init_20 lw
  dsimp only
  rw [hx]
  exact ck_pos ht
theorem mi_3 {w0 w : Wd} (h : PreM 3 w0 w) : j6_init_28 75 w = j6_init_53 75 (stp 3 w) := by
  have hx : nx w = 79 := h.2.1
  have ht := tg75 (n := (mG 3).2.2) (vG 3) h
  unfold j6_init_28 lw
  dsimp only
  rw [hx]
  exact ck_pos ht
theorem mi_4 {w0 w : Wd} (h : PreM 4 w0 w) : j6_init_53 75 w = j6_init_62 75 (stp 4 w) := by
  have hx : nx w = 80 := h.2.1
  have ht := tg75 (n := (mG 4).2.2) (vG 4) h
  unfold j6_init_53 lw
  dsimp only
  rw [hx]
  exact ck_pos ht
theorem mi_5 {w0 w : Wd} (h : PreM 5 w0 w) : j6_init_62 75 w = j6_init_71 75 (stp 5 w) := by
  have hx : nx w = 81 := h.2.1
  have ht := tg75 (n := (mG 5).2.2) (vG 5) h
  unfold j6_init_62 lw
  dsimp only
  rw [hx]
  exact ck_pos ht
theorem mi_6 {w0 w : Wd} (h : PreM 6 w0 w) : j6_init_71 75 w = j6_init_79 75 (stp 6 w) := by
  have hx : nx w = 82 := h.2.1
  have ht := tg75 (n := (mG 6).2.2) (vG 6) h
  unfold j6_init_71 lw
  dsimp only
  rw [hx]
  exact ck_pos ht
theorem mi_7 {w0 w : Wd} (h : PreM 7 w0 w) : j6_init_79 75 w = j6_init_87 75 (stp 7 w) := by
  have hx : nx w = 83 := h.2.1
  have ht := tg75 (n := (mG 7).2.2) (vG 7) h
  unfold j6_init_79 lw
  dsimp only
  rw [hx]
  exact ck_pos ht
theorem mi_8 {w0 w : Wd} (h : PreM 8 w0 w) : j6_init_87 75 w = j6_init_94 75 (stp 8 w) := by
  have hx : nx w = 84 := h.2.1
  have ht := tg75 (n := (mG 8).2.2) (vG 8) h
  unfold j6_init_87 lw
  dsimp only
  rw [hx]
  exact ck_pos ht
theorem mi_9 {w0 w : Wd} (h : PreM 9 w0 w) : j6_init_94 75 w = j6_init_117 75 (stp 9 w) := by
  have hx : nx w = 85 := h.2.1
  have ht := tg75 (n := (mG 9).2.2) (vG 9) h
  unfold j6_init_94 lw
  dsimp only
  rw [hx]
  exact ck_pos ht
theorem mi_10 {w0 w : Wd} (h : PreM 10 w0 w) : j6_init_117 75 w = j6_init_124 75 (stp 10 w) := by
  have hx : nx w = 86 := h.2.1
  have ht := tg75 (n := (mG 10).2.2) (vG 10) h
  unfold j6_init_117 lw
  dsimp only
  rw [hx]
  exact ck_pos ht
theorem mi_11 {w0 w : Wd} (h : PreM 11 w0 w) : j6_init_124 75 w = j6_init_133 75 (stp 11 w) := by
  have hx : nx w = 87 := h.2.1
  have ht := tg75 (n := (mG 11).2.2) (vG 11) h
  unfold j6_init_124 lw
  dsimp only
  rw [hx]
  exact ck_pos ht
theorem mi_12 {w0 w : Wd} (h : PreM 12 w0 w) : j6_init_133 75 w = j6_init_453 75 (stp 12 w) := by
  have hx : nx w = 88 := h.2.1
  have ht := tg75 (n := (mG 12).2.2) (vG 12) h
  unfold j6_init_133 lw
  dsimp only
  rw [hx]
  exact ck_pos ht
theorem mi_13 {w0 w : Wd} (h : PreM 13 w0 w) : j6_init_453 75 w = j6_init_1031 75 (stp 13 w) := by
  have hx : nx w = 89 := h.2.1
  have ht := tg75 (n := (mG 13).2.2) (vG 13) h
  unfold j6_init_453 lw
  dsimp only
  rw [hx]
  exact ck_pos ht
theorem mi_14 {w0 w : Wd} (h : PreM 14 w0 w) : j6_init_1031 75 w = j6_init_1040 75 (stp 14 w) := by
  have hx : nx w = 90 := h.2.1
  have ht := tg75 (n := (mG 14).2.2) (vG 14) h
  unfold j6_init_1031 lw
  dsimp only
  rw [hx]
  exact ck_pos ht
theorem mi_15 {w0 w : Wd} (h : PreM 15 w0 w) : j6_init_1040 75 w = j6_init_1049 75 (stp 15 w) := by
  have hx : nx w = 91 := h.2.1
  have ht := tg75 (n := (mG 15).2.2) (vG 15) h
  unfold j6_init_1040 lw
  dsimp only
  rw [hx]
  exact ck_pos ht
theorem mi_16 {w0 w : Wd} (h : PreM 16 w0 w) : j6_init_1049 75 w = j6_init_1057 75 (stp 16 w) := by
  have hx : nx w = 92 := h.2.1
  have ht := tg75 (n := (mG 16).2.2) (vG 16) h
  unfold j6_init_1049 lw
  dsimp only
  rw [hx]
  exact ck_pos ht
theorem mi_17 {w0 w : Wd} (h : PreM 17 w0 w) : j6_init_1057 75 w = j6_init_1065 75 (stp 17 w) := by
  have hx : nx w = 93 := h.2.1
  have ht := tg75 (n := (mG 17).2.2) (vG 17) h
  unfold j6_init_1057 lw
  dsimp only
  rw [hx]
  exact ck_pos ht
