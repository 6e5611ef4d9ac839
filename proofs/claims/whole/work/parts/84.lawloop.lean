/-! the law's loop -/
def GD (S : SS) (w : Wd) : Prop := SI S ∧ RC S w ∧ RM S w ∧ W89 w
theorem both {A : Type} {f g : Wd → Option (A × Wd)} (h : Pair f g) {S : SS} {w : Wd} (hG : GD S w) : ∃ a w1 w2 S', f w = some (a, w1) ∧ g w1 = some (a, w2) ∧ GD S' w2 ∧ tg w1 75 = 6 ∧ tg w 32 = 5 := by
  obtain ⟨a, w1, w2, S', e1, e2, s1, s2, s3, s4, t2⟩ := h S w hG.1 hG.2.1 hG.2.2.1 hG.2.2.2
  exact ⟨a, w1, w2, S', e1, e2, ⟨s1, s2, s3, s4⟩, t2, tg_eq hG.2.1.1.1.1⟩
theorem lg_same (a : Int64) : lg_cmp a a = 0 := by
  unfold lg_cmp
  simp
set_option maxHeartbeats 4000000 in
theorem law_body {L : Nat} {xs : Nat → Int32} {S : SS} {w : Wd} {x : Int32} (hG : GD S w) (hn : ¬ Int32.ofNat L - 7 < x) (h0 : vp_in x L) (h1 : vp_in (x + 1) L) (h2 : vp_in (x + 2) L) (h3 : vp_in (x + 3) L) (h4 : vp_in (x + 4) L) (h5 : vp_in (x + 5) L) (h6 : vp_in (x + 6) L) (k : Nat × Nat × Int32 → Wd → Option (Int32 × Wd)) : ∃ S' w', GD S' w' ∧ bL_law_18 L xs k (32, 75, x) w = k (32, 75, x + 7) w' := by
  unfold bL_law_18
  dsimp only
  rw [if_neg hn, ck_pos h0]
  generalize (xs x.toNatClampNeg) &&& 63 = op
  generalize xs (x + 1).toNatClampNeg = a1
  generalize xs (x + 2).toNatClampNeg = a2
  generalize xs (x + 3).toNatClampNeg = a3
  generalize xs (x + 4).toNatClampNeg = a4
  generalize xs (x + 5).toNatClampNeg = a5
  generalize xs (x + 6).toNatClampNeg = a6
  by_cases c0 : op = 0
  · rw [if_pos c0]
    obtain ⟨a, w1, w2, S', e1, e2, g, t2, t1⟩ := both (count_pair a1) hG
    refine ⟨S', w2, g, ?_⟩
    rw [ck_pos h1, ck_pos t1, e1, Option.bind_some]
    dsimp only
    rw [ck_pos h1, ck_pos t2, e2, Option.bind_some]
    dsimp only
    rw [if_pos rfl]
    rfl
  rw [if_neg c0]
  by_cases c1 : op = 1
  · rw [if_pos c1]
    obtain ⟨a, w1, w2, S', e1, e2, g, t2, t1⟩ := both (fire_pair a1 a2) hG
    refine ⟨S', w2, g, ?_⟩
    rw [ck_pos h1, ck_pos h2, ck_pos t1, e1, Option.bind_some]
    dsimp only
    rw [ck_pos h1, ck_pos h2, ck_pos t2, e2, Option.bind_some]
    dsimp only
    rw [if_pos rfl]
    rfl
  rw [if_neg c1]
  by_cases c2 : op = 2
  · rw [if_pos c2]
    obtain ⟨a, w1, w2, S', e1, e2, g, t2, t1⟩ := both (hut_pair a1) hG
    refine ⟨S', w2, g, ?_⟩
    rw [ck_pos h1, ck_pos t1, e1, Option.bind_some]
    dsimp only
    rw [ck_pos h1, ck_pos t2, e2, Option.bind_some]
    dsimp only
    rw [if_pos rfl]
    rfl
  rw [if_neg c2]
  by_cases c3 : op = 3
  · rw [if_pos c3]
    obtain ⟨a, w1, w2, S', e1, e2, g, t2, t1⟩ := both (feed_pair a1 a2 a3 a4 a5 a6) hG
    refine ⟨S', w2, g, ?_⟩
    rw [ck_pos h1, ck_pos h2, ck_pos h3, ck_pos h4, ck_pos h5, ck_pos h6, ck_pos t1, e1, Option.bind_some]
    dsimp only
    rw [ck_pos h1, ck_pos h2, ck_pos h3, ck_pos h4, ck_pos h5, ck_pos h6, ck_pos t2, e2, Option.bind_some]
    dsimp only
    rw [if_pos rfl]
    rfl
  rw [if_neg c3]
  by_cases c4 : op = 4
  · rw [if_pos c4]
    obtain ⟨a, w1, w2, S', e1, e2, g, t2, t1⟩ := both (text_pair) hG
    refine ⟨S', w2, g, ?_⟩
    rw [ck_pos t1, e1, Option.bind_some]
    dsimp only
    rw [ck_pos t2, e2, Option.bind_some]
    dsimp only
    rw [if_pos rfl]
    rfl
  rw [if_neg c4]
  by_cases c5 : op = 5
  · rw [if_pos c5]
    obtain ⟨a, w1, w2, S', e1, e2, g, t2, t1⟩ := both (force_pair a1) hG
    refine ⟨S', w2, g, ?_⟩
    rw [ck_pos h1, ck_pos t1, e1, Option.bind_some]
    dsimp only
    rw [ck_pos h1, ck_pos t2, e2, Option.bind_some]
    dsimp only
    rw [if_pos rfl]
    rfl
  rw [if_neg c5]
  by_cases c6 : op = 6
  · rw [if_pos c6]
    obtain ⟨a, w1, w2, S', e1, e2, g, t2, t1⟩ := both (asks_pair a1 a2) hG
    refine ⟨S', w2, g, ?_⟩
    rw [ck_pos h1, ck_pos h2, ck_pos t1, e1, Option.bind_some]
    dsimp only
    rw [ck_pos h1, ck_pos h2, ck_pos t2, e2, Option.bind_some]
    dsimp only
    rw [if_pos rfl]
    rfl
  rw [if_neg c6]
  by_cases c7 : op = 7
  · rw [if_pos c7]
    obtain ⟨a, w1, w2, S', e1, e2, g, t2, t1⟩ := both (bather_pair a1 a2) hG
    refine ⟨S', w2, g, ?_⟩
    rw [ck_pos h1, ck_pos h2, ck_pos t1, e1, Option.bind_some]
    dsimp only
    rw [ck_pos h1, ck_pos h2, ck_pos t2, e2, Option.bind_some]
    dsimp only
    rw [if_pos rfl]
    rfl
  rw [if_neg c7]
  by_cases c8 : op = 8
  · rw [if_pos c8]
    obtain ⟨a, w1, w2, S', e1, e2, g, t2, t1⟩ := both (put_pair a1 a2 a3) hG
    refine ⟨S', w2, g, ?_⟩
    rw [ck_pos h1, ck_pos h2, ck_pos h3, ck_pos t1, e1, Option.bind_some]
    dsimp only
    rw [ck_pos h1, ck_pos h2, ck_pos h3, ck_pos t2, e2, Option.bind_some]
    dsimp only
    rw [if_pos rfl]
    rfl
  rw [if_neg c8]
  by_cases c9 : op = 9
  · rw [if_pos c9]
    obtain ⟨a, w1, w2, S', e1, e2, g, t2, t1⟩ := both (told_pair a1 a2) hG
    refine ⟨S', w2, g, ?_⟩
    rw [ck_pos h1, ck_pos h2, ck_pos t1, e1, Option.bind_some]
    dsimp only
    rw [ck_pos h1, ck_pos h2, ck_pos t2, e2, Option.bind_some]
    dsimp only
    rw [if_pos rfl]
    rfl
  rw [if_neg c9]
  by_cases c10 : op = 10
  · rw [if_pos c10]
    obtain ⟨a, w1, w2, S', e1, e2, g, t2, t1⟩ := both (pour_pair a1) hG
    refine ⟨S', w2, g, ?_⟩
    rw [ck_pos h1, ck_pos t1, e1, Option.bind_some]
    dsimp only
    rw [ck_pos h1, ck_pos t2, e2, Option.bind_some]
    dsimp only
    rw [if_pos rfl]
    rfl
  rw [if_neg c10]
  by_cases c11 : op = 11
  · rw [if_pos c11]
    obtain ⟨a, w1, w2, S', e1, e2, g, t2, t1⟩ := both (stoke_pair) hG
    refine ⟨S', w2, g, ?_⟩
    rw [ck_pos t1, e1, Option.bind_some]
    dsimp only
    rw [ck_pos t2, e2, Option.bind_some]
    dsimp only
    rw [if_pos rfl]
    rfl
  rw [if_neg c11]
  by_cases c12 : op = 12
  · rw [if_pos c12]
    obtain ⟨a, w1, w2, S', e1, e2, g, t2, t1⟩ := both (door_pair a1 a2) hG
    refine ⟨S', w2, g, ?_⟩
    rw [ck_pos h1, ck_pos h2, ck_pos t1, e1, Option.bind_some]
    dsimp only
    rw [ck_pos h1, ck_pos h2, ck_pos t2, e2, Option.bind_some]
    dsimp only
    rw [if_pos rfl]
    rfl
  rw [if_neg c12]
  by_cases c13 : op = 13
  · rw [if_pos c13]
    obtain ⟨a, w1, w2, S', e1, e2, g, t2, t1⟩ := both (minute_pair) hG
    refine ⟨S', w2, g, ?_⟩
    rw [ck_pos t1, e1, Option.bind_some]
    dsimp only
    rw [ck_pos t2, e2, Option.bind_some]
    dsimp only
    rw [if_pos rfl]
    rfl
  rw [if_neg c13]
  by_cases c14 : op = 14
  · rw [if_pos c14]
    obtain ⟨a, w1, w2, S', e1, e2, g, t2, t1⟩ := both (run_pair a1 a2) hG
    refine ⟨S', w2, g, ?_⟩
    rw [ck_pos h1, ck_pos h2, ck_pos t1, e1, Option.bind_some]
    dsimp only
    rw [ck_pos h1, ck_pos h2, ck_pos t2, e2, Option.bind_some]
    dsimp only
    rw [if_pos rfl]
    rfl
  rw [if_neg c14]
  by_cases c15 : op = 15
  · rw [if_pos c15]
    obtain ⟨a, w1, w2, S', e1, e2, g, t2, t1⟩ := both (leaves_pair a1) hG
    refine ⟨S', w2, g, ?_⟩
    rw [ck_pos h1, ck_pos t1, e1, Option.bind_some]
    dsimp only
    rw [ck_pos h1, ck_pos t2, e2, Option.bind_some]
    dsimp only
    rw [if_pos rfl]
    rfl
  rw [if_neg c15]
  by_cases c16 : op = 16
  · rw [if_pos c16]
    obtain ⟨a, w1, w2, S', e1, e2, g, t2, t1⟩ := both (together_pair) hG
    refine ⟨S', w2, g, ?_⟩
    rw [ck_pos t1, e1, Option.bind_some]
    dsimp only
    rw [ck_pos t2, e2, Option.bind_some]
    dsimp only
    rw [if_pos rfl]
    rfl
  rw [if_neg c16]
  by_cases c17 : op = 17
  · rw [if_pos c17]
    obtain ⟨a, w1, w2, S', e1, e2, g, t2, t1⟩ := both (when_pair a1 a2) hG
    refine ⟨S', w2, g, ?_⟩
    rw [ck_pos h1, ck_pos h2, ck_pos t1, e1, Option.bind_some]
    dsimp only
    rw [ck_pos h1, ck_pos h2, ck_pos t2, e2, Option.bind_some]
    dsimp only
    rw [if_pos rfl]
    rfl
  rw [if_neg c17]
  by_cases c18 : op = 18
  · rw [if_pos c18]
    obtain ⟨a, w1, w2, S', e1, e2, g, t2, t1⟩ := both (benches_pair a1 a2) hG
    refine ⟨S', w2, g, ?_⟩
    rw [ck_pos h1, ck_pos h2, ck_pos t1, e1, Option.bind_some]
    dsimp only
    rw [ck_pos h1, ck_pos h2, ck_pos t2, e2, Option.bind_some]
    dsimp only
    rw [if_pos rfl]
    rfl
  rw [if_neg c18]
  by_cases c19 : op = 19
  · rw [if_pos c19]
    obtain ⟨a, w1, w2, S', e1, e2, g, t2, t1⟩ := both (swap_pair a1 a2) hG
    refine ⟨S', w2, g, ?_⟩
    rw [ck_pos h1, ck_pos h2, ck_pos t1, e1, Option.bind_some]
    dsimp only
    rw [ck_pos h1, ck_pos h2, ck_pos t2, e2, Option.bind_some]
    dsimp only
    rw [if_pos rfl]
    rfl
  rw [if_neg c19]
  by_cases c20 : op = 20
  · rw [if_pos c20]
    obtain ⟨a, w1, w2, S', e1, e2, g, t2, t1⟩ := both (logs_pair a1 a2) hG
    refine ⟨S', w2, g, ?_⟩
    rw [ck_pos h1, ck_pos h2, ck_pos t1, e1, Option.bind_some]
    dsimp only
    rw [ck_pos h1, ck_pos h2, ck_pos t2, e2, Option.bind_some]
    dsimp only
    rw [if_pos rfl]
    rfl
  rw [if_neg c20]
  by_cases c21 : op = 21
  · rw [if_pos c21]
    obtain ⟨a, w1, w2, S', e1, e2, g, t2, t1⟩ := both (stays_pair a1 a2) hG
    refine ⟨S', w2, g, ?_⟩
    rw [ck_pos h1, ck_pos h2, ck_pos t1, e1, Option.bind_some]
    dsimp only
    rw [ck_pos h1, ck_pos h2, ck_pos t2, e2, Option.bind_some]
    dsimp only
    rw [if_pos rfl]
    rfl
  rw [if_neg c21]
  by_cases c22 : op = 22
  · rw [if_pos c22]
    obtain ⟨a, w1, w2, S', e1, e2, g, t2, t1⟩ := both (share_pair a1 a2 a3) hG
    refine ⟨S', w2, g, ?_⟩
    rw [ck_pos h1, ck_pos h2, ck_pos h3, ck_pos t1, e1, Option.bind_some]
    dsimp only
    rw [ck_pos h1, ck_pos h2, ck_pos h3, ck_pos t2, e2, Option.bind_some]
    dsimp only
    rw [if_pos (lg_same a)]
    rfl
  rw [if_neg c22]
  by_cases c23 : op = 23
  · rw [if_pos c23]
    obtain ⟨a, w1, w2, S', e1, e2, g, t2, t1⟩ := both (judge_pair a1 a2) hG
    refine ⟨S', w2, g, ?_⟩
    rw [ck_pos h1, ck_pos h2, ck_pos t1, e1, Option.bind_some]
    dsimp only
    rw [ck_pos h1, ck_pos h2, ck_pos t2, e2, Option.bind_some]
    dsimp only
    rw [if_pos rfl]
    rfl
  rw [if_neg c23]
  by_cases c24 : op = 24
  · rw [if_pos c24]
    obtain ⟨a, w1, w2, S', e1, e2, g, t2, t1⟩ := both (kinds_pair a1 a2 a3) hG
    refine ⟨S', w2, g, ?_⟩
    rw [ck_pos h1, ck_pos h2, ck_pos h3, ck_pos t1, e1, Option.bind_some]
    dsimp only
    rw [ck_pos h1, ck_pos h2, ck_pos h3, ck_pos t2, e2, Option.bind_some]
    dsimp only
    rw [if_pos rfl]
    rfl
  rw [if_neg c24]
  by_cases c25 : op = 25
  · rw [if_pos c25]
    obtain ⟨a, w1, w2, S', e1, e2, g, t2, t1⟩ := both (states_pair a1 a2 a3) hG
    refine ⟨S', w2, g, ?_⟩
    rw [ck_pos h1, ck_pos h2, ck_pos h3, ck_pos t1, e1, Option.bind_some]
    dsimp only
    rw [ck_pos h1, ck_pos h2, ck_pos h3, ck_pos t2, e2, Option.bind_some]
    dsimp only
    rw [if_pos rfl]
    rfl
  rw [if_neg c25]
  by_cases c26 : op = 26
  · rw [if_pos c26]
    obtain ⟨a, w1, w2, S', e1, e2, g, t2, t1⟩ := both (steams_pair a1 a2 a3) hG
    refine ⟨S', w2, g, ?_⟩
    rw [ck_pos h1, ck_pos h2, ck_pos h3, ck_pos t1, e1, Option.bind_some]
    dsimp only
    rw [ck_pos h1, ck_pos h2, ck_pos h3, ck_pos t2, e2, Option.bind_some]
    dsimp only
    rw [if_pos rfl]
    rfl
  rw [if_neg c26]
  by_cases c27 : op = 27
  · rw [if_pos c27]
    obtain ⟨a, w1, w2, S', e1, e2, g, t2, t1⟩ := both (whose_pair a1) hG
    refine ⟨S', w2, g, ?_⟩
    rw [ck_pos h1, ck_pos t1, e1, Option.bind_some]
    dsimp only
    rw [ck_pos h1, ck_pos t2, e2, Option.bind_some]
    dsimp only
    rw [if_pos rfl]
    rfl
  rw [if_neg c27]
  by_cases c28 : op = 28
  · rw [if_pos c28]
    obtain ⟨a, w1, w2, S', e1, e2, g, t2, t1⟩ := both (laws_pair a1 a2) hG
    refine ⟨S', w2, g, ?_⟩
    rw [ck_pos h1, ck_pos h2, ck_pos t1, e1, Option.bind_some]
    dsimp only
    rw [ck_pos h1, ck_pos h2, ck_pos t2, e2, Option.bind_some]
    dsimp only
    rw [if_pos rfl]
    rfl
  rw [if_neg c28]
  by_cases c29 : op = 29
  · rw [if_pos c29]
    obtain ⟨a, w1, w2, S', e1, e2, g, t2, t1⟩ := both (film_pair a1 a2 a3) hG
    refine ⟨S', w2, g, ?_⟩
    rw [ck_pos h1, ck_pos h2, ck_pos h3, ck_pos t1, e1, Option.bind_some]
    dsimp only
    rw [ck_pos h1, ck_pos h2, ck_pos h3, ck_pos t2, e2, Option.bind_some]
    dsimp only
    rw [if_pos rfl]
    rfl
  rw [if_neg c29]
  by_cases c30 : op = 30
  · rw [if_pos c30]
    obtain ⟨a, w1, w2, S', e1, e2, g, t2, t1⟩ := both (drawn_pair a1 a2) hG
    refine ⟨S', w2, g, ?_⟩
    rw [ck_pos h1, ck_pos h2, ck_pos t1, e1, Option.bind_some]
    dsimp only
    rw [ck_pos h1, ck_pos h2, ck_pos t2, e2, Option.bind_some]
    dsimp only
    rw [if_pos rfl]
    rfl
  rw [if_neg c30]
  by_cases c31 : op = 31
  · rw [if_pos c31]
    obtain ⟨a, w1, w2, S', e1, e2, g, t2, t1⟩ := both (odds_pair a1 a2 a3 a4) hG
    refine ⟨S', w2, g, ?_⟩
    rw [ck_pos h1, ck_pos h2, ck_pos h3, ck_pos h4, ck_pos t1, e1, Option.bind_some]
    dsimp only
    rw [ck_pos h1, ck_pos h2, ck_pos h3, ck_pos h4, ck_pos t2, e2, Option.bind_some]
    dsimp only
    rw [if_pos (lg_same a)]
    rfl
  rw [if_neg c31]
  by_cases c32 : op = 32
  · rw [if_pos c32]
    obtain ⟨a, w1, w2, S', e1, e2, g, t2, t1⟩ := both (image_pair) hG
    refine ⟨S', w2, g, ?_⟩
    rw [ck_pos t1, e1, Option.bind_some]
    dsimp only
    rw [ck_pos t2, e2, Option.bind_some]
    dsimp only
    rw [if_pos rfl]
    rfl
  rw [if_neg c32]
  by_cases c33 : op = 33
  · rw [if_pos c33]
    obtain ⟨a, w1, w2, S', e1, e2, g, t2, t1⟩ := both (back_pair) hG
    refine ⟨S', w2, g, ?_⟩
    rw [ck_pos t1, e1, Option.bind_some]
    dsimp only
    rw [ck_pos t2, e2, Option.bind_some]
    dsimp only
    rw [if_pos rfl]
    rfl
  rw [if_neg c33]
  by_cases c34 : op = 34
  · rw [if_pos c34]
    obtain ⟨a, w1, w2, S', e1, e2, g, t2, t1⟩ := both (sheet_pair a1 a2 a3) hG
    refine ⟨S', w2, g, ?_⟩
    rw [ck_pos h1, ck_pos h2, ck_pos h3, ck_pos t1, e1, Option.bind_some]
    dsimp only
    rw [ck_pos h1, ck_pos h2, ck_pos h3, ck_pos t2, e2, Option.bind_some]
    dsimp only
    rw [if_pos rfl]
    rfl
  rw [if_neg c34]
  by_cases c35 : op = 35
  · rw [if_pos c35]
    obtain ⟨a, w1, w2, S', e1, e2, g, t2, t1⟩ := both (cell_pair a1 a2 a3) hG
    refine ⟨S', w2, g, ?_⟩
    rw [ck_pos h1, ck_pos h2, ck_pos h3, ck_pos t1, e1, Option.bind_some]
    dsimp only
    rw [ck_pos h1, ck_pos h2, ck_pos h3, ck_pos t2, e2, Option.bind_some]
    dsimp only
    rw [if_pos rfl]
    rfl
  rw [if_neg c35]
  by_cases c36 : op = 36
  · rw [if_pos c36]
    obtain ⟨a, w1, w2, S', e1, e2, g, t2, t1⟩ := both (copy_pair a1 a2 a3 a4 a5) hG
    refine ⟨S', w2, g, ?_⟩
    rw [ck_pos h1, ck_pos h2, ck_pos h3, ck_pos h4, ck_pos h5, ck_pos t1, e1, Option.bind_some]
    dsimp only
    rw [ck_pos h1, ck_pos h2, ck_pos h3, ck_pos h4, ck_pos h5, ck_pos t2, e2, Option.bind_some]
    dsimp only
    rw [if_pos rfl]
    rfl
  rw [if_neg c36]
  by_cases c37 : op = 37
  · rw [if_pos c37]
    obtain ⟨a, w1, w2, S', e1, e2, g, t2, t1⟩ := both (bathersBy_pair a1 a2 a3 a4) hG
    refine ⟨S', w2, g, ?_⟩
    rw [ck_pos h1, ck_pos h2, ck_pos h3, ck_pos h4, ck_pos t1, e1, Option.bind_some]
    dsimp only
    rw [ck_pos h1, ck_pos h2, ck_pos h3, ck_pos h4, ck_pos t2, e2, Option.bind_some]
    dsimp only
    rw [if_pos rfl]
    rfl
  rw [if_neg c37]
  by_cases c38 : op = 38
  · rw [if_pos c38]
    obtain ⟨a, w1, w2, S', e1, e2, g, t2, t1⟩ := both (taken_pair a1 a2) hG
    refine ⟨S', w2, g, ?_⟩
    rw [ck_pos h1, ck_pos h2, ck_pos t1, e1, Option.bind_some]
    dsimp only
    rw [ck_pos h1, ck_pos h2, ck_pos t2, e2, Option.bind_some]
    dsimp only
    rw [if_pos rfl]
    rfl
  rw [if_neg c38]
  exact ⟨S, w, hG, rfl⟩
theorem law_go {L : Nat} {xs : Nat → Int32} (hL : L ≤ 3584) : ∀ (f i : Nat) (S : SS) (w : Wd), 512 < f + i → 7 * i ≤ L + 6 → GD S w → ∃ w1, loopF (bL_law_18 L xs) f (32, 75, nI (7 * i)) w = some (1, w1) := by
  intro f
  induction f with
  | zero => intro i S w h1 h2 _; omega
  | succ f ih =>
    intro i S w h1 h2 hG
    show ∃ w1, bL_law_18 L xs (loopF (bL_law_18 L xs) f) (32, 75, nI (7 * i)) w = some (1, w1)
    have eL : (Int32.ofNat L - 7).toInt = (L : Int) - 7 := by
      have e1 : (Int32.ofNat L).toInt = L := nI_int (by omega)
      rw [isub] <;> rw [e1, show (7 : Int32).toInt = 7 from rfl] <;> omega
    by_cases hd : L < 7 * i + 7
    · refine ⟨w, ?_⟩
      unfold bL_law_18
      dsimp only
      rw [if_pos]
      rw [ilt, eL, nI_int (by omega)]
      omega
    · have v : ∀ j, j < 7 → vp_in (nI (7 * i + j)) L := fun j hj => vin (by omega) (by omega)
      have ea : ∀ j, nI (7 * i) + nI j = nI (7 * i + j) := fun j => nI_add _ _
      obtain ⟨S', w', g, e⟩ := law_body (L := L) (xs := xs) (x := nI (7 * i)) hG (by rw [ilt, eL, nI_int (by omega)]; omega) (v 0 (by decide)) (by have := v 1 (by decide); rw [← ea] at this; exact this) (by have := v 2 (by decide); rw [← ea] at this; exact this) (by have := v 3 (by decide); rw [← ea] at this; exact this) (by have := v 4 (by decide); rw [← ea] at this; exact this) (by have := v 5 (by decide); rw [← ea] at this; exact this) (by have := v 6 (by decide); rw [← ea] at this; exact this) (loopF (bL_law_18 L xs) f)
      rw [e]
      have e7 : nI (7 * i) + 7 = nI (7 * (i + 1)) := by
        rw [show (7 : Int32) = nI 7 from rfl, nI_add]
        congr 1
      rw [e7]
      exact ih (i + 1) S' w' (by omega) (by omega) g
