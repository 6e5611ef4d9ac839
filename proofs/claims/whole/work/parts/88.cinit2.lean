/-! the class stands -/
def S0 : SS := (((h0S, fun _ _ => 0), 0, 0), [pgT (mT (tkV fT))], [], none, fun _ => (-1, []))
/-- the cells below 42 when the text is read -/
def LoC (w : Wd) : Prop := (sh w 32 = (5, 0) ∧ wr w 32 0 = 33 ∧ wr w 32 1 = 41 ∧ wi w 32 2 = 1 ∧ wi w 32 6 = 0) ∧ (sh w 33 = (3, 0) ∧ wr w 33 0 = 34 ∧ wr w 33 2 = 35 ∧ wr w 33 3 = 36 ∧ wr w 33 6 = 37 ∧ sh w 34 = (20, 160) ∧ sh w 35 = (20, 160) ∧ sh w 36 = (20, 160) ∧ sh w 37 = (20, 160)) ∧ wi w 33 1 = 0 ∧ (sh w 41 = (21, 6) ∧ wr w 41 0 = 38) ∧ okPG (pgT (mT (tkV fT))) ∧ TxtAt w 38 (pgT (mT (tkV fT))).1 (pgT (mT (tkV fT))).2.1 (pgT (mT (tkV fT))).2.2 ∧ wr w 38 1 = 39 ∧ wr w 38 4 = 40 ∧ wi w 38 0 = 0
theorem first_i : ∃ w', f5_init 32 (wN w00 5 0) = rest5 w' ∧ nx w' = 42 ∧ LoC w' := by
  obtain ⟨w1, a1, a2, a3, a4, a5⟩ := addAll_i (w := wA) rfl rfl rfl rfl rfl
  have T1 : TS fT w1 ∧ (wr w1 33 2 = 35 ∧ wr w1 33 3 = 36 ∧ tg w1 35 = 20 ∧ ln w1 35 = 160 ∧ tg w1 36 = 20 ∧ ln w1 36 = 160) ∧ (wr w1 33 6 = 37 ∧ tg w1 37 = 20 ∧ ln w1 37 = 160) := by
    unfold TS tg ln
    simp only [a2.1, a3]
    exact ⟨⟨⟨rfl, rfl, rfl, rfl⟩, by rw [a4, fT_len], by rw [fT_len]; decide, a5⟩, ⟨rfl, rfl, rfl, rfl, rfl, rfl⟩, rfl, rfl, rfl⟩
  obtain ⟨r, i', c', w2, b1, ⟨b2, b3⟩, ⟨u1, u2, u3, u4, u5, u6⟩, b5, b6⟩ := fault_g T1
  rw [fT_ok] at b6
  subst b6
  rw [if_pos rfl] at b1
  unfold GoodT at b5
  rw [if_pos rfl] at b5
  obtain ⟨c1, c2, g1, g2, g3, g4, g5, g6, g7⟩ := b5
  obtain ⟨o1, o2, o3, o4⟩ := pg_ok g2 g3 g4 g5
  rw [← g1] at o1 o2 o3 o4
  have F2 : Fr RP wA w2 := (a2.mono fun q z => (by unfold FP at z; unfold RP; omega : RP q)).tr (b2.mono fun q z => (by unfold TXP at z; unfold RP; omega : RP q))
  have W2 : ∀ q, wr w2 q = wr wA q := fun q => (b3 q).trans (a3 q)
  have n2 : nx w2 = 38 := F2.2.1
  have q33 : tg w2 33 = 3 := by unfold tg; rw [F2.1]; rfl
  have t37 : tg w2 37 = 20 := by unfold tg; rw [F2.1]; rfl
  have l37 : ln w2 37 = 160 := by unfold ln; rw [F2.1]; rfl
  obtain ⟨w3, e1, e2, e3, e4, e5, e6, e7, e8, e9, e10, e11, e12⟩ := textRead_c (w := w2) (n := 0) (by rw [n2]; decide) q33 (by rw [W2]; rfl) t37 l37 u4 u5 g5 g6 g7
  rw [n2] at e1 e2 e3 e4 e5 e6 e7 e8 e9 e10 e11 e12
  have s3 : ∀ a, a < 38 → sh w3 a = sh wA a := fun a ha => by rw [(e2 a ha).1, F2.1]
  have r3 : ∀ a, a < 38 → wr w3 a = wr wA a := fun a ha => by
    rw [← W2]
    exact funext fun k => (e2 a ha).2.2 k
  have i32 : ∀ k, wi w3 32 k = wi wA 32 k := fun k => by rw [(e2 32 (by decide)).2.1, (F2.2.2 32 (by unfold RP; decide)).1]
  have N3 : nx (sI w3 33 1 0) = 41 := e3
  refine ⟨sI (sR (sR (wN (sI w3 33 1 0) 21 6) 32 1 41) 41 0 38) 32 2 1, ?_, by rw [nx_sI, nx_sR, nx_sR, nx_wN, N3], ?_⟩
  · have h0 : f5_init 32 (wN w00 5 0) = (ck (tg wA 33 = 3) ((f3_addAll 33 (2 : Nat) wA).bind fun z13 => (ck (tg z13.2 (wr z13.2 32 0) = 3) ((f3_faultPlace (wr z13.2 32 0) z13.2).bind fun z17 => (ck (tg z17.2 (wr z17.2 32 0) = 3) ((f3_textRead (wr z17.2 32 0) (0 : Int32) z17.2).bind fun z21 => (ck (tg z21.2 (wr z21.2 32 0) = 3) (lw (sI z21.2 (wr z21.2 32 0) 1 (0 : Int32)) fun w25 => (lw (wN w25 21 6) fun w28 => (lw (sR w28 32 1 (nx w25)) fun w30 => (ck (tg w30 (wr w30 32 1) = 21 ∧ vp_in (0 : Int32) (ln w30 (wr w30 32 1))) (ck (tg w30 z21.1 = 4) (lw (sR w30 (wr w30 32 1) ((0 : Int32)).toNatClampNeg z21.1) fun w34 => (lw (sI w34 32 2 (1 : Int32)) fun w36 => (lw (wN w36 1 0) fun w39 => ((f1_init (nx w36) z21.1 w39).bind fun z42 => (lw (sR z42.2 32 3 (nx w36)) fun w45 => (lw (wN w45 1 0) fun w48 => ((f1_init (nx w45) z21.1 w48).bind fun z51 => (lw (sR z51.2 32 4 (nx w45)) fun w54 => (lw (wN w54 1 0) fun w57 => ((f1_init (nx w54) z21.1 w57).bind fun z60 => (lw (sR z60.2 32 5 (nx w54)) fun w63 => (lw (wN w63 23 4) fun w66 => (lw (sR w66 32 7 (nx w63)) fun w68 => (loopF (b5_init_116) 5 (32, (0 : Int32)) w68)))))))))))))))))))))))))) := by
      unfold f5_init
      rw [ck_pos (show tg (wN w00 5 0) 32 = 5 from rfl)]
      show ((f3_init 33 (wN (wN w00 5 0) 3 0)).bind fun z7 => _) = _
      rw [f3i, Option.bind_some]
      rfl
    have p1 : wr w1 32 0 = 33 := by rw [a3]; rfl
    have p2 : wr w2 32 0 = 33 := by rw [W2]; rfl
    have p3 : wr w3 32 0 = 33 := by rw [r3 32 (by decide)]; rfl
    have q3 : tg w3 33 = 3 := by unfold tg; rw [s3 33 (by decide)]; rfl
    rw [h0, ck_pos (show tg wA 33 = 3 from rfl), a1, Option.bind_some]
    dsimp only
    rw [p1, ck_pos T1.1.1.1, b1, Option.bind_some]
    dsimp only
    rw [p2, ck_pos q33, e1, Option.bind_some]
    dsimp only
    rw [p3, ck_pos q3]
    unfold rest5 lw
    dsimp only
    have y1 : wr (sR (wN (sI w3 33 1 0) 21 6) 32 1 (nx (sI w3 33 1 0))) 32 1 = 41 := by rw [wr_sR, if_pos ⟨rfl, rfl⟩, N3]
    have y2 : tg (sR (wN (sI w3 33 1 0) 21 6) 32 1 (nx (sI w3 33 1 0))) 41 = 21 := by unfold tg; rw [sh_sR, sh_wN, N3, if_pos rfl]
    have y3 : ln (sR (wN (sI w3 33 1 0) 21 6) 32 1 (nx (sI w3 33 1 0))) 41 = 6 := by unfold ln; rw [sh_sR, sh_wN, N3, if_pos rfl]
    have y4 : tg (sR (wN (sI w3 33 1 0) 21 6) 32 1 (nx (sI w3 33 1 0))) 38 = 4 := by unfold tg; rw [sh_sR, sh_wN, N3, if_neg (by decide), sh_sI, e4]
    rw [y1, y3, ck_pos (And.intro y2 (show vp_in (0 : Int32) 6 from (vin (show 0 < 6 by decide) (by decide) : vp_in (nI 0) 6))), ck_pos y4, N3]
    rfl
  · generalize hB : sI (sR (sR (wN (sI w3 33 1 0) 21 6) 32 1 41) 41 0 38) 32 2 1 = wB
    have sB : ∀ a, a ≠ 41 → sh wB a = sh w3 a := fun a ha => by rw [← hB, sh_sI, sh_sR, sh_sR, sh_wN, N3, if_neg ha, sh_sI]
    have rB : ∀ a k, a ≠ 41 → ¬ (a = 32 ∧ k = 1) → wr wB a k = wr w3 a k := fun a k ha hk => by rw [← hB, wr_sI, wr_sR_ne ha, wr_sR, if_neg hk, wr_wN, N3, if_neg ha, wr_sI]
    have iB : ∀ a k, a ≠ 41 → ¬ (a = 32 ∧ k = 2) → ¬ (a = 33 ∧ k = 1) → wi wB a k = wi w3 a k := fun a k ha hk h33 => by rw [← hB, wi_sI, if_neg hk, wi_sR, wi_sR, wi_wN, N3, if_neg ha, wi_sI, if_neg h33]
    refine ⟨⟨?_, ?_, ?_, ?_, ?_⟩, ⟨?_, ?_, ?_, ?_, ?_, ?_, ?_, ?_, ?_⟩, ?_, ⟨?_, ?_⟩, o1, ⟨?_, ?_, ?_, ?_, ?_, ?_, ?_, o1.2.2⟩, ?_, ?_, ?_⟩
    · rw [sB 32 (by decide), s3 32 (by decide)]; rfl
    · rw [rB 32 0 (by decide) (by decide), r3 32 (by decide)]; rfl
    · rw [← hB, wr_sI, wr_sR_ne (by decide), wr_sR, if_pos ⟨rfl, rfl⟩]
    · rw [← hB]; exact wi_at _ _ _ _
    · rw [iB 32 6 (by decide) (by decide) (by decide), i32]; rfl
    · rw [sB 33 (by decide), s3 33 (by decide)]; rfl
    · rw [rB 33 0 (by decide) (by decide), r3 33 (by decide)]; rfl
    · rw [rB 33 2 (by decide) (by decide), r3 33 (by decide)]; rfl
    · rw [rB 33 3 (by decide) (by decide), r3 33 (by decide)]; rfl
    · rw [rB 33 6 (by decide) (by decide), r3 33 (by decide)]; rfl
    · rw [sB 34 (by decide), s3 34 (by decide)]; rfl
    · rw [sB 35 (by decide), s3 35 (by decide)]; rfl
    · rw [sB 36 (by decide), s3 36 (by decide)]; rfl
    · rw [sB 37 (by decide), s3 37 (by decide)]; rfl
    · rw [← hB, wi_sI, if_neg (by decide), wi_sR, wi_sR, wi_wN, N3, if_neg (by decide), wi_at]
    · rw [← hB, sh_sI, sh_sR, sh_sR, sh_wN, N3, if_pos rfl]
    · rw [← hB, wr_sI, wr_sR, if_pos ⟨rfl, rfl⟩]
    · rw [sB 38 (by decide)]; exact e4
    · rw [rB 38 1 (by decide) (by decide), e5, sB 39 (by decide), o2]; exact e10
    · intro j c hc
      rw [o2] at hc
      rw [rB 38 1 (by decide) (by decide), e5, iB 39 _ (by decide) (fun z => absurd z.1 (by decide)) (fun z => absurd z.1 (by decide))]
      exact e11 j c hc
    · rw [iB 38 2 (by decide) (by decide) (by decide), e8, o3]
    · rw [iB 38 3 (by decide) (by decide) (by decide), e9, o4]
    · rw [rB 38 4 (by decide) (by decide), e6, sB 40 (by decide)]; exact e12
    · rw [rB 38 1 (by decide) (by decide), rB 38 4 (by decide) (by decide), e5, e6]; decide
    · rw [rB 38 1 (by decide) (by decide), e5]
    · rw [rB 38 4 (by decide) (by decide), e6]
    · rw [iB 38 0 (by decide) (by decide) (by decide), e7]
