/-! a new bather: the reference, the pair -/
theorem bather_r {S : SS} {w : Wd} (a b : Int32) (h : RM S w) (hS : S.1.2.1 ≤ 6) : ∃ w', f6_bather 75 a b w = some ((newA S a b).1, w') ∧ RM (newA S a b).2 w' ∧ OffC w w' := by
  unfold f6_bather newA lw
  rcases within2 a 0 59 with ⟨h1, h2⟩ | ⟨h1, h2⟩
  · rw [(h2 w).1, Option.bind_some, if_neg (show ¬ (1 : Int32) = 0 by decide), if_pos h1]
    dsimp only
    rcases within2 b 0 9999 with ⟨h3, h4⟩ | ⟨h3, h4⟩
    · rw [(h4 w).1, Option.bind_some, if_neg (show ¬ (1 : Int32) = 0 by decide), if_pos h3]
      dsimp only
      by_cases hb3 : b - b / 10 * 10 ≤ 3
      · rw [if_pos hb3, if_pos hb3, ck_pos h.1.1.t, h.1.2.1]
        by_cases hm : S.1.2.1 < 6
        · have hl : ¬ nI S.1.2.1 = 6 := by
            rw [ieq, nI_int (by omega), show (6 : Int32).toInt = 6 from rfl]
            omega
          have a1 := h.1.1
          obtain ⟨cb, c0, c1, c2, vb, v0, v1, v2⟩ := idx6 (b := S.1.2.1) hm
          rw [if_neg hl, if_pos hm]
          refine ⟨newM w S.1.2.1 a b, ?_, h.new hm, newM_fr.offC fun q z => by omega⟩
          have e4 : ∀ (w : Wd) (q j : Nat) (x : Int32), q ≠ 75 → wi (sI w q j x) 75 0 = wi w 75 0 := fun w q j x hq => wi_sI_ne (fun z => hq z.symm) 0
          have e5 : ∀ (w : Wd) (x : Int32), wi (sI w 75 0 x) 75 0 = x := fun w x => by rw [wi_sI, if_pos ⟨rfl, rfl⟩]
          simp only [a1.t, a1.r1, a1.t1, a1.l1, a1.r2, a1.t2, a1.l2, a1.r3, a1.t3, a1.l3, a1.r4, a1.t4, a1.l4, a1.r5, a1.t5, a1.l5, a1.r7, a1.t7, a1.l7, a1.r8, a1.t8, a1.l8, a1.r12, a1.t12, a1.l12, a1.r13, a1.t13, a1.l13, a1.r14, a1.t14, a1.l14, a1.r15, a1.t15, a1.l15, a1.r16, a1.t16, a1.l16, a1.r17, a1.t17, a1.l17, a1.r22, a1.t22, a1.l22, a1.r23, a1.t23, a1.l23, a1.r27, a1.t27, a1.l27, a1.r28, a1.t28, a1.l28, a1.r29, a1.t29, a1.l29, tg_sI, ln_sI, wr_sI, ck_true, true_and, e4 _ 76 _ _ (by decide), e4 _ 77 _ _ (by decide), e4 _ 78 _ _ (by decide), e5, h.1.2.1, i3, i3_1, i3_2, cb, c0, c1, c2, vb, v0, v1, v2]
          rw [ni1]
          rfl
        · have hl : nI S.1.2.1 = 6 := by
            rw [show S.1.2.1 = 6 by omega]
            rfl
          rw [if_pos hl, if_neg hm]
          exact ⟨w, rfl, h, OffC.rf⟩
      · rw [if_neg hb3, if_neg hb3]
        exact ⟨w, rfl, h, OffC.rf⟩
    · rw [(h4 w).1, Option.bind_some, if_pos rfl, if_neg h3]
      exact ⟨w, rfl, h, OffC.rf⟩
  · rw [(h2 w).1, Option.bind_some, if_pos rfl, if_neg h1]
    exact ⟨w, rfl, h, OffC.rf⟩
theorem newA_si {S : SS} (a b : Int32) (h : SI S) : SI (newA S a b).2 := by
  unfold newA
  split
  · rename_i h1
    split
    · rename_i h2
      split
      · rename_i h3
        split
        · rename_i h4
          exact h.new ⟨h1, h2, h3⟩ h4
        · exact h
      · exact h
    · exact h
  · exact h
theorem bather_pair (a b : Int32) : Pair (f5_bather 32 a b) (f6_bather 75 a b) := pair_of fun S hS => by
  refine ⟨newA S a b, fun w h => ?_, fun w h => bather_r a b h hS.1.1, newA_si a b hS⟩
  obtain ⟨w', b1, b2, b3⟩ := letIn_c a b h hS.1.1
  refine ⟨w', ?_, b2, b3⟩
  unfold f5_bather
  rw [ck_pos h.t, h.r3, ck_pos h.t42, b1]
  rfl
