/-! text(): the class's call -/
theorem text_c {S : SS} {w : Wd} (h : RC S w) (hS : SI S) : ∃ w', f5_text 32 w = some ((txA S).1, w') ∧ RC (txA S).2 w' ∧ OffM w w' ∧ ((mT (tkV S.2.2.1)).1 = true → okPG (pgT (mT (tkV S.2.2.1)))) := by
  have hn := hS.2.1.1
  have hn6 := hS.2.1.2.1
  have l41 := h.1.2.2.1.1
  obtain ⟨t1, t2, t3, t4, t5, t6⟩ := h.tape
  obtain ⟨r, i', c', w1, a1, ⟨a2, a3⟩, a4, a5, a6⟩ := fault_c h hS
  have hok : (mT (tkV S.2.2.1)).1 = true → okPG (pgT (mT (tkV S.2.2.1))) ∧ (pgT (mT (tkV S.2.2.1))).1 ++ (pgT (mT (tkV S.2.2.1))).2.1 ++ (pgT (mT (tkV S.2.2.1))).2.2 = c' ∧ c'.length < 160 ∧ wi w1 33 8 = nI (pgT (mT (tkV S.2.2.1))).1.length ∧ wi w1 33 9 = nI ((pgT (mT (tkV S.2.2.1))).1 ++ (pgT (mT (tkV S.2.2.1))).2.1).length := by
    intro hm
    rw [hm] at a6
    subst a6
    unfold GoodT at a5
    rw [if_pos rfl] at a5
    obtain ⟨c1, c2, g1, g2, g3, g4, g5, g6, g7⟩ := a5
    rw [g1]
    obtain ⟨o1, o2, o3, o4⟩ := pg_ok g2 g3 g4 g5
    exact ⟨o1, o2, g5, by rw [o3]; exact g6, by rw [o4]; exact g7⟩
  unfold txA
  by_cases h6 : S.2.1.length = 6
  · rw [if_pos h6]
    refine ⟨w, ?_, h, OffM.rf, fun z => (hok z).1⟩
    unfold f5_text
    rw [ck_pos h.t, h.1.1.2.2.1, ck_pos (tg_eq l41), h.2.2.1.1, ln_eq l41, h6, if_neg (by decide)]
  · rw [if_neg h6]
    have hlt : nI S.2.1.length < Int32.ofNat 6 := nI_lt (b := 6) (by omega) (by omega)
    have F9 : Fr RP w (sI w1 33 1 0) := (a2.mono fun q z => (by unfold TXP at z; unfold RP; omega : RP q)).tr (Fr.sI (by unfold RP; decide))
    have R9 : RC (tpS S []) (sI w1 33 1 0) := rcTape7 h F9 (fun q => a3 q) (wi_at _ _ _ _) (fun j b hb => by simp at hb)
    have o9 : OffM w (sI w1 33 1 0) := F9.offM fun q x y z => by unfold RP at z; omega
    have r0 : wr w1 32 0 = 33 := by rw [a3]; exact t1
    have r0' : wr (sI w1 33 1 0) 32 0 = 33 := r0
    have r1' : wr (sI w1 33 1 0) 32 1 = 41 := R9.1.1.2.2.1
    have g33 : tg w1 33 = 3 := by unfold tg; rw [a2.1]; exact t2
    have g33' : tg (sI w1 33 1 0) 33 = 3 := g33
    have e2' : wi (sI w1 33 1 0) 32 2 = nI S.2.1.length := R9.2.2.1.1
    have pre : f5_text 32 w = if (if r = true then (-1 : Int32) else nI (plR S.2.2.1 (mT (tkV S.2.2.1)).2.1)) < 0 then ((f3_textRead 33 (nI S.2.1.length) (sI w1 33 1 0)).bind fun z13 => (ck (tg z13.2 41 = 21 ∧ vp_in (nI S.2.1.length) (ln z13.2 41)) (ck (tg z13.2 z13.1 = 4) (lw (sR z13.2 41 (nI S.2.1.length).toNatClampNeg z13.1) fun w18 => (lw (sI w18 32 2 ((wi w18 32 2) + (1 : Int32))) fun w20 => (some (((wi w20 32 2) - (1 : Int32)), w20))))))) else some ((-100 : Int32) - (if r = true then (-1 : Int32) else nI (plR S.2.2.1 (mT (tkV S.2.2.1)).2.1)), sI w1 33 1 0) := by
      unfold f5_text lw
      rw [ck_pos h.t, h.1.1.2.2.1, ck_pos (tg_eq l41), h.2.2.1.1, ln_eq l41, if_pos hlt, t1, ck_pos t2, a1, Option.bind_some]
      dsimp only
      rw [r0, ck_pos g33, r0', ck_pos g33', r1', e2']
    rw [pre]
    subst a6
    by_cases hm : (mT (tkV S.2.2.1)).1 = true
    · rw [if_pos hm, if_pos hm, if_pos (show (-1 : Int32) < 0 by decide)]
      obtain ⟨k1, k2, k3, k4, k5⟩ := hok hm
      obtain ⟨x1, x2, x3, x4, x5, x6⟩ := a4
      obtain ⟨_, _, ⟨q1, q2, q3⟩⟩ := h.ts hS
      have hnx : nx (sI w1 33 1 0) = 91 + 3 * S.2.1.length := R9.2.2.1.2.1
      obtain ⟨w2, b1, b2, b3, b4, b5, b6, b7, b8, b9, b10, b11, b12⟩ := textRead_c (w := sI w1 33 1 0) (c := c') (n := nI S.2.1.length) (b := nI (pgT (mT (tkV S.2.2.1))).1.length) (g := nI ((pgT (mT (tkV S.2.2.1))).1 ++ (pgT (mT (tkV S.2.2.1))).2.1).length) (by omega) g33' (by show wr w1 33 6 = 37; rw [a3]; exact q1) x1.2.2.2.2.2.1 x1.2.2.2.2.2.2 (by rw [wi_sI, if_neg (fun z => absurd z.2 (by decide))]; exact x4) (fun j x hx => by rw [wi_sI_ne (by decide)]; exact x5 j x hx) k3 (by rw [wi_sI, if_neg (fun z => absurd z.2 (by decide))]; exact k4) (by rw [wi_sI, if_neg (fun z => absurd z.2 (by decide))]; exact k5)
      have s41 : sh w2 41 = (21, 6) := by rw [(b2 41 (by omega)).1]; exact R9.1.2.2.1.1
      have e32 : wi (sR w2 41 S.2.1.length (nx (sI w1 33 1 0))) 32 2 = nI S.2.1.length := by
        show wi w2 32 2 = _
        rw [(b2 32 (by omega)).2.1]
        exact e2'
      refine ⟨sI (sR w2 41 S.2.1.length (nx (sI w1 33 1 0))) 32 2 (nI (S.2.1.length + 1)), ?_, ?_, ?_, fun _ => k1⟩
      · rw [b1, Option.bind_some]
        dsimp only
        rw [ln_eq s41, ck_pos (And.intro (tg_eq s41) (vin (show S.2.1.length < 6 by omega) (by decide))), ck_pos (tg_eq b4), nI_clamp (by omega)]
        unfold lw
        dsimp only
        rw [e32, i3_1, wi_at, ni1]
      · refine rcText (S := tpS S []) (w := sI w1 33 1 0) R9 hn k1 (fun a ha => (b2 a ha).1) (fun a ha k => ?_) (fun a ha k => ?_) (wi_at _ _ _ _) ?_ b3 b4 ?_ ?_ ?_ ?_ ?_ ?_ ?_ b12
        · by_cases z : a = 32 ∧ k = 2
          · exact Or.inl z
          · refine Or.inr ?_
            rw [wi_sI, if_neg z]
            exact (b2 a ha).2.1 k
        · by_cases z : a = 41 ∧ k = S.2.1.length
          · exact Or.inl z
          · refine Or.inr ?_
            show wr (sR w2 41 S.2.1.length (nx (sI w1 33 1 0))) a k = _
            rw [wr_sR, if_neg z]
            exact (b2 a ha).2.2 k
        · show wr (sR w2 41 S.2.1.length (nx (sI w1 33 1 0))) 41 S.2.1.length = _
          rw [wr_sR, if_pos ⟨rfl, rfl⟩]
        · show wr (sR w2 41 S.2.1.length (nx (sI w1 33 1 0))) (nx (sI w1 33 1 0)) 1 = _
          rw [wr_sR_ne (by omega)]; exact b5
        · show wr (sR w2 41 S.2.1.length (nx (sI w1 33 1 0))) (nx (sI w1 33 1 0)) 4 = _
          rw [wr_sR_ne (by omega)]; exact b6
        · rw [wi_sI_ne (by omega)]; exact b7
        · rw [wi_sI_ne (by omega)]; exact b8
        · rw [wi_sI_ne (by omega)]; exact b9
        · rw [k2]; exact b10
        · intro j x hx
          rw [k2] at hx
          rw [wi_sI_ne (by omega)]
          exact b11 j x hx
      · refine o9.tr fun q y z => ⟨(b2 q (by omega)).1, fun k => ?_, fun k => ?_⟩
        · rw [wi_sI_ne (by omega)]
          exact (b2 q (by omega)).2.1 k
        · show wr (sR w2 41 S.2.1.length (nx (sI w1 33 1 0))) q k = _
          rw [wr_sR_ne (by omega)]
          exact (b2 q (by omega)).2.2 k
    · have hpl : ¬ nI (plR S.2.2.1 (mT (tkV S.2.2.1)).2.1) < 0 := by
        have hb : plR S.2.2.1 (mT (tkV S.2.2.1)).2.1 < 2 ^ 31 := by
          have hl := hS.2.2.1.1
          unfold plR
          split
          · rename_i x hx
            have hx' := List.mem_of_getElem? hx
            have : ∀ n, n ≤ S.2.2.1.length → ∀ x ∈ tkQ S.2.2.1 n, x.2 ≤ S.2.2.1.length := by
              intro n
              induction n with
              | zero => intro _ x hx; exact absurd hx List.not_mem_nil
              | succ n ih =>
                intro hn x hx
                unfold tkQ at hx
                split at hx
                · rcases List.mem_cons.mp hx with e | e
                  · rw [e]; exact Nat.sub_le _ _
                  · exact ih (by omega) x e
                · exact ih (by omega) x hx
            have := this _ (Nat.sub_le _ _) x hx'
            omega
          · omega
        rw [ilt, nI_int hb, show (0 : Int32).toInt = 0 from rfl]
        omega
      rw [if_neg hm, if_neg hm, if_neg hpl]
      exact ⟨sI w1 33 1 0, rfl, R9, o9, fun z => absurd z hm⟩
