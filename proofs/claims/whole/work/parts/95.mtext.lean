/-! the reference reads the first text: the first state -/
theorem ref_i {w0 w : Wd} (h : PreM 18 w0 w) (hok : okPG (pgT (mT (tkV fT)))) : ∃ w', j6_init_1065 75 w = some ((), w') ∧ RM S0 w' ∧ W89 w' ∧ OldW w0 w' 75 ∧ nx w' = 94 := by
  obtain ⟨hL, hW, hd, he, hf⟩ := pre_lay h
  obtain ⟨w1, a1, a2, a3, a4, a5, a6⟩ := copy_i h
  have L1 := hL.same a2.1 a3
  have F0 : TF 0 w1 (sI (sI w1 75 18 0) 75 26 0) := (tf75 (Or.inl ⟨by decide, by decide⟩)).tr (tf75 (Or.inr ⟨by decide, by decide⟩))
  have L0 : LayM (sI (sI w1 75 18 0) 75 26 0) := L1.same F0.1.1 F0.2.1
  have W1 : W89 w1 := fun k hk => by rw [(a2.2.2 89 (by decide)).1]; exact hW k hk
  have M0 : MS fT 0 (sI (sI w1 75 18 0) 75 26 0) 0 := by
    refine ⟨L0, ⟨by rw [F0.2.2.1 6 (by decide) (by decide)]; exact a5, by rw [fT_len]; decide, fun j b hb => by rw [(F0.1.2.2 80 (by decide)).1]; exact a6 j b hb⟩, fun k hk => by rw [(F0.1.2.2 89 (by decide)).1]; exact W1 k hk, ⟨by rw [F0.2.2.1 9 (by decide) (by decide)]; exact a4 9 (by decide), by decide⟩, ?_, Nat.zero_le _⟩
    rw [wi_sI, if_neg (fun z => absurd z.2 (by decide)), wi_at]
    rfl
  have A0 : At fT 0 (sI (sI w1 75 18 0) 75 26 0) 0 (tkF fT 0) := ⟨M0, Or.inl rfl, rfl, [], rfl⟩
  have O0 : RO 0 (sI (sI w1 75 18 0) 75 26 0) [] := ⟨⟨L0, M0.2.2.2.1.1, by decide⟩, wi_at _ _ _ _, fun j x hx => by simp at hx⟩
  obtain ⟨w2, ok, e1, F1, g1, g2⟩ := text_go A0 O0
  rw [fT_ok] at g1
  subst g1
  rw [if_pos rfl] at g2 e1
  obtain ⟨c1, d1, d2, m, o, z0, z1, z2⟩ := g2
  have F2 := F0.tr F1
  have L2 : LayM w2 := L1.same F2.1.1 F2.2.1
  have n9 : wi w2 75 9 = 0 := by rw [F2.2.2.1 9 (by decide) (by decide)]; exact a4 9 (by decide)
  have e122 : j6_text_122 75 1 w2 = some (0, sI (sI (sI w2 82 3 (wi w2 75 26)) 75 6 0) 75 9 1) := by
    unfold j6_text_122
    have q9 : wi (sI (sI w2 82 3 (wi w2 75 26)) 75 6 0) 75 9 = 0 := by
      rw [wi_sI, if_neg (fun z => absurd z.2 (by decide)), wi_sI_ne (by decide)]
      exact n9
    rw [ck_pos L2.t, L2.r8, n9, L2.l8, show (4 : Int32) * 0 + 3 = nI 3 from rfl, ck_pos (And.intro L2.t8 (vin (show 3 < 24 by decide) (by decide))), nI_clamp (by decide), lw_eq, lw_eq, if_neg n10, lw_eq, q9, wi_at]
    rfl
  have pre : f6_text 75 w1 = some (0, sI (sI (sI w2 82 3 (wi w2 75 26)) 75 6 0) 75 9 1) := by
    unfold f6_text
    rw [ck_pos L1.t, a4 9 (by decide), if_neg (by decide), lw_eq, lw_eq, e1, e122]
  have F3 : XF 0 w1 (sI (sI (sI w2 82 3 (wi w2 75 26)) 75 6 0) 75 9 1) := ((F2.tr (tf82 (by decide))).xf.tr (xf75 (Or.inl rfl))).tr (xf75 (Or.inr rfl))
  have ep : pgT (mT (tkV fT)) = (c1, d1, d2) := by
    rw [m]
    unfold pgT
    dsimp only
    rw [List.drop_left, List.drop_left]
  have g82 : ∀ i, i ≠ 3 → wi (sI (sI (sI w2 82 3 (wi w2 75 26)) 75 6 0) 75 9 1) 82 i = wi w2 82 i := fun i hi => by
    rw [wi_sI_ne (by decide), wi_sI_ne (by decide), wi_sI, if_neg (fun z => hi z.2)]
  have pm : ProgM (sI (sI (sI w2 82 3 (wi w2 75 26)) 75 6 0) 75 9 1) 0 (pgT (mT (tkV fT))).1 (pgT (mT (tkV fT))).2.1 (pgT (mT (tkV fT))).2.2 := by
    rw [ep] at hok ⊢
    refine ⟨by decide, by rw [g82 _ (by decide)]; exact z0, by rw [g82 _ (by decide)]; exact z1, by rw [g82 _ (by decide)]; exact z2, ?_, fun j x hx => ?_, hok.2.2⟩
    · rw [wi_sI_ne (by decide), wi_sI_ne (by decide), wi_at]
      exact o.2.1
    · rw [wi_sI_ne (by decide), wi_sI_ne (by decide), wi_sI_ne (by decide)]
      exact o.2.2 j x hx
  have g6 : wi (sI (sI (sI w2 82 3 (wi w2 75 26)) 75 6 0) 75 9 1) 75 6 = 0 := by
    rw [wi_sI, if_neg (fun z => absurd z.2 (by decide)), wi_at]
  have g9 : wi (sI (sI (sI w2 82 3 (wi w2 75 26)) 75 6 0) 75 9 1) 75 9 = 1 := wi_at _ _ _ _
  generalize sI (sI (sI w2 82 3 (wi w2 75 26)) 75 6 0) 75 9 1 = w3 at pre F3 pm g6 g9
  have n : ∀ q, ¬ (q = 75 ∨ q = 81 ∨ q = 90 ∨ q = 82 ∨ q = 80) → ∀ k, wi w3 q k = wi w q k := fun q hq k => by
    rw [(F3.1.2.2 q (fun z => hq (by omega))).1, (a2.2.2 q (fun z => hq (by omega))).1]
  have g := fun k (z : ¬ (18 ≤ k ∧ k ≤ 21)) (z2 : ¬ (24 ≤ k ∧ k ≤ 26)) (z3 : k ≠ 6) (z4 : k ≠ 9) => (F3.2.2.1 k z z2 z3 z4).trans (a4 k z3)
  refine ⟨w3, ?_, ⟨⟨L1.same F3.1.1 F3.2.1, g 0 (by decide) (by decide) (by decide) (by decide), Nat.zero_le _, fun k hk => by rw [n 79 (by decide)]; exact hd k hk, fun b hb => absurd hb (Nat.not_lt_zero b), g 10 (by decide) (by decide) (by decide) (by decide), pm, hok.1, hok.2.1⟩, ⟨g9, fun t ht => ?_⟩, ⟨g6, fun j b hb => ?_⟩, ⟨g 11 (by decide) (by decide) (by decide) (by decide), fun c hc => ?_⟩, fun s hs => ⟨by rw [n 85 (by decide)]; exact (he s hs).1, by rw [n 86 (by decide)]; exact (he s hs).2, fun k x hx => ?_⟩⟩, fun k hk => by rw [n 89 (by decide)]; exact hW k hk, fun a ha => ?_, ?_⟩
  · rw [a1]
    unfold j6_init_1097
    rw [ck_pos L1.t, pre, Option.bind_some]
  · have t0 : t = 0 := by have : t < 1 := ht; omega
    subst t0
    exact pm
  · have z : ([] : List Int32)[j]? = some b := hb
    simp at z
  · have z : (none : Option CO) = some c := hc
    cases z
  · have z : ([] : List Int32)[k]? = some x := hx
    simp at z
  · obtain ⟨o1, o2, o3⟩ := h.2.2.2.2.2 a ha
    have f3 := F3.1.2.2 a (by omega)
    have f2 := a2.2.2 a (by omega)
    exact ⟨by rw [F3.1.1, a2.1]; exact o1, fun k => by rw [f3.1, f2.1]; exact o2 k, fun k => by rw [f3.2, f2.2]; exact o3 k⟩
  · rw [F3.1.2.1, a2.2.1]
    exact h.2.1
