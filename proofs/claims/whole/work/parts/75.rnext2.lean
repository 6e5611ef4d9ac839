/-! numbers and signs of the reference -/
theorem put1 {l : List Int32} {n p k : Nat} {w : Wd} {a : Int32} (h : MS l n w p) (hk : k = 20 ∨ k = 21) : MS l n (sI w 75 k a) p ∧ NF w (sI w 75 k a) ∧ wi (sI w 75 k a) 75 19 = wi w 75 19 ∧ wi (sI w 75 k a) 75 k = a ∧ ∀ j, j ≠ k → wi (sI w 75 k a) 75 j = wi w 75 j := by
  have hF : NF w (sI w 75 k a) := nfI (by omega)
  refine ⟨h.nf hF ?_ h.2.2.2.2.2, hF, ?_, wi_at _ _ _ _, fun j hj => by rw [wi_sI, if_neg (fun z => hj z.2)]⟩
  · rw [wi_sI, if_neg (fun z => by have := z.2; omega)]
    exact h.2.2.2.2.1
  · rw [wi_sI, if_neg (fun z => by have := z.2; omega)]
theorem cvN {ds : List Int32} (h : ∀ d ∈ ds, digB d = true) : (ds.length ≤ 4 → cvT (tkN ds) = 1 ∧ cvV (tkN ds) = numV ds) ∧ (¬ ds.length ≤ 4 → cvT (tkN ds) = -1 ∧ ¬ isVK (tkN ds)) := by
  unfold tkN
  refine ⟨fun h4 => ?_, fun h4 => ?_⟩
  · rw [if_pos h4]
    obtain ⟨v, hv, ev⟩ := numF ds 0 0 h (by decide) (by omega)
    have hv4 : v < 10 ^ 4 := Nat.lt_of_lt_of_le hv (Nat.pow_le_pow_right (by decide) (by omega))
    have e : numV ds = nI v := ev
    have h9 : nI v ≤ 9999 := by rw [ile, nI_int (by omega), show (9999 : Int32).toInt = 9999 from rfl]; omega
    rw [e]
    exact ⟨by unfold cvT; rw [if_pos h9], by unfold cvV; rw [if_pos h9]⟩
  · rw [if_neg h4]
    exact ⟨by decide, by unfold isVK; decide⟩
theorem j309_r {l : List Int32} {n p q : Nat} {w : Wd} (h : MS l n w q) (hq : q ≤ l.length) (hpq : p ≤ q) (h19 : wi w 75 19 = nI p) (h21 : q - p ≤ 4 → wi w 75 21 = numV (slc l p q)) (hs : ∀ x ∈ slc l p q, digB x = true) : ∃ w', j6_next_309 75 (nI (q - p)) w = some ((), w') ∧ MS l n w' q ∧ NF w w' ∧ wi w' 75 19 = nI p ∧ TV (tkN (slc l p q)) w' := by
  have hl := h.2.1.2.1
  obtain ⟨c1, c2⟩ := cvN hs
  have ht := h.1.t
  rw [slc_len hq] at c1 c2
  unfold j6_next_309 lw
  by_cases h4 : q - p ≤ 4
  · obtain ⟨p1, p2, p3, p4, p5⟩ := put1 (a := 1) (k := 20) h (Or.inl rfl)
    rw [if_pos (by rw [ile, nI_int (by omega), show (4 : Int32).toInt = 4 from rfl]; omega), ck_pos ht]
    exact ⟨_, rfl, p1, p2, by rw [p3, h19], by rw [p4, (c1 h4).1], fun _ => by rw [p5 21 (by decide), h21 h4, (c1 h4).2]⟩
  · obtain ⟨p1, p2, p3, p4, p5⟩ := put1 (a := -1) (k := 20) h (Or.inl rfl)
    rw [if_neg (by rw [ile, nI_int (by omega), show (4 : Int32).toInt = 4 from rfl]; omega), ck_pos ht]
    exact ⟨_, rfl, p1, p2, by rw [p3, h19], by rw [p4, (c2 h4).1], fun z => absurd z (c2 h4).2⟩
theorem num_r {l : List Int32} {n p : Nat} {w : Wd} (h : MS l n w p) (h19 : wi w 75 19 = nI p) (h21 : wi w 75 21 = 0) : ∃ w', loopF b6_next_230 FU (75, (0 : Int32)) w = some ((), w') ∧ MS l n w' (runE digB l p) ∧ NF w w' ∧ wi w' 75 19 = nI p ∧ TV (tkN (slc l p (runE digB l p))) w' := by
  have hl := h.2.1.2.1
  have hp := h.2.2.2.2.2
  have hr := run_le (P := digB) (l := l) _ p rfl hp
  refine loopI (R := fun o => ∃ w', o = some ((), w') ∧ MS l n w' (runE digB l p) ∧ NF w w' ∧ wi w' 75 19 = nI p ∧ TV (tkN (slc l p (runE digB l p))) w') (I := fun i v w2 => v = (75, nI i) ∧ MS l n w2 (p + i) ∧ NF w w2 ∧ wi w2 75 19 = nI p ∧ runE digB l (p + i) = runE digB l p ∧ (i ≤ 4 → wi w2 75 21 = numV (slc l p (p + i)))) (l.length - p) ?_ FU 0 _ w (by show l.length - p < 1000 + 0; omega) (Nat.zero_le _) ⟨rfl, h, NF.rf, h19, rfl, fun _ => by rw [Nat.add_zero, slc_nil]; exact h21⟩
  intro i v w2 hi hI
  obtain ⟨rfl, i1, i2, i3, i4, i5⟩ := hI
  have ht := i1.1.t
  have fin : runE digB l p = p + i → (∃ w', j6_next_309 75 (nI i) w2 = some ((), w') ∧ MS l n w' (runE digB l p) ∧ NF w w' ∧ wi w' 75 19 = nI p ∧ TV (tkN (slc l p (runE digB l p))) w') := by
    intro e
    have := slc_all (P := digB) hp
    rw [e] at this ⊢
    obtain ⟨w', q1, q2, q3, q4, q5⟩ := j309_r i1 (by omega) (by omega) i3 (fun z => i5 (by omega)) this
    rw [Nat.add_sub_cancel_left] at q1
    exact ⟨w', q1, q2, i2.tr q3, q4, q5⟩
  by_cases hlt : p + i < l.length
  · obtain ⟨g1, g2, g3⟩ := i1.at80 hlt
    by_cases hb : digB (byI l (p + i)) = true
    · have hr2 : runE digB l (p + (i + 1)) = runE digB l p := by
        rw [← i4, run_st hlt, if_pos hb]
        rfl
      have e290 : ∀ k a, j6_next_290 k 75 (nI i) a 75 w2 = k (75, nI (i + 1)) (sI (sI w2 75 21 a) 75 18 (nI (p + i + 1))) := by
        intro k a
        obtain ⟨p1, p2, p3, p4, p5⟩ := put1 (a := a) (k := 21) i1 (Or.inr rfl)
        unfold j6_next_290 lw
        rw [ck_pos ht]
        show ck (tg (sI w2 75 21 a) 75 = 6) (k (75, nI i + 1) (sI (sI w2 75 21 a) 75 18 (wi (sI w2 75 21 a) 75 18 + 1))) = _
        rw [ck_pos p1.1.t, p1.2.2.2.2.1, i3_1, i3_1]
      have inv : ∀ a, (i + 1 ≤ 4 → a = numV (slc l p (p + (i + 1)))) → (MS l n (sI (sI w2 75 21 a) 75 18 (nI (p + i + 1))) (p + (i + 1)) ∧ NF w (sI (sI w2 75 21 a) 75 18 (nI (p + i + 1))) ∧ wi (sI (sI w2 75 21 a) 75 18 (nI (p + i + 1))) 75 19 = nI p ∧ runE digB l (p + (i + 1)) = runE digB l p ∧ (i + 1 ≤ 4 → wi (sI (sI w2 75 21 a) 75 18 (nI (p + i + 1))) 75 21 = numV (slc l p (p + (i + 1))))) := by
        intro a ha
        obtain ⟨p1, p2, p3, p4, p5⟩ := put1 (a := a) (k := 21) i1 (Or.inr rfl)
        obtain ⟨m1, m2⟩ := at18 p1 hlt
        refine ⟨m1, (i2.tr p2).tr m2, ?_, hr2, fun z => ?_⟩
        · rw [wi_sI, if_neg (fun z => absurd z.2 (by decide)), p3, i3]
        · rw [wi_sI, if_neg (fun z => absurd z.2 (by decide)), p4, ha z]
      by_cases h4 : 4 ≤ i
      · refine Or.inr ⟨by omega, (75, nI (i + 1)), _, ⟨rfl, inv 0 (fun z => by omega)⟩, fun k => ?_⟩
        unfold b6_next_230
        dsimp only
        rw [ck_pos ht, i1.2.1.1, i1.2.2.2.2.1, if_neg (nI_ge hlt (by omega)), i1.1.r5, ck_pos g1, g2, g3, in_dig, Option.bind_some]
        dsimp only
        rw [if10, if_pos hb, if_pos (by rw [ile, nI_int (by omega), show (4 : Int32).toInt = 4 from rfl]; omega), e290]
      · refine Or.inr ⟨by omega, (75, nI (i + 1)), _, ⟨rfl, inv (10 * numV (slc l p (p + i)) + byI l (p + i) - 48) (fun z => ?_)⟩, fun k => ?_⟩
        · rw [show p + (i + 1) = p + i + 1 from rfl, slc_snoc hlt (by omega), numV_snoc, Int32.mul_comm]
        · unfold b6_next_230
          dsimp only
          rw [ck_pos ht, i1.2.1.1, i1.2.2.2.2.1, if_neg (nI_ge hlt (by omega)), i1.1.r5, ck_pos g1, g2, g3, in_dig, Option.bind_some]
          dsimp only
          rw [if10, if_pos hb, if_neg (by rw [ile, nI_int (by omega), show (4 : Int32).toInt = 4 from rfl]; omega), i1.2.2.2.2.1, i1.1.r5, ck_pos g1, g2, g3, i5 (by omega), e290]
    · refine Or.inl fun k => ?_
      unfold b6_next_230
      dsimp only
      rw [ck_pos ht, i1.2.1.1, i1.2.2.2.2.1, if_neg (nI_ge hlt (by omega)), i1.1.r5, ck_pos g1, g2, g3, in_dig, Option.bind_some]
      dsimp only
      rw [if10, if_neg hb]
      exact fin (by rw [← i4, run_st hlt, if_neg hb])
  · refine Or.inl fun k => ?_
    unfold b6_next_230
    dsimp only
    rw [ck_pos ht, i1.2.1.1, i1.2.2.2.2.1, if_pos (by rw [ile, nI_int (by omega), nI_int (by omega)]; omega)]
    exact fin (by rw [← i4, run_end (by omega)])
