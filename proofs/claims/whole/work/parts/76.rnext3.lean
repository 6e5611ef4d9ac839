/-! next() as a whole -/
def NR (l : List Int32) (n p : Nat) (w w' : Wd) : Prop := ∃ p', MS l n w' p' ∧ bdT l p' ∧ NF w w' ∧ (tkF l p = [] → wi w' 75 20 = 0 ∧ wi w' 75 19 = nI l.length ∧ tkF l p' = []) ∧ ∀ t b r, tkF l p = (t, b) :: r → wi w' 75 19 = nI b ∧ TV t w' ∧ tkF l p' = r
theorem sign_r {b : Int32} {w : Wd} {x0 : Nat} : (if b = (40 : Int32) then (j6_next_374 x0 b w) else (if b = (41 : Int32) then (j6_next_374 x0 b w) else (if b = (59 : Int32) then (j6_next_374 x0 b w) else (if b = (43 : Int32) then (j6_next_374 x0 b w) else (if b = (45 : Int32) then (j6_next_374 x0 b w) else (if b = (42 : Int32) then (j6_next_374 x0 b w) else (if b = (60 : Int32) then (j6_next_374 x0 b w) else (if b = (61 : Int32) then (j6_next_374 x0 b w) else (j6_next_379 x0 b (0 : Int32) w))))))))) = j6_next_390 x0 (cvT (tkS b)) x0 w ∧ ¬ isVK (tkS b) := by
  have e1 : j6_next_374 x0 b w = j6_next_390 x0 b x0 w := by unfold j6_next_374 j6_next_379; rw [if_neg n10]
  have e2 : j6_next_379 x0 b (0 : Int32) w = j6_next_390 x0 (-1) x0 w := by unfold j6_next_379; rw [if_pos rfl]
  rw [e1, e2]
  unfold tkS
  by_cases h1 : b = 40
  · subst h1
    exact ⟨rfl, by unfold isVK; decide⟩
  rw [if_neg h1, if_neg h1]
  by_cases h2 : b = 41
  · subst h2
    exact ⟨rfl, by unfold isVK; decide⟩
  rw [if_neg h2, if_neg h2]
  by_cases h3 : b = 59
  · subst h3
    exact ⟨rfl, by unfold isVK; decide⟩
  rw [if_neg h3]
  by_cases h4 : b = 43
  · subst h4
    exact ⟨rfl, by unfold isVK; decide⟩
  rw [if_neg h4]
  by_cases h5 : b = 45
  · subst h5
    exact ⟨rfl, by unfold isVK; decide⟩
  rw [if_neg h5]
  by_cases h6 : b = 42
  · subst h6
    exact ⟨rfl, by unfold isVK; decide⟩
  rw [if_neg h6, if_neg h6, if_neg h4, if_neg h5, if_neg h3]
  by_cases h7 : b = 60
  · subst h7
    exact ⟨rfl, by unfold isVK; decide⟩
  rw [if_neg h7, if_neg h7]
  by_cases h8 : b = 61
  · subst h8
    exact ⟨rfl, by unfold isVK; decide⟩
  rw [if_neg h8, if_neg h8]
  exact ⟨rfl, by unfold isVK; decide⟩
theorem j52_r {l : List Int32} {n p : Nat} {w : Wd} (h : MS l n w p) (hb : bdT l p) (hn : p < l.length → byI l p ≠ 32 ∧ byI l p ≠ 10) : ∃ w', j6_next_52 75 w = some ((), w') ∧ NR l n p w w' := by
  have hl := h.2.1.2.1
  have hp := h.2.2.2.2.2
  have hF : NF w (sI (sI (sI w 75 19 (nI p)) 75 20 0) 75 21 0) := ((nfI ⟨by decide, by decide⟩).tr (nfI ⟨by decide, by decide⟩)).tr (nfI ⟨by decide, by decide⟩)
  have k18 : wi (sI (sI (sI w 75 19 (nI p)) 75 20 0) 75 21 0) 75 18 = nI p := by
    rw [wi_sI, if_neg (fun z => absurd z.2 (by decide)), wi_sI, if_neg (fun z => absurd z.2 (by decide)), wi_sI, if_neg (fun z => absurd z.2 (by decide))]
    exact h.2.2.2.2.1
  have k19 : wi (sI (sI (sI w 75 19 (nI p)) 75 20 0) 75 21 0) 75 19 = nI p := by
    rw [wi_sI, if_neg (fun z => absurd z.2 (by decide)), wi_sI, if_neg (fun z => absurd z.2 (by decide)), wi_at]
  have k20 : wi (sI (sI (sI w 75 19 (nI p)) 75 20 0) 75 21 0) 75 20 = 0 := by
    rw [wi_sI, if_neg (fun z => absurd z.2 (by decide)), wi_at]
  have k21 : wi (sI (sI (sI w 75 19 (nI p)) 75 20 0) 75 21 0) 75 21 = 0 := wi_at _ _ _ _
  have hM := h.nf hF k18 hp
  have hd : j6_next_52 75 w = (fun w8 => (if (wi w8 75 18) = (wi w8 75 6) then (some ((), w8)) else (ck (tg w8 (wr w8 75 5) = 20 ∧ vp_in (wi w8 75 18) (ln w8 (wr w8 75 5))) ((f6_in (wi w8 (wr w8 75 5) ((wi w8 75 18)).toNatClampNeg) (97 : Int32) (122 : Int32) w8).bind fun z12 => (if z12.1 = (0 : Int32) then ((f6_in (wi w8 (wr w8 75 5) ((wi w8 75 18)).toNatClampNeg) (48 : Int32) (57 : Int32) z12.2).bind fun z16 => (if z16.1 = (0 : Int32) then (j6_next_390 75 (cvT (tkS (wi w8 (wr w8 75 5) ((wi w8 75 18)).toNatClampNeg))) 75 z16.2) else (loopF (b6_next_230) FU (75, (0 : Int32)) z16.2))) else (loopF (b6_next_103) FU 75 z12.2)))))) (sI (sI (sI w 75 19 (nI p)) 75 20 0) 75 21 0) := by
    unfold j6_next_52 lw
    rw [ck_pos h.1.t, h.2.2.2.2.1]
    simp only [fun b w => (sign_r (b := b) (w := w) (x0 := 75)).1]
  rw [hd]
  generalize sI (sI (sI w 75 19 (nI p)) 75 20 0) 75 21 0 = w8 at hF k18 k19 k20 k21 hM ⊢
  dsimp only
  rw [k18, hM.2.1.1]
  by_cases he : p = l.length
  · rw [if_pos (by rw [he])]
    refine ⟨w8, rfl, p, hM, hb, hF, fun _ => ⟨k20, by rw [k19, he], tkF_end (by omega)⟩, fun t b r e => ?_⟩
    rw [tkF_end (by omega)] at e
    cases e
  have hlt : p < l.length := by omega
  obtain ⟨t1, t2, t3, t4⟩ := tk_tok hlt hb (hn hlt)
  obtain ⟨g1, g2, g3⟩ := hM.at80 hlt
  have fin : ∀ w', MS l n w' (endT l p) → NF w8 w' → wi w' 75 19 = nI p → TV (tkT l p) w' → NR l n p w w' := by
    intro w' f1 f2 f3 f4
    refine ⟨endT l p, f1, t2, hF.tr f2, fun e => ?_, fun t b r e => ?_⟩
    · rw [t1] at e
      cases e
    · rw [t1] at e
      injection e with e1 e2
      injection e1 with e3 e4
      rw [← e3, ← e4]
      exact ⟨f3, f4, e2⟩
  rw [if_neg (fun z => he (nI_inj (by omega) (by omega) z)), hM.1.r5, ck_pos g1, g2, g3, in_let, Option.bind_some]
  dsimp only
  rw [if10]
  by_cases h1 : letB (byI l p) = true
  · rw [if_pos h1]
    obtain ⟨w', q1, q2, q3, q4, q5⟩ := word_r hM k19
    have e : endT l p = runE letB l p := by unfold endT; rw [if_pos h1]
    refine ⟨w', q1, fin w' (by rw [e]; exact q2) q3 q4 ?_⟩
    unfold tkT
    rw [if_pos h1, e]
    exact q5
  rw [if_neg h1, in_dig, Option.bind_some]
  dsimp only
  rw [if10]
  by_cases h2 : digB (byI l p) = true
  · rw [if_pos h2]
    obtain ⟨w', q1, q2, q3, q4, q5⟩ := num_r hM k19 k21
    have e : endT l p = runE digB l p := by unfold endT; rw [if_neg h1, if_pos h2]
    refine ⟨w', q1, fin w' (by rw [e]; exact q2) q3 q4 ?_⟩
    unfold tkT
    rw [if_neg h1, if_pos h2, e]
    exact q5
  rw [if_neg h2]
  obtain ⟨p1, p2, p3, p4, p5⟩ := put1 (a := cvT (tkS (byI l p))) (k := 20) hM (Or.inl rfl)
  obtain ⟨m1, m2⟩ := at18 p1 hlt
  have e : endT l p = p + 1 := by unfold endT; rw [if_neg h1, if_neg h2]
  refine ⟨sI (sI w8 75 20 (cvT (tkS (byI l p)))) 75 18 (nI (p + 1)), ?_, fin _ (by rw [e]; exact m1) (p2.tr m2) ?_ ?_⟩
  · unfold j6_next_390 lw
    rw [ck_pos hM.1.t]
    show ck (tg (sI w8 75 20 (cvT (tkS (byI l p)))) 75 = 6) (some ((), sI (sI w8 75 20 (cvT (tkS (byI l p)))) 75 18 (wi (sI w8 75 20 (cvT (tkS (byI l p)))) 75 18 + 1))) = _
    rw [ck_pos p1.1.t, p1.2.2.2.2.1, i3_1]
  · rw [wi_sI, if_neg (fun z => absurd z.2 (by decide)), p3, k19]
  · unfold tkT
    rw [if_neg h1, if_neg h2]
    refine ⟨?_, fun z => absurd z (sign_r (b := byI l p) (w := w8) (x0 := 75)).2⟩
    rw [wi_sI, if_neg (fun z => absurd z.2 (by decide)), p4]
theorem next_r {l : List Int32} {n p : Nat} {w : Wd} (h : MS l n w p) (hb : bdT l p) : ∃ w', f6_next 75 w = some ((), w') ∧ NR l n p w w' := by
  have hl := h.2.1.2.1
  have hp := h.2.2.2.2.2
  unfold f6_next
  refine loopI (R := fun o => ∃ w', o = some ((), w') ∧ NR l n p w w') (I := fun i v w2 => v = 75 ∧ MS l n w2 (p + i) ∧ bdT l (p + i) ∧ NF w w2 ∧ tkF l (p + i) = tkF l p) (l.length - p) ?_ FU 0 _ w (by show l.length - p < 1000 + 0; omega) (Nat.zero_le _) ⟨rfl, h, hb, NF.rf, rfl⟩
  intro i v w2 hi hI
  obtain ⟨rfl, i1, i2, i3, i4⟩ := hI
  have ht := i1.1.t
  have fin : (p + i < l.length → byI l (p + i) ≠ 32 ∧ byI l (p + i) ≠ 10) → ∃ w', j6_next_52 75 w2 = some ((), w') ∧ NR l n p w w' := by
    intro hn
    obtain ⟨w', q1, p', q2, q3, q4, q5⟩ := j52_r i1 i2 hn
    rw [i4] at q5
    exact ⟨w', q1, p', q2, q3, i3.tr q4, q5⟩
  by_cases hlt : p + i < l.length
  · obtain ⟨g1, g2, g3⟩ := i1.at80 hlt
    have go : byI l (p + i) = 32 ∨ byI l (p + i) = 10 → (i < l.length - p ∧ ∃ v' w', (v' = 75 ∧ MS l n w' (p + (i + 1)) ∧ bdT l (p + (i + 1)) ∧ NF w w' ∧ tkF l (p + (i + 1)) = tkF l p) ∧ ∀ k, b6_next_0 k 75 w2 = k v' w') := by
      intro hbl
      obtain ⟨t1, t2⟩ := tk_blank hlt hbl
      obtain ⟨m1, m2⟩ := at18 i1 hlt
      refine ⟨by omega, 75, sI w2 75 18 (nI (p + i + 1)), ⟨rfl, m1, t2, i3.tr m2, by rw [← i4, t1]; rfl⟩, fun k => ?_⟩
      have e39 : j6_next_39 k 75 w2 = k 75 (sI w2 75 18 (nI (p + i + 1))) := by
        unfold j6_next_39 lw
        rw [ck_pos ht, i1.2.2.2.2.1, i3_1]
      unfold b6_next_0
      rw [ck_pos ht, i1.2.1.1, i1.2.2.2.2.1, if_neg (nI_ge hlt (by omega)), i1.1.r5, ck_pos g1, g2, g3, e39, ck_pos g1.2]
      by_cases h1 : byI l (p + i) = 32
      · rw [if_pos h1]
      · rw [if_neg h1]
        rcases hbl with z | z
        · exact absurd z h1
        · rw [if_pos z]
    by_cases h1 : byI l (p + i) = 32
    · exact Or.inr (go (Or.inl h1))
    by_cases h2 : byI l (p + i) = 10
    · exact Or.inr (go (Or.inr h2))
    refine Or.inl fun k => ?_
    unfold b6_next_0
    rw [ck_pos ht, i1.2.1.1, i1.2.2.2.2.1, if_neg (nI_ge hlt (by omega)), i1.1.r5, ck_pos g1, g2, g3, if_neg h1, ck_pos g1.2, if_neg h2]
    exact fin fun _ => ⟨h1, h2⟩
  · refine Or.inl fun k => ?_
    unfold b6_next_0
    rw [ck_pos ht, i1.2.1.1, i1.2.2.2.2.1, if_pos (by rw [ile, nI_int (by omega), nI_int (by omega)]; omega)]
    exact fin fun z => absurd z hlt
