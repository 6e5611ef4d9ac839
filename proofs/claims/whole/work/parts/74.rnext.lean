/-! the reference's next token -/
theorem slc_all {P : Int32 → Bool} {l : List Int32} {p : Nat} (hp : p ≤ l.length) : ∀ x ∈ slc l p (runE P l p), P x = true := by
  intro d hd
  have hle := run_le (P := P) (l := l) _ p rfl hp
  obtain ⟨t, ht1, ht2⟩ := List.mem_iff_getElem.mp hd
  rw [slc_len hle.2] at ht1
  have := slc_at (l := l) (a := p) hle.2 ht1
  rw [List.getElem?_eq_getElem (by rw [slc_len hle.2]; exact ht1), ht2] at this
  rw [Option.some.inj this]
  exact run_in _ p rfl _ (by omega) (by omega)
theorem j195_r {x2 s0 : Int32} {w : Wd} (h : tg w 75 = 6) : j6_next_195 75 x2 s0 75 w = some ((), sI (sI w 75 20 s0) 75 21 (if 3 ≤ x2 then x2 - 3 else x2)) := by
  have h2 : tg (sI w 75 20 s0) 75 = 6 := h
  unfold j6_next_195 lw
  rw [ck_pos h]
  by_cases h3 : (3 : Int32) ≤ x2
  · rw [if_pos h3]
    show (if (3 : Int32) ≤ x2 then ck (tg (sI w 75 20 s0) 75 = 6) (some ((), sI (sI w 75 20 s0) 75 21 (x2 - 3))) else ck (tg (sI w 75 20 s0) 75 = 6) (some ((), sI (sI w 75 20 s0) 75 21 x2))) = _
    rw [if_pos h3, ck_pos h2]
  · rw [if_neg h3]
    show (if (3 : Int32) ≤ x2 then ck (tg (sI w 75 20 s0) 75 = 6) (some ((), sI (sI w 75 20 s0) 75 21 (x2 - 3))) else ck (tg (sI w 75 20 s0) 75 = 6) (some ((), sI (sI w 75 20 s0) 75 21 x2))) = _
    rw [if_neg h3, ck_pos h2]
/-- token and value are put -/
theorem put2 {l : List Int32} {n p : Nat} {w : Wd} {a b : Int32} (h : MS l n w p) : MS l n (sI (sI w 75 20 a) 75 21 b) p ∧ NF w (sI (sI w 75 20 a) 75 21 b) ∧ wi (sI (sI w 75 20 a) 75 21 b) 75 19 = wi w 75 19 ∧ wi (sI (sI w 75 20 a) 75 21 b) 75 20 = a ∧ wi (sI (sI w 75 20 a) 75 21 b) 75 21 = b := by
  have hF : NF w (sI (sI w 75 20 a) 75 21 b) := (nfI ⟨by decide, by decide⟩).tr (nfI ⟨by decide, by decide⟩)
  refine ⟨h.nf hF ?_ h.2.2.2.2.2, hF, ?_, ?_, wi_at _ _ _ _⟩
  · rw [wi_sI, if_neg (fun z => absurd z.2 (by decide)), wi_sI, if_neg (fun z => absurd z.2 (by decide))]
    exact h.2.2.2.2.1
  · rw [wi_sI, if_neg (fun z => absurd z.2 (by decide)), wi_sI, if_neg (fun z => absurd z.2 (by decide))]
  · rw [wi_sI, if_neg (fun z => absurd z.2 (by decide)), wi_at]
def TV (t : Int32) (w : Wd) : Prop := wi w 75 20 = cvT t ∧ (isVK t → wi w 75 21 = cvV t)
theorem j146_r {l : List Int32} {n a q : Nat} {w : Wd} (h : MS l n w q) (h19 : wi w 75 19 = nI a) (ha : a ≤ q) (hs : ∀ x ∈ slc l a q, letB x = true) : ∃ w', j6_next_146 75 w = some ((), w') ∧ MS l n w' q ∧ NF w w' ∧ wi w' 75 19 = nI a ∧ TV (tkW (slc l a q)) w' := by
  obtain ⟨r, e, hx⟩ := wordFrom_r h ha h.2.2.2.2.2 hs
  have ht := h.1.t
  unfold j6_next_146
  rw [ck_pos ht, h19, h.2.2.2.2.1, e, Option.bind_some]
  dsimp only
  rcases hx with ⟨h12, es⟩ | ⟨h12, hn⟩
  · obtain ⟨c1, c2, c3⟩ := wcode r h12
    rw [← es] at c1 c2 c3
    by_cases r3 : r < 3
    · rw [if_neg (show ¬ (3 : Int32) ≤ nI r from nI_ge (b := 3) r3 (by omega)), j195_r ht, if_neg (show ¬ (3 : Int32) ≤ nI r from nI_ge (b := 3) r3 (by omega))]
      obtain ⟨p1, p2, p3, p4, p5⟩ := put2 (a := 3) (b := nI r) h
      refine ⟨_, rfl, p1, p2, by rw [p3, h19], by rw [p4, c1, if_pos r3], fun _ => by rw [p5, c2 (by omega), if_pos r3]⟩
    · have g3 : (3 : Int32) ≤ nI r := by rw [ile, nI_int (by omega), show (3 : Int32).toInt = 3 from rfl]; omega
      by_cases r9 : r < 9
      · rw [if_pos g3, if_neg (show ¬ (9 : Int32) ≤ nI r from nI_ge (b := 9) r9 (by omega)), j195_r ht, if_pos g3]
        obtain ⟨p1, p2, p3, p4, p5⟩ := put2 (a := 2) (b := nI r - 3) h
        refine ⟨_, rfl, p1, p2, by rw [p3, h19], by rw [p4, c1, if_neg r3, if_pos r9], fun _ => by rw [p5, c2 r9, if_neg r3]⟩
      · have g9 : (9 : Int32) ≤ nI r := by rw [ile, nI_int (by omega), show (9 : Int32).toInt = 9 from rfl]; omega
        rw [if_pos g3, if_pos g9, if_neg (fun z => by have := nI_inj (a := r) (b := 12) (by omega) (by omega) z; omega), j195_r ht]
        obtain ⟨p1, p2, p3, p4, p5⟩ := put2 (a := 4 + nI r - 9) (b := if 3 ≤ nI r then nI r - 3 else nI r) h
        obtain ⟨k1, k2, k3, k4⟩ := c3 (by omega)
        refine ⟨_, rfl, p1, p2, by rw [p3, h19], by rw [p4, c1, if_neg r3, if_neg r9, ← nI_add]; rfl, fun z => ?_⟩
        rcases z with z | z | z | z
        · exact absurd z k1
        · exact absurd z k2
        · exact absurd z k3
        · exact absurd z k4
  · subst h12
    rw [if_pos (by decide), if_pos (by decide), if_pos (by decide), j195_r ht]
    obtain ⟨p1, p2, p3, p4, p5⟩ := put2 (a := -1) (b := if 3 ≤ nI 12 then nI 12 - 3 else nI 12) h
    refine ⟨_, rfl, p1, p2, by rw [p3, h19], by rw [p4, wnone hn]; decide, fun z => ?_⟩
    rw [wnone hn] at z
    exact absurd z (by unfold isVK; decide)
theorem at18 {l : List Int32} {n p : Nat} {w : Wd} (h : MS l n w p) (hp : p < l.length) : MS l n (sI w 75 18 (nI (p + 1))) (p + 1) ∧ NF w (sI w 75 18 (nI (p + 1))) :=
  ⟨h.nf (nfI ⟨by decide, by decide⟩) (wi_at _ _ _ _) hp, nfI ⟨by decide, by decide⟩⟩
theorem word_r {l : List Int32} {n p : Nat} {w : Wd} (h : MS l n w p) (h19 : wi w 75 19 = nI p) : ∃ w', loopF b6_next_103 FU 75 w = some ((), w') ∧ MS l n w' (runE letB l p) ∧ NF w w' ∧ wi w' 75 19 = nI p ∧ TV (tkW (slc l p (runE letB l p))) w' := by
  have hl := h.2.1.2.1
  have hp := h.2.2.2.2.2
  refine loopI (R := fun o => ∃ w', o = some ((), w') ∧ MS l n w' (runE letB l p) ∧ NF w w' ∧ wi w' 75 19 = nI p ∧ TV (tkW (slc l p (runE letB l p))) w') (I := fun i v w2 => v = 75 ∧ MS l n w2 (p + i) ∧ NF w w2 ∧ wi w2 75 19 = nI p ∧ runE letB l (p + i) = runE letB l p) (l.length - p) ?_ FU 0 _ w (by show l.length - p < 1000 + 0; omega) (Nat.zero_le _) ⟨rfl, h, NF.rf, h19, rfl⟩
  intro i v w2 hi hI
  obtain ⟨rfl, i1, i2, i3, i4⟩ := hI
  have ht := i1.1.t
  have fin : runE letB l p = p + i → (∃ w', j6_next_146 75 w2 = some ((), w') ∧ MS l n w' (runE letB l p) ∧ NF w w' ∧ wi w' 75 19 = nI p ∧ TV (tkW (slc l p (runE letB l p))) w') := by
    intro e
    rw [e]
    obtain ⟨w', q1, q2, q3, q4, q5⟩ := j146_r i1 i3 (by omega) (by rw [← e]; exact slc_all hp)
    exact ⟨w', q1, q2, i2.tr q3, q4, q5⟩
  by_cases hlt : p + i < l.length
  · obtain ⟨g1, g2, g3⟩ := i1.at80 hlt
    by_cases hb : letB (byI l (p + i)) = true
    · obtain ⟨m1, m2⟩ := at18 i1 hlt
      refine Or.inr ⟨by omega, 75, sI w2 75 18 (nI (p + i + 1)), ⟨rfl, m1, i2.tr m2, ?_, ?_⟩, fun k => ?_⟩
      · rw [wi_sI, if_neg (fun z => absurd z.2 (by decide))]
        exact i3
      · rw [← i4, run_st hlt, if_pos hb]
        rfl
      · unfold b6_next_103 lw
        rw [ck_pos ht, i1.2.1.1, i1.2.2.2.2.1, if_neg (nI_ge hlt (by omega)), i1.1.r5, ck_pos g1, g2, g3, in_let, Option.bind_some]
        dsimp only
        rw [if10, if_pos hb, i1.2.2.2.2.1, i3_1]
    · refine Or.inl fun k => ?_
      unfold b6_next_103
      rw [ck_pos ht, i1.2.1.1, i1.2.2.2.2.1, if_neg (nI_ge hlt (by omega)), i1.1.r5, ck_pos g1, g2, g3, in_let, Option.bind_some]
      dsimp only
      rw [if10, if_neg hb]
      exact fin (by rw [← i4, run_st hlt, if_neg hb])
  · refine Or.inl fun k => ?_
    unfold b6_next_103
    rw [ck_pos ht, i1.2.1.1, i1.2.2.2.2.1, if_pos (by rw [ile, nI_int (by omega), nI_int (by omega)]; omega)]
    exact fin (by rw [← i4, run_end (by omega)])
