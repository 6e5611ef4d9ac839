/-! unwinds, between, the sign -/
theorem un_go (r : Nat) (hr : 1 ≤ r) (hr7 : r ≤ 7) (n : Nat) : ∀ (h : List Int32) (f : Nat) (w : Wd) (op : Nat) (out : List Int32), RH n w h op out → nU (pop r h).1 ≤ op → h.length < f → ∃ w', loopF b6_unwinds_0 f (75, nI r) w = some ((), w') ∧ RH n w' (pop r h).2 (op - nU (pop r h).1) (out ++ (pop r h).1) ∧ HF n w w'
  | [], f, w, op, out, hR, hu, hf => by
    obtain ⟨f, rfl⟩ : ∃ g, f = g + 1 := ⟨f - 1, by have : (0 : Nat) < f := hf; omega⟩
    refine ⟨w, ?_, by rw [show (pop r []).1 = [] from rfl, List.append_nil]; exact hR, HF.rf⟩
    show b6_unwinds_0 (loopF b6_unwinds_0 f) _ w = _
    unfold b6_unwinds_0
    dsimp only
    rw [ck_pos hR.1.1.t, hR.2.1.1, if_pos (by decide)]
  | x :: h, f, w, op, out, hR, hu, hf => by
    rw [List.length_cons] at hf
    obtain ⟨f, rfl⟩ : ∃ g, f = g + 1 := ⟨f - 1, by omega⟩
    obtain ⟨t1, t2, t3⟩ := top90 hR
    have a1 := hR.1.1
    have b1 := hR.2.1.1
    rw [List.length_cons] at b1
    obtain ⟨k1, k2, k3, k4, k5, k6⟩ := rk7 t2
    have body0 : loopF b6_unwinds_0 (f + 1) (75, nI r) w = (if nI (rkC x) < nI r then (some ((), w)) else (fun w8 => (ck (tg w8 (wr w8 75 23) = 20 ∧ vp_in (wi w8 75 24) (ln w8 (wr w8 75 23))) (if (wi w8 (wr w8 75 23) ((wi w8 75 24)).toNatClampNeg) = (13 : Int32) then (j6_unwinds_62 (loopF b6_unwinds_0 f) 75 (nI r) (wi w8 (wr w8 75 23) ((wi w8 75 24)).toNatClampNeg) (wi w8 75 25) 75 w8) else (if (wi w8 (wr w8 75 23) ((wi w8 75 24)).toNatClampNeg) = (19 : Int32) then (j6_unwinds_62 (loopF b6_unwinds_0 f) 75 (nI r) (wi w8 (wr w8 75 23) ((wi w8 75 24)).toNatClampNeg) (wi w8 75 25) 75 w8) else (j6_unwinds_67 (loopF b6_unwinds_0 f) 75 (nI r) (wi w8 (wr w8 75 23) ((wi w8 75 24)).toNatClampNeg) (0 : Int32) (wi w8 75 25) 75 w8))))) (sI w 75 24 (nI h.length))) := by
      show b6_unwinds_0 (loopF b6_unwinds_0 f) _ w = _
      unfold b6_unwinds_0 lw
      dsimp only
      rw [ck_pos a1.t, b1, if_neg (show ¬ nI (h.length + 1) ≤ 0 by rw [ile, nI_int (by omega), show (0 : Int32).toInt = 0 from rfl]; omega), ni1, a1.r23, a1.l23, ck_pos (And.intro a1.t23 (vin (show h.length < 200 by omega) (by decide))), nI_clamp (by omega), t1, rank_r t2, Option.bind_some]
      dsimp only
      rw [b1, ni1]
    rw [body0]
    rw [pop] at hu ⊢
    by_cases hx : r ≤ rkC x
    · rw [if_pos hx] at hu ⊢
      rw [if_neg (show ¬ nI (rkC x) < nI r by rw [ilt, nI_int (by omega), nI_int (by omega)]; omega)]
      have R1 := set24 hR
      have F1 : HF n w (sI w 75 24 (nI h.length)) := hf75 ⟨by decide, by decide⟩
      have t8 : wi (sI w 75 24 (nI h.length)) 90 h.length = hc x := by rw [wi_sI_ne (by decide)]; exact t1
      generalize sI w 75 24 (nI h.length) = w8 at R1 F1 t8 ⊢
      dsimp only
      have x0 : x ≠ 0 := fun z => by have := k4 z; omega
      have e67 : ∀ (z : Nat), z ≤ op → nI op - nI z = nI (op - z) → ∃ w9, RH n w9 h (op - z) (out ++ [x]) ∧ HF n w8 w9 ∧ j6_unwinds_67 (loopF b6_unwinds_0 f) 75 (nI r) (hc x) (nI z) (nI op) 75 w8 = loopF b6_unwinds_0 f (75, nI r) w9 := by
        intro z hz ez
        have R2 := set25 R1 (op' := op - z) (by have := R1.2.2.1.2; omega)
        have hlen := R1.2.2.2.2
        have hlen2 := hR.2.2.2.2
        rw [List.length_cons] at hlen2
        obtain ⟨w9, q1, q2, q3⟩ := puts_r (x := x) R2 (by omega)
        refine ⟨w9, q2, (hf75 ⟨by decide, by decide⟩).tr q3, ?_⟩
        unfold j6_unwinds_67 lw
        rw [ck_pos R1.1.1.t, ez, k2 x0]
        show ck (tg (sI w8 75 25 (nI (op - z))) 75 = 6) ((f6_puts 75 (mcode x) (sI w8 75 25 (nI (op - z)))).bind fun z16 => (loopF b6_unwinds_0 f (75, nI r) z16.2)) = _
        rw [ck_pos R2.1.1.t, q1, Option.bind_some]
      have main : ∀ z, (if x = 10012 ∨ x = 10013 then 1 else 0) = z → ∃ w', j6_unwinds_67 (loopF b6_unwinds_0 f) 75 (nI r) (hc x) (nI z) (nI op) 75 w8 = some ((), w') ∧ RH n w' (pop r h).2 (op - nU (x :: (pop r h).1)) (out ++ x :: (pop r h).1) ∧ HF n w w' := by
        intro z hz
        have hU : nU (x :: (pop r h).1) = z + nU (pop r h).1 := by
          rw [nU, ← hz]
          split <;> omega
        have hu' : nU (x :: (pop r h).1) ≤ op := hu
        have ez : nI op - nI z = nI (op - z) := by
          have o5 := R1.2.2.1.2
          rw [ieq, isub] <;> rw [nI_int (by omega), nI_int (by omega)] <;> (try rw [nI_int (by omega)]) <;> omega
        obtain ⟨w9, q1, q2, q3⟩ := e67 z (by omega) ez
        obtain ⟨w', s1, s2, s3⟩ := un_go r hr hr7 n h f w9 (op - z) (out ++ [x]) q1 (by omega) (by omega)
        refine ⟨w', by rw [q3, s1], ?_, (F1.tr q2).tr s3⟩
        rw [hU, Nat.sub_add_eq]
        rw [List.append_assoc] at s2
        exact s2
      rw [R1.1.1.r23, R1.2.1.1, R1.1.1.l23, ck_pos (And.intro R1.1.1.t23 (vin (show h.length < 200 by omega) (by decide))), nI_clamp (by omega), t8, R1.2.2.1.1]
      by_cases e12 : x = 10012
      · obtain ⟨w', m1, m2⟩ := main 1 (by rw [if_pos (Or.inl e12)])
        refine ⟨w', ?_, m2⟩
        rw [if_pos (k5.mpr e12)]
        exact m1
      · rw [if_neg (fun z => e12 (k5.mp z))]
        by_cases e13 : x = 10013
        · obtain ⟨w', m1, m2⟩ := main 1 (by rw [if_pos (Or.inr e13)])
          refine ⟨w', ?_, m2⟩
          rw [if_pos (k6.mpr e13)]
          exact m1
        · obtain ⟨w', m1, m2⟩ := main 0 (by rw [if_neg (fun z => z.elim e12 e13)])
          refine ⟨w', ?_, m2⟩
          rw [if_neg (fun z => e13 (k6.mp z))]
          exact m1
    · rw [if_neg hx] at hu ⊢
      rw [if_pos (show nI (rkC x) < nI r by rw [ilt, nI_int (by omega), nI_int (by omega)]; omega)]
      refine ⟨w, rfl, ?_, HF.rf⟩
      show RH n w (x :: h) (op - 0) (out ++ [])
      rw [List.append_nil]
      exact hR
theorem unwinds_r {r n op : Nat} {w : Wd} {h out : List Int32} (hr : 1 ≤ r) (hr7 : r ≤ 7) (hR : RH n w h op out) (hu : nU (pop r h).1 ≤ op) : ∃ w', f6_unwinds 75 (nI r) w = some ((), w') ∧ RH n w' (pop r h).2 (op - nU (pop r h).1) (out ++ (pop r h).1) ∧ HF n w w' := by
  have := hR.2.2.2.2
  exact un_go r hr hr7 n h FU w op out hR hu (by show h.length < 1000; omega)
theorem opens_r {n op : Nat} {w : Wd} {h out : List Int32} {x : Int32} (hR : RH n w h op out) (hx : okH x) (hb : h.length + out.length < 160) : (op = 5 → f6_opensOne 75 (hc x) w = some (0, w)) ∧ (op ≠ 5 → ∃ w', f6_opensOne 75 (hc x) w = some (1, w') ∧ RH n w' (x :: h) (op + 1) out ∧ HF n w w') := by
  have a1 := hR.1.1
  have o5 := hR.2.2.1.2
  refine ⟨fun h5 => ?_, fun h5 => ?_⟩
  · unfold f6_opensOne
    rw [ck_pos a1.t, hR.2.2.1.1, h5, if_pos (show nI 5 = 5 from rfl)]
  · have R2 := set25 hR (op' := op + 1) (by omega)
    obtain ⟨w', q1, q2, q3⟩ := holds_r R2 hx hb
    refine ⟨w', ?_, q2, (hf75 ⟨by decide, by decide⟩).tr q3⟩
    unfold f6_opensOne lw
    rw [ck_pos a1.t, hR.2.2.1.1, if_neg (show ¬ nI op = 5 from fun z => h5 (nI_inj (a := op) (b := 5) (by omega) (by omega) z)), i3_1]
    dsimp only
    rw [q1, Option.bind_some]
theorem sg_ok {t : Int32} (h : isSg t) : okH t ∧ 1 ≤ rSg t ∧ rSg t ≤ 7 ∧ hc t = mcode t ∧ (rkC t = 4 → rSg t = 5) ∧ (rkC t ≠ 4 → rSg t = rkC t) ∧ ¬ (t = 0 ∨ t = 10012 ∨ t = 10013) ∧ mcode t ≠ -1 ∧ ((12 : Int32) < mcode t ↔ ¬ (t = 10010 ∨ t = 10011)) := by
  rcases h with rfl | rfl | rfl | rfl | rfl | rfl | rfl <;> exact ⟨by unfold okH; decide, by decide⟩
theorem between_r {n op : Nat} {w : Wd} {h out : List Int32} {t : Int32} (hR : RH n w h op out) (ht : isSg t) (hu : nU (pop (rSg t) h).1 ≤ op) (hb : h.length + out.length < 160) : ∃ w', HF n w w' ∧ f6_between 75 (mcode t) w = some (if rkC t = 4 ∧ top4 (pop (rSg t) h).2 = true then 0 else 1, w') ∧ (¬ (rkC t = 4 ∧ top4 (pop (rSg t) h).2 = true) → RH n w' (t :: (pop (rSg t) h).2) (op - nU (pop (rSg t) h).1) (out ++ (pop (rSg t) h).1)) := by
  obtain ⟨s1, s2, s3, s4, s5, s6, s7, s8, s9⟩ := sg_ok ht
  obtain ⟨w1, a1, a2, a3⟩ := unwinds_r s2 s3 hR hu
  have hl := pop_len (rSg t) h
  obtain ⟨w2, b1, b2, b3⟩ := holds_r a2 s1 (by rw [List.length_append]; omega)
  have e55 : j6_between_55 75 (mcode t) w1 = some (1, w2) := by
    unfold j6_between_55
    rw [ck_pos a2.1.1.t, ← s4, b1, Option.bind_some]
  have e17 : f6_between 75 (mcode t) w = j6_between_17 75 (mcode t) (nI (rSg t)) 75 w := by
    unfold f6_between
    rw [← s4, rank_r s1, Option.bind_some]
    dsimp only
    by_cases h4 : rkC t = 4
    · rw [h4, if_pos (by decide), s5 h4]
      rfl
    · have := (rk7 s1).1
      rw [if_neg (show ¬ nI (rkC t) = 4 from fun z => h4 (nI_inj (a := rkC t) (b := 4) (by omega) (by omega) z)), rank_r s1, Option.bind_some, s6 h4]
  rw [e17]
  unfold j6_between_17
  rw [ck_pos hR.1.1.t, a1, Option.bind_some]
  dsimp only
  rw [← s4, rank_r s1, Option.bind_some, s4]
  dsimp only
  by_cases h4 : rkC t = 4
  · rw [h4, if_pos (by decide), ck_pos a2.1.1.t]
    cases hp : (pop (rSg t) h).2 with
    | nil =>
      rw [hp] at a2 b2
      rw [a2.2.1.1, if_pos (by decide), e55]
      refine ⟨w2, a3.tr b3, by rw [if_neg (fun z => absurd z.2 (by decide))], fun _ => b2⟩
    | cons y q =>
      rw [hp] at a2 b2
      obtain ⟨t1, t2, t3⟩ := top90 a2
      have c1 := a2.2.1.1
      have y1 := (rk7 t2).1
      rw [List.length_cons] at c1
      rw [c1, if_neg (show ¬ nI (q.length + 1) ≤ 0 by rw [ile, nI_int (by omega), show (0 : Int32).toInt = 0 from rfl]; omega), ni1, a2.1.1.r23, a2.1.1.l23, ck_pos (And.intro a2.1.1.t23 (vin (show q.length < 200 by omega) (by decide))), nI_clamp (by omega), t1, rank_r t2, Option.bind_some]
      dsimp only
      by_cases y4 : rkC y = 4
      · have : top4 (y :: q) = true := by show (rkC y == 4) = true; rw [y4]; rfl
        rw [y4, if_pos (by decide)]
        exact ⟨w1, a3, by rw [if_pos ⟨rfl, this⟩], fun z => absurd ⟨rfl, this⟩ z⟩
      · have : ¬ top4 (y :: q) = true := by show ¬ (rkC y == 4) = true; simpa using y4
        rw [if_neg (show ¬ nI (rkC y) = 4 from fun z => y4 (nI_inj (a := rkC y) (b := 4) (by omega) (by omega) z)), e55]
        exact ⟨w2, a3.tr b3, by rw [if_neg (fun z => this z.2)], fun _ => b2⟩
  · have := (rk7 s1).1
    rw [if_neg (show ¬ nI (rkC t) = 4 from fun z => h4 (nI_inj (a := rkC t) (b := 4) (by omega) (by omega) z)), e55]
    exact ⟨w2, a3.tr b3, by rw [if_neg (fun z => h4 z.1)], fun _ => b2⟩
