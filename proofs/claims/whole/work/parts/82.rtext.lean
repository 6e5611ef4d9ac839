/-! text() of the reference -/
def GT (l : List Int32) (n : Nat) (w : Wd) (ok : Bool) : Prop := ok = (mT (tkV l)).1 ∧ (if ok = true then ∃ c1 d1 d2, mT (tkV l) = (true, [], c1, c1 ++ d1, c1 ++ d1 ++ d2) ∧ RO n w (c1 ++ d1 ++ d2) ∧ wi w 82 (4 * n) = nI 0 ∧ wi w 82 (4 * n + 1) = nI c1.length ∧ wi w 82 (4 * n + 2) = nI (c1 ++ d1).length else wi w 75 19 = nI (plR l (mT (tkV l)).2.1))
theorem ER.no {l : List Int32} {n : Nat} {w : Wd} {r : Bool × List Int32 × List Int32} (h : ER l n w r) (hr : ¬ r.1 = true) : wi w 75 19 = nI (plR l r.2.1) := by
  unfold ER at h
  rw [if_neg hr] at h
  exact h
theorem ER.yes {l : List Int32} {n : Nat} {w : Wd} {r : Bool × List Int32 × List Int32} (h : ER l n w r) (hr : r.1 = true) : ∃ p' K op, At l n w p' K ∧ (K.map fun x => x.1) = r.2.1 ∧ RH n w [] op r.2.2 ∧ r.2.2.length + K.length ≤ 160 := by
  unfold ER at h
  rw [if_pos hr] at h
  exact h
theorem stop_r {w : Wd} {x : Int32} (k : Nat × Int32 × Int32 → Wd → Option (Int32 × Wd)) : b6_text_26 k (75, (0 : Int32), x) w = j6_text_122 75 0 w := by
  have e : j6_text_101 75 0 w = j6_text_122 75 0 w := by
    unfold j6_text_101
    rw [if_pos rfl]
  unfold b6_text_26
  dsimp only
  rw [e]
  by_cases h : (3 : Int32) ≤ x
  · rw [if_pos h]
  · rw [if_neg h, if_pos rfl]
theorem text_go {l : List Int32} {n : Nat} {w : Wd} (hA : At l n w 0 (tkF l 0)) (hO : RO n w []) : ∃ w' ok, loopF b6_text_26 FU (75, (1 : Int32), (0 : Int32)) w = j6_text_122 75 (if ok = true then 1 else 0) w' ∧ TF n w w' ∧ GT l n w' ok := by
  have hl := hA.1.2.1.2.1
  have hL := tkF_len l 0
  have one : ∀ f x2 w, loopF b6_text_26 (f + 1) (75, (0 : Int32), x2) w = j6_text_122 75 0 w := fun f x2 w => stop_r _
  have bad : ∀ w' f, TF n w w' → (mT (tkV l)).1 = false → wi w' 75 19 = nI (plR l (mT (tkV l)).2.1) → ∀ x, ∃ w2 ok, loopF b6_text_26 (f + 1) (75, (0 : Int32), x) w' = j6_text_122 75 (if ok = true then 1 else 0) w2 ∧ TF n w w2 ∧ GT l n w2 ok := by
    intro w' f hF hm h19 x
    refine ⟨w', false, by rw [one, if_neg nft], hF, hm.symm, ?_⟩
    rw [if_neg nft]
    exact h19
  obtain ⟨w1, s1, F1, E1, z1, y1⟩ := part_r (j := 0) (by decide) hA hO (by show 0 + (tkF l 0).length ≤ 160; omega)
  rw [show (10030 : Int32) + nI 0 = 10030 from rfl] at s1 E1
  have b0 : loopF b6_text_26 FU (75, (1 : Int32), (0 : Int32)) w = loopF b6_text_26 999 (75, (if (mP 10030 (tkV l) []).1 = true then (1 : Int32) else 0), nI 1) w1 := s1 _
  have E1' : ER l n w1 (mP 10030 (tkV l) []) := E1
  rw [b0]
  by_cases r1 : (mP 10030 (tkV l) []).1 = true
  · rw [if_pos r1]
    have m1 : mP 10030 (tkV l) [] = (true, (mP 10030 (tkV l) []).2.1, (mP 10030 (tkV l) []).2.2) := Prod.ext r1 rfl
    obtain ⟨p1, K1, op1, A1, hK1, R1, L1⟩ := E1'.yes r1
    generalize (mP 10030 (tkV l) []).2.1 = t1 at m1 hK1
    generalize (mP 10030 (tkV l) []).2.2 = c1 at m1 R1 L1
    obtain ⟨w2, s2, F2, E2, z2, y2⟩ := part_r (j := 1) (by decide) A1 R1.ro L1
    rw [show (10030 : Int32) + nI 1 = 10031 from rfl, hK1] at s2 E2
    have b1 : loopF b6_text_26 999 (75, (1 : Int32), nI 1) w1 = loopF b6_text_26 998 (75, (if (mP 10031 t1 c1).1 = true then (1 : Int32) else 0), nI 2) w2 := s2 _
    rw [b1]
    by_cases r2 : (mP 10031 t1 c1).1 = true
    · rw [if_pos r2]
      have m2 : mP 10031 t1 c1 = (true, (mP 10031 t1 c1).2.1, (mP 10031 t1 c1).2.2) := Prod.ext r2 rfl
      obtain ⟨p2, K2, op2, A2, hK2, R2, L2⟩ := E2.yes r2
      obtain ⟨d1, hd1⟩ := mP_app 10031 t1 c1
      generalize (mP 10031 t1 c1).2.1 = t2 at m2 hK2
      rw [hd1] at m2 R2 L2
      obtain ⟨w3, s3, F3, E3, z3, y3⟩ := part_r (j := 2) (by decide) A2 R2.ro L2
      rw [show (10030 : Int32) + nI 2 = 10032 from rfl, hK2] at s3 E3
      have b2 : loopF b6_text_26 998 (75, (1 : Int32), nI 2) w2 = loopF b6_text_26 997 (75, (if (mP 10032 t2 (c1 ++ d1)).1 = true then (1 : Int32) else 0), nI 3) w3 := s3 _
      rw [b2]
      by_cases r3 : (mP 10032 t2 (c1 ++ d1)).1 = true
      · rw [if_pos r3]
        have m3 : mP 10032 t2 (c1 ++ d1) = (true, (mP 10032 t2 (c1 ++ d1)).2.1, (mP 10032 t2 (c1 ++ d1)).2.2) := Prod.ext r3 rfl
        obtain ⟨p3, K3, op3, A3, hK3, R3, L3⟩ := E3.yes r3
        obtain ⟨d2, hd2⟩ := mP_app 10032 t2 (c1 ++ d1)
        generalize (mP 10032 t2 (c1 ++ d1)).2.1 = t3 at m3 hK3
        rw [hd2] at m3 R3 L3
        have hm := mT_3 m1 m2 m3
        obtain ⟨w4, e4, p4, M4, B4, N4, T0, TC⟩ := next_r A3.1 A3.2.1
        have F4 : TF n w w4 := ((F1.tr F2).tr F3).tr (N4.ef (n := n)).tf
        have g82 : ∀ i, wi w4 82 i = wi w3 82 i := (N4.1.2.2 82 (by decide)).1
        have fin : loopF b6_text_26 997 (75, (1 : Int32), nI 3) w3 = (if wi w4 75 20 = 0 then j6_text_122 75 1 w4 else j6_text_122 75 0 w4) := by
          show b6_text_26 (loopF b6_text_26 996) _ w3 = _
          unfold b6_text_26 j6_text_101 j6_text_121
          dsimp only
          rw [if_pos (show (3 : Int32) ≤ nI 3 by decide), if_neg n10, ck_pos A3.1.1.t, e4, Option.bind_some]
        rw [fin]
        cases K3 with
        | nil =>
          have ht3 : t3 = [] := hK3.symm
          rw [ht3] at hm
          obtain ⟨t20, t19, _⟩ := T0 A3.2.2.1
          refine ⟨w4, true, by rw [if_pos t20, if_pos rfl], F4, by rw [hm]; rfl, ?_⟩
          rw [if_pos rfl]
          refine ⟨c1, d1, d2, hm, R3.ro.nf N4, ?_, ?_, ?_⟩
          · rw [g82, y3 _ (by omega), y2 _ (by omega)]
            exact z1
          · rw [g82, y3 _ (by omega)]
            exact z2
          · rw [g82]
            exact z3
        | cons tb r =>
          obtain ⟨t, b⟩ := tb
          obtain ⟨t19, ⟨t20, t21⟩, tr⟩ := TC t b r A3.2.2.1
          obtain ⟨pre, hpre⟩ := A3.2.2.2
          obtain ⟨_, _, _, _, _, _, _, _, c0, _⟩ := cvF t
          have ht3 : t3 = t :: r.map fun x => x.1 := hK3.symm
          rw [ht3] at hm
          refine ⟨w4, false, by rw [if_neg (show ¬ wi w4 75 20 = 0 by rw [t20]; exact c0), if_neg nft], F4, by rw [hm]; rfl, ?_⟩
          rw [if_neg nft, hm]
          show _ = nI (plR l (t :: r.map fun x => x.1))
          rw [pl_cons hpre rfl]
          exact t19
      · rw [if_neg r3]
        have hm := mT_f3 m1 m2 (by simpa using r3)
        exact bad w3 996 ((F1.tr F2).tr F3) (by rw [hm]) (by rw [hm]; exact E3.no r3) _
    · rw [if_neg r2]
      have hm := mT_f2 m1 (by simpa using r2)
      exact bad w2 997 (F1.tr F2) (by rw [hm]) (by rw [hm]; exact E2.no r2) _
  · rw [if_neg r1]
    have hm := mT_f1 (ts := tkV l) (by simpa using r1)
    exact bad w1 998 F1 (by rw [hm]) (by rw [hm]; exact E1'.no r1) _
