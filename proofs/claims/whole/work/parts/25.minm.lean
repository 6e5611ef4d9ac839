/-! the reference's minute is the same -/
theorem ModC.setB {w : Wd} {many t b j : Nat} {x : Int32} {s : HS} {F B G : List Int32} (h : ModC w many t s F B G) (hb : b < many) (hj : j < 3) : ModC (sI w 78 (3 * b + j) x) many t (s.1, upR s.2 b (setr (s.2 b) (j + 2) x)) F B G := by
  obtain ⟨a1, a2, a3, a4, a5, a6, ⟨p1, p2, p3, p4, p5, p6, p7⟩, a8, a9⟩ := h
  have n1 : ∀ a k, a ≠ 78 → wi (sI w 78 (3 * b + j) x) a k = wi w a k := fun a k ha => wi_sI_ne ha k
  refine ⟨a1.fr (P := (· = 78)) (Fr.sI rfl) (by decide), by rw [n1 _ _ (by decide)]; exact a2, a3, fun k hk => by rw [n1 _ _ (by decide)]; exact a4 k hk, fun b' hb' => ?_, by rw [n1 _ _ (by decide)]; exact a6, ⟨p1, ?_⟩, a8, a9⟩
  · obtain ⟨r0, r1, r2, r3, r4⟩ := a5 b' hb'
    rw [n1 76 _ (by decide), n1 77 _ (by decide), wi_sI, wi_sI, wi_sI]
    show wi w 76 b' = upR s.2 b (setr (s.2 b) (j + 2) x) b' 0 ∧ wi w 77 b' = upR s.2 b (setr (s.2 b) (j + 2) x) b' 1 ∧ _ = upR s.2 b (setr (s.2 b) (j + 2) x) b' 2 ∧ _ = upR s.2 b (setr (s.2 b) (j + 2) x) b' 3 ∧ _ = upR s.2 b (setr (s.2 b) (j + 2) x) b' 4
    unfold upR setr
    by_cases e : b' = b
    · subst e
      rcases (by omega : j = 0 ∨ j = 1 ∨ j = 2) with rfl | rfl | rfl <;> simp [r0, r1, r2, r3, r4]
    · simp only [if_neg e]
      rw [if_neg (show ¬ (True ∧ 3 * b' = 3 * b + j) by omega), if_neg (show ¬ (True ∧ 3 * b' + 1 = 3 * b + j) by omega), if_neg (show ¬ (True ∧ 3 * b' + 2 = 3 * b + j) by omega)]
      exact ⟨r0, r1, r2, r3, r4⟩
  · simp only [n1 82 _ (by decide), n1 81 _ (by decide)]
    exact ⟨p2, p3, p4, p5, p6, p7⟩
theorem ModC.setH {w : Wd} {many t k : Nat} {x : Int32} {s : HS} {F B G : List Int32} (h : ModC w many t s F B G) (hk : k < 4) : ModC (sI w 79 k x) many t (setr s.1 k x, s.2) F B G := by
  obtain ⟨a1, a2, a3, a4, a5, a6, ⟨p1, p2, p3, p4, p5, p6, p7⟩, a8, a9⟩ := h
  have n1 : ∀ a k', a ≠ 79 → wi (sI w 79 k x) a k' = wi w a k' := fun a k' ha => wi_sI_ne ha k'
  refine ⟨a1.fr (P := (· = 79)) (Fr.sI rfl) (by decide), by rw [n1 _ _ (by decide)]; exact a2, a3, fun k' hk' => ?_, fun b hb => by rw [n1 _ _ (by decide), n1 _ _ (by decide), n1 _ _ (by decide), n1 _ _ (by decide), n1 _ _ (by decide)]; exact a5 b hb, by rw [n1 _ _ (by decide)]; exact a6, ⟨p1, ?_⟩, a8, a9⟩
  · rw [wi_sI]
    show _ = setr s.1 k x k'
    unfold setr
    by_cases e : k' = k
    · rw [if_pos ⟨rfl, e⟩, if_pos e]
    · rw [if_neg (fun z => e z.2), if_neg e]
      exact a4 k' hk'
  · simp only [n1 82 _ (by decide), n1 81 _ (by decide)]
    exact ⟨p2, p3, p4, p5, p6, p7⟩
theorem lose_rng {x : Int32} (h : rng x 0 99) : rng (loseM x) 0 99 ∧ (if x ≤ 0 then 0 else x - 1) = loseM x := by
  unfold rng at h
  have e : (x - 1).toInt = x.toInt - 1 := isub (by rw [show (1 : Int32).toInt = 1 from rfl]; omega) (by rw [show (1 : Int32).toInt = 1 from rfl]; omega)
  unfold loseM rng
  constructor
  · simp only [ilt, e, show (0 : Int32).toInt = 0 from rfl]
    split
    · rw [e]; omega
    · rw [show (0 : Int32).toInt = 0 from rfl]; omega
  · simp only [ile, ilt, e, show (0 : Int32).toInt = 0 from rfl]
    split <;> split <;> first | omega | rfl | (apply Int32.toInt_inj.mp; rw [e]; rw [show (0 : Int32).toInt = 0 from rfl]; omega)
theorem cool_rng {x c : Int32} {n : Int} (h : rng x 0 999) (hc : c.toInt = n) (hn : 0 < n ∧ n < 10) : rng (if 0 < x - c then x - c else 0) 0 999 ∧ (if c ≤ x then x - c else 0) = (if 0 < x - c then x - c else 0) := by
  unfold rng at h
  have e : (x - c).toInt = x.toInt - n := by rw [isub] <;> omega
  unfold rng
  constructor
  · simp only [ilt, e, show (0 : Int32).toInt = 0 from rfl]
    split
    · rw [e]; omega
    · rw [show (0 : Int32).toInt = 0 from rfl]; omega
  · simp only [ile, ilt, e, hc, show (0 : Int32).toInt = 0 from rfl]
    split <;> split <;> first | omega | rfl | (apply Int32.toInt_inj.mp; rw [e]; rw [show (0 : Int32).toInt = 0 from rfl]; omega)
theorem bnd_rng (v : Int32) : rng (bnd v 0 999) 0 999 := by
  have := bnd_ge (v := v) (lo := 0) (hi := 999) (by decide)
  rw [ile, ile] at this
  exact this
theorem step_rng {sy : Int32 → (Int32 → Int32) → Int32} {many b : Nat} {s : HS} (h : Rg many s) (hb : b < many) : Rg many (stepM sy many s b).1 := by
  obtain ⟨h1, h2, h3⟩ := h
  have up : ∀ r, RowR r → ∀ b', b' < many → RowR (upR s.2 b r b') := fun r hr b' hb' => by
    unfold upR
    split
    · exact hr
    · exact h3 b' hb'
  obtain ⟨g0, g1, g2, g3, g4⟩ := h3 b hb
  unfold stepM
  split
  · exact ⟨h1, h2, up _ ⟨g0, g1, g2, (cool_rng (c := 5) g3 rfl (by decide)).1, g4⟩⟩
  · unfold outM
    dsimp only
    split
    · exact ⟨h1, (lose_rng h2).1, up _ ⟨g0, g1, (show rng 3 0 3 from ⟨by decide, by decide⟩), bnd_rng _, bnd_rng _⟩⟩
    · exact ⟨h1, h2, up _ ⟨g0, g1, g2, bnd_rng _, bnd_rng _⟩⟩
theorem minF_rng {sy : Int32 → (Int32 → Int32) → Int32} {many : Nat} {s : HS} (h : Rg many s) : ∀ b, b ≤ many → Rg many (minF sy many s b).1
  | 0, _ => h
  | b + 1, hb => by
    rw [minF_succ]
    exact step_rng (minF_rng h b (by omega)) (by omega)
theorem min_rng {sy : Int32 → (Int32 → Int32) → Int32} {many : Nat} {s : HS} (h : Rg many s) : Rg many (minM sy many s) := by
  obtain ⟨h1, h2, h3⟩ := minF_rng (sy := sy) h many (Nat.le_refl _)
  exact ⟨(cool_rng (c := 2) h1 rfl (by decide)).1, (lose_rng h2).1, h3⟩
theorem rowOut {r : Nat → Int32} (h : RowR r) : RowR (setr r 2 3) := by
  obtain ⟨h0, h1, h2, h3, h4⟩ := h
  have e0 : setr r 2 3 0 = r 0 := rfl
  have e1 : setr r 2 3 1 = r 1 := rfl
  have e2 : setr r 2 3 2 = 3 := rfl
  have e3 : setr r 2 3 3 = r 3 := rfl
  have e4 : setr r 2 3 4 = r 4 := rfl
  unfold RowR
  rw [e0, e1, e2, e3, e4]
  exact ⟨h0, h1, ⟨by decide, by decide⟩, h3, h4⟩
theorem upR_row {ba : Nat → Nat → Int32} {many b : Nat} {r : Nat → Int32} (h : ∀ b, b < many → RowR (ba b)) (hr : RowR r) : ∀ b', b' < many → RowR (upR ba b r b') := by
  intro b' hb'
  unfold upR
  split
  · exact hr
  · exact h b' hb'
/-- what a minute writes -/
def MP (q : Nat) : Prop := q = 91 ∨ q = 92 ∨ q = 78 ∨ q = 79
theorem less_ref {w : Wd} {many t : Nat} {s : HS} {F B G : List Int32} (h : ModC w many t s F B G) (hr : Rg many s) : f6_lessSteam 75 w = some ((), sI w 79 2 (loseM (s.1 2))) := by
  have h' := id h
  obtain ⟨a1, a2, a3, a4, a5, a6, a7, a8, a9⟩ := h'
  have e := (lose_rng hr.2.1).2
  unfold f6_lessSteam
  simp only [a1.t, a1.r1, a1.t1, a1.l1, a1.r2, a1.t2, a1.l2, a1.r3, a1.t3, a1.l3, a1.r4, a1.t4, a1.l4, a1.r5, a1.t5, a1.l5, a1.r7, a1.t7, a1.l7, a1.r8, a1.t8, a1.l8, a1.r12, a1.t12, a1.l12, a1.r13, a1.t13, a1.l13, a1.r14, a1.t14, a1.l14, a1.r15, a1.t15, a1.l15, a1.r16, a1.t16, a1.l16, a1.r17, a1.t17, a1.l17, a1.r22, a1.t22, a1.l22, a1.r23, a1.t23, a1.l23, a1.r27, a1.t27, a1.l27, a1.r28, a1.t28, a1.l28, a1.r29, a1.t29, a1.l29, lw, tg_sI, tg_sR, ln_sI, ln_sR, wr_sI, wi_sR, sh_sI, sh_sR, ck_true, true_and, and_true, and_self, Option.bind_some, cl0, cl1, cl2, cl3, cl4, cl5, v0_2, v1_2, v0_4, v1_4, v2_4, v3_4, v0_6, v1_6, v2_6, v3_6, v4_6, v5_6, v0_200, a4 2 (by decide)]
  split
  · rename_i h1
    rw [if_pos h1] at e
    rw [e]
  · rename_i h1
    rw [if_neg h1] at e
    rw [e]
theorem out_ref {w : Wd} {many t b : Nat} {s : HS} {F B G : List Int32} (h : ModC w many t s F B G) (hr : Rg many s) (hb : b < many) :
    ∃ w', f6_goesOut 75 (nI b) w = some ((if (outM (syM F B G) many s b).2 = true then 1 else 0), w') ∧ Fr MP w w' ∧ ModC w' many t (outM (syM F B G) many s b).1 F B G := by
  have hmany : many ≤ 6 := h.2.2.1
  have j78 : MP 78 := Or.inr (Or.inr (Or.inl rfl))
  have j79 : MP 79 := Or.inr (Or.inr (Or.inr rfl))
  have jm : ∀ q, JM q → MP q := fun q hq => hq.elim Or.inl (fun z => Or.inr (Or.inl z))
  obtain ⟨cb, c0, c1, c2, vb, v0, v1, v2⟩ := idx6 (b := b) (by omega)
  obtain ⟨w1, p1, p2, p3⟩ := feels_ref h hr hb
  obtain ⟨w2, q1, q2, q3⟩ := glad_ref p3 hr hb
  have s3 := q3.setB (j := 1) (x := bnd (s.2 b 3 + feelsM (syM F B G) s.1 (s.2 b)) 0 999) hb (by decide)
  have s4 := s3.setB (j := 2) (x := bnd (s.2 b 4 + gladM (syM F B G) s.1 (s.2 b) (nI (inN s.2 many))) 0 999) hb (by decide)
  dsimp only at s4
  rw [upR_at, upR_up] at s4
  have hr1' : RowR (setr (setr (s.2 b) 3 (bnd (s.2 b 3 + feelsM (syM F B G) s.1 (s.2 b)) 0 999)) 4 (bnd (s.2 b 4 + gladM (syM F B G) s.1 (s.2 b) (nI (inN s.2 many))) 0 999)) := by
    obtain ⟨g0, g1, g2, g3, g4⟩ := hr.2.2 b hb
    exact ⟨g0, g1, g2, bnd_rng _, bnd_rng _⟩
  generalize hr1 : setr (setr (s.2 b) 3 (bnd (s.2 b 3 + feelsM (syM F B G) s.1 (s.2 b)) 0 999)) 4 (bnd (s.2 b 4 + gladM (syM F B G) s.1 (s.2 b) (nI (inN s.2 many))) 0 999) = r1 at s4 hr1'
  have hrg4 : Rg many (s.1, upR s.2 b r1) := ⟨hr.1, hr.2.1, fun b' hb' => by
    show RowR (upR s.2 b r1 b')
    unfold upR
    split
    · exact hr1'
    · exact hr.2.2 b' hb'⟩
  obtain ⟨w5, t1, t2, t3⟩ := bears_ref s4 hrg4 hb
  dsimp only at t1
  rw [upR_at] at t1
  have F5 : Fr MP w w5 := (((p2.mono jm).tr (q2.mono jm)).tr ((Fr.sI j78).tr (Fr.sI j78))).tr (t2.mono jm)
  have out : outM (syM F B G) many s b = if bearsM (syM F B G) s.1 r1 < r1 3 then ((setr s.1 2 (loseM (s.1 2)), upR s.2 b (setr r1 2 3)), true) else ((s.1, upR s.2 b r1), false) := by
    unfold outM
    dsimp only
    rw [hr1]
  have run : f6_goesOut 75 (nI b) w = if bearsM (syM F B G) s.1 r1 < r1 3 then some (1, sI (sI w5 78 (3 * b) 3) 79 2 (loseM (s.1 2))) else some (0, w5) := by
    unfold f6_goesOut
    rw [ck_pos h.1.t, p1, Option.bind_some]
    dsimp only
    rw [q1, Option.bind_some]
    dsimp only
    have q3' := id q3
    obtain ⟨d1, d2, d3, d4, d5, d6, d7, d8, d9⟩ := q3'
    obtain ⟨e0, e1, e2, e3, e4⟩ := d5 b hb
    obtain ⟨f0, f1, f2, f3, f4⟩ := s4.2.2.2.2.1 b hb
    have g4 : wi (sI w2 78 (3 * b + 1) (bnd (s.2 b 3 + feelsM (syM F B G) s.1 (s.2 b)) 0 999)) 78 (3 * b + 2) = s.2 b 4 := by
      rw [wi_sI, if_neg (by omega)]
      exact e4
    have f3' : wi (sI (sI w2 78 (3 * b + 1) (bnd (s.2 b 3 + feelsM (syM F B G) s.1 (s.2 b)) 0 999)) 78 (3 * b + 2) (bnd (s.2 b 4 + gladM (syM F B G) s.1 (s.2 b) (nI (inN s.2 many))) 0 999)) 78 (3 * b + 1) = r1 3 := by
      rw [f3]
      show upR s.2 b r1 b 3 = _
      rw [upR_at]
    rw [d1.r3, d1.l3, i3, i3_1, i3_2, ck_pos (And.intro d1.t3 v1), c1, e3, within_ref, Option.bind_some]
    dsimp only
    rw [d1.l3, ck_pos v1]
    unfold lw
    dsimp only
    rw [wr_sI, d1.r3, ln_sI, d1.l3, tg_sI, ck_pos (And.intro d1.t3 v2), c2, g4, within_ref, Option.bind_some]
    dsimp only
    rw [ln_sI, d1.l3, ck_pos v2]
    rw [wr_sI, wr_sI, d1.r3, ln_sI, ln_sI, d1.l3, tg_sI, tg_sI, ck_pos (And.intro d1.t3 v1), t1, Option.bind_some]
    dsimp only
    rw [f3']
    split
    · have s6 := t3.setB (j := 0) (x := 3) hb (by decide)
      obtain ⟨k1, -⟩ := t3
      rw [k1.r3, k1.l3, ck_pos (And.intro k1.t3 v0), c0]
      have hrg6 : Rg many (s.1, upR (upR s.2 b r1) b (setr (upR s.2 b r1 b) 2 3)) := by
        refine ⟨hr.1, hr.2.1, fun b' hb' => ?_⟩
        show RowR (upR (upR s.2 b r1) b (setr (upR s.2 b r1 b) 2 3) b')
        rw [upR_up, upR_at]
        exact upR_row (fun b2 hb2 => hr.2.2 b2 hb2) (rowOut hr1') b' hb'
      have s6' : ModC (sI w5 78 (3 * b) 3) many t (s.1, upR (upR s.2 b r1) b (setr (upR s.2 b r1 b) 2 3)) F B G := s6
      have key := less_ref s6' hrg6
      dsimp only at key
      rw [key, Option.bind_some]
    · rfl
  rw [run, out]
  by_cases hc : bearsM (syM F B G) s.1 r1 < r1 3
  · rw [if_pos hc, if_pos hc]
    have s6 := t3.setB (j := 0) (x := 3) hb (by decide)
    dsimp only at s6
    rw [upR_at, upR_up] at s6
    have s7 := s6.setH (k := 2) (x := loseM (s.1 2)) (by decide)
    exact ⟨_, rfl, F5.tr ((Fr.sI j78).tr (Fr.sI j79)), s7⟩
  · rw [if_neg hc, if_neg hc]
    exact ⟨_, rfl, F5, t3⟩
theorem min_ref {w : Wd} {many t : Nat} {s : HS} {F B G : List Int32} (h : ModC w many t s F B G) (hr : Rg many s) :
    ∃ w', f6_minuteOf 75 w = some (goneM (syM F B G) many s, w') ∧ Fr MP w w' ∧ ModC w' many t (minM (syM F B G) many s) F B G := by
  have hmany : many ≤ 6 := h.2.2.1
  have j78 : MP 78 := Or.inr (Or.inr (Or.inl rfl))
  have j79 : MP 79 := Or.inr (Or.inr (Or.inr rfl))
  unfold f6_minuteOf
  refine loopE (R := fun o => ∃ w', o = some (goneM (syM F B G) many s, w') ∧ Fr MP w w' ∧ ModC w' many t (minM (syM F B G) many s) F B G) (I := fun i v w1 => v = (75, (minF (syM F B G) many s i).2, nI i) ∧ Fr MP w w1 ∧ ModC w1 many t (minF (syM F B G) many s i).1 F B G) many ?_ ?_ FU _ w (by show many < 1000; omega) ⟨rfl, Fr.rf, h⟩
  · intro i v w1 hi hI
    obtain ⟨rfl, i1, i2⟩ := hI
    have hri := minF_rng (sy := syM F B G) hr i (by omega)
    generalize hp : minF (syM F B G) many s i = pi at i2 hri
    obtain ⟨si, bi⟩ := pi
    dsimp only at i2 hri
    have i2' := id i2
    obtain ⟨a1, a2, a3, a4, a5, a6, a7, a8, a9⟩ := i2'
    obtain ⟨cb, c0, c1, c2, vb, v0, v1, v2⟩ := idx6 (b := i) (by omega)
    obtain ⟨r0, r1, r2, r3, r4⟩ := a5 i hi
    have hb : ∀ k, b6_minuteOf_4 k (75, bi, nI i) w1 = (if si.2 i 2 = 3 then k (75, bi, nI (i + 1)) (sI w1 78 (3 * i + 1) (if 5 ≤ si.2 i 3 then si.2 i 3 - 5 else 0)) else (f6_goesOut 75 (nI i) w1).bind fun z27 => if z27.1 = 0 then k (75, bi ||| 0, nI (i + 1)) z27.2 else k (75, bi ||| bitI i, nI (i + 1)) z27.2) := by
      intro k
      unfold b6_minuteOf_4
      dsimp only
      rw [ck_pos a1.t, a2, if_neg (nI_ge hi (by omega)), isIn_ref i2 hri hi, Option.bind_some]
      dsimp only
      by_cases ho : si.2 i 2 = 3
      · rw [if_pos ho, if_pos ho, if_pos rfl, a1.r3, a1.l3, i3, i3_1, ck_pos (And.intro a1.t3 v1), ck_pos v1, c1, r3]
        unfold j6_minuteOf_80 j6_minuteOf_81
        rw [a1.l3, ck_pos (And.intro a1.t3 v1), ck_pos (And.intro a1.t3 v1), c1]
        unfold lw
        dsimp only
        rw [i3_1]
        split <;> rfl
      · rw [if_neg ho, if_neg ho, if_neg (by decide)]
        unfold j6_minuteOf_36 j6_minuteOf_81 bitI
        rw [i3_1]
    by_cases ho : si.2 i 2 = 3
    · have s1 := i2.setB (j := 1) (x := if 5 ≤ si.2 i 3 then si.2 i 3 - 5 else 0) hi (by decide)
      have ec := (cool_rng (c := 5) (hri.2.2 i hi).2.2.2.1 rfl (by decide)).2
      refine ⟨_, _, ⟨?_, i1.tr (Fr.sI j78), ?_⟩, fun k => (hb k).trans (if_pos ho)⟩
      · rw [minF_succ, hp]
        unfold stepM
        rw [if_pos ho]
        rfl
      · rw [minF_succ, hp]
        unfold stepM
        rw [if_pos ho, ← ec]
        exact s1
    · obtain ⟨w2, b1, b2, b3⟩ := out_ref i2 hri hi
      refine ⟨_, w2, ⟨rfl, i1.tr b2, ?_⟩, fun k => ?_⟩
      · rw [minF_succ, hp]
        unfold stepM
        rw [if_neg ho]
        exact b3
      · rw [minF_succ, hp]
        unfold stepM
        rw [if_neg ho]
        dsimp only
        rw [hb, if_neg ho, b1, Option.bind_some]
        dsimp only
        by_cases hg : (outM (syM F B G) many si i).2 = true
        · rw [if_pos hg, if_pos hg, if_neg (by decide)]
        · rw [if_neg hg, if_neg hg, if_pos rfl, Int32.or_zero]
  · intro v w1 hI k
    obtain ⟨rfl, i1, i2⟩ := hI
    have hri := minF_rng (sy := syM F B G) hr many (Nat.le_refl _)
    have egone : goneM (syM F B G) many s = (minF (syM F B G) many s many).2 := rfl
    have emin : minM (syM F B G) many s = (endM (minF (syM F B G) many s many).1.1, (minF (syM F B G) many s many).1.2) := rfl
    rw [egone, emin]
    generalize hp : minF (syM F B G) many s many = pi at i2 hri
    obtain ⟨si, bi⟩ := pi
    dsimp only at i2 hri ⊢
    have s1 := i2.setH (k := 2) (x := loseM (si.1 2)) (by decide)
    have s2 := s1.setH (k := 1) (x := if 0 < si.1 1 - 2 then si.1 1 - 2 else 0) (by decide)
    have s3 := s2.setH (k := 0) (x := si.1 0 + 1) (by decide)
    have ec := (cool_rng (c := 2) hri.1 rfl (by decide)).2
    have g1 : wi (sI w1 79 2 (loseM (si.1 2))) 79 1 = si.1 1 := by
      rw [wi_sI, if_neg (by decide)]
      exact i2.2.2.2.1 1 (by decide)
    have g0 : ∀ x, wi (sI (sI w1 79 2 (loseM (si.1 2))) 79 1 x) 79 0 = si.1 0 := by
      intro x
      rw [wi_sI, if_neg (by decide), wi_sI, if_neg (by decide)]
      exact i2.2.2.2.1 0 (by decide)
    refine ⟨_, ?_, i1.tr (((Fr.sI j79).tr (Fr.sI j79)).tr (Fr.sI j79)), s3⟩
    obtain ⟨d1, d2, -⟩ := id i2
    obtain ⟨f1, -⟩ := id s1
    obtain ⟨f2, -⟩ := id s2
    unfold b6_minuteOf_4
    dsimp only
    rw [ck_pos d1.t, d2, if_pos (Int32.le_refl _), less_ref i2 hri, Option.bind_some]
    dsimp only
    rw [f1.r4, f1.l4, ck_pos (And.intro f1.t4 v1_4), ck_pos v1_4, cl1, g1]
    have e2 : (if (2 : Int32) ≤ si.1 1 then j6_minuteOf_118 75 bi (si.1 1 - 2) 1 79 (sI w1 79 2 (loseM (si.1 2))) else j6_minuteOf_118 75 bi 0 1 79 (sI w1 79 2 (loseM (si.1 2)))) = j6_minuteOf_118 75 bi (if 0 < si.1 1 - 2 then si.1 1 - 2 else 0) 1 79 (sI w1 79 2 (loseM (si.1 2))) := by
      rw [← ec]
      split <;> rfl
    rw [e2]
    unfold j6_minuteOf_118
    rw [f1.l4, ck_pos (And.intro f1.t4 v1_4), cl1]
    unfold lw
    dsimp only
    rw [ck_pos f2.t, f2.r4, f2.l4, ck_pos (And.intro f2.t4 v0_4), ck_pos v0_4, cl0, g0]
