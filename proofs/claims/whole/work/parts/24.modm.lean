/-! the reference's minute -/
theorem ck_true {ρ : Type} {E : Option (ρ × Wd)} : ck True E = E := ck_pos trivial
def rng (x : Int32) (lo hi : Int) : Prop := lo ≤ x.toInt ∧ x.toInt ≤ hi
def RowR (r : Nat → Int32) : Prop := rng (r 0) 0 5 ∧ rng (r 1) 0 9 ∧ rng (r 2) 0 3 ∧ rng (r 3) 0 999 ∧ rng (r 4) 0 999
def Rg (many : Nat) (s : HS) : Prop := rng (s.1 1) 0 999 ∧ rng (s.1 2) 0 99 ∧ ∀ b, b < many → RowR (s.2 b)
/-- the reference's state: t is the text in force -/
def ModC (w : Wd) (many t : Nat) (s : HS) (F B G : List Int32) : Prop :=
  LayM w ∧ wi w 75 0 = nI many ∧ many ≤ 6 ∧ (∀ k, k < 4 → wi w 79 k = s.1 k) ∧ (∀ b, b < many → wi w 76 b = s.2 b 0 ∧ wi w 77 b = s.2 b 1 ∧ wi w 78 (3 * b) = s.2 b 2 ∧ wi w 78 (3 * b + 1) = s.2 b 3 ∧ wi w 78 (3 * b + 2) = s.2 b 4) ∧ wi w 75 10 = nI t ∧ ProgM w t F B G ∧ (okP F 0 ∧ okP B 0 ∧ okP G 0) ∧ ∀ c ∈ F ++ B ++ G, okC c
/-- what says and asksOf write -/
def JM (q : Nat) : Prop := q = 91 ∨ q = 92
theorem LayM.fr {w w' : Wd} {P : Nat → Prop} (h : LayM w) (hF : Fr P w w') (h1 : ¬ P 75) : LayM w' := ⟨by rw [hF.1]; exact h.1, fun x hx => ⟨by rw [(hF.2.2 75 h1).2]; exact (h.2 x hx).1, by rw [hF.1]; exact (h.2 x hx).2⟩⟩
theorem ModC.fr {w w' : Wd} {many t : Nat} {s : HS} {F B G : List Int32} {P : Nat → Prop} (h : ModC w many t s F B G) (hF : Fr P w w') (h5 : ¬ P 75) (h6 : ¬ P 76) (h7 : ¬ P 77) (h8 : ¬ P 78) (h9 : ¬ P 79) (h81 : ¬ P 81) (h82 : ¬ P 82) : ModC w' many t s F B G := by
  obtain ⟨a1, a2, a3, a4, a5, a6, ⟨p1, p2, p3, p4, p5, p6, p7⟩, a8, a9⟩ := h
  refine ⟨a1.fr hF h5, by rw [(hF.2.2 75 h5).1]; exact a2, a3, fun k hk => by rw [(hF.2.2 79 h9).1]; exact a4 k hk, fun b hb => by simp only [(hF.2.2 76 h6).1, (hF.2.2 77 h7).1, (hF.2.2 78 h8).1]; exact a5 b hb, by rw [(hF.2.2 75 h5).1]; exact a6, ⟨p1, ?_⟩, a8, a9⟩
  simp only [(hF.2.2 82 h82).1, (hF.2.2 81 h81).1]
  exact ⟨p2, p3, p4, p5, p6, p7⟩
theorem ModC.frJ {w w' : Wd} {many t : Nat} {s : HS} {F B G : List Int32} (h : ModC w many t s F B G) (hF : Fr JM w w') : ModC w' many t s F B G := by
  refine h.fr hF ?_ ?_ ?_ ?_ ?_ ?_ ?_ <;> (unfold JM; decide)
theorem idx6 {b : Nat} (hb : b < 6) : (nI b).toNatClampNeg = b ∧ (nI (3 * b)).toNatClampNeg = 3 * b ∧ (nI (3 * b + 1)).toNatClampNeg = 3 * b + 1 ∧ (nI (3 * b + 2)).toNatClampNeg = 3 * b + 2 ∧ vp_in (nI b) 6 ∧ vp_in (nI (3 * b)) 18 ∧ vp_in (nI (3 * b + 1)) 18 ∧ vp_in (nI (3 * b + 2)) 18 :=
  ⟨nI_clamp (by omega), nI_clamp (by omega), nI_clamp (by omega), nI_clamp (by omega), vin (by omega) (by omega), vin (by omega) (by omega), vin (by omega) (by omega), vin (by omega) (by omega)⟩
theorem rng3 {x : Int32} (h : rng x 0 3) : (3 ≤ x) ↔ x = 3 := by
  rw [ile, ieq]
  unfold rng at h
  rw [show (3 : Int32).toInt = 3 from rfl]
  omega
theorem isIn_ref {w : Wd} {many t b : Nat} {s : HS} {F B G : List Int32} (h : ModC w many t s F B G) (hr : Rg many s) (hb : b < many) : f6_isIn 75 (nI b) w = some ((if s.2 b 2 = 3 then 0 else 1), w) := by
  obtain ⟨a1, a2, a3, a4, a5, a6, a7, a8, a9⟩ := h
  obtain ⟨cb, c0, c1, c2, vb, v0, v1, v2⟩ := idx6 (b := b) (by omega)
  obtain ⟨r0, r1, r2, r3, r4⟩ := a5 b hb
  unfold f6_isIn
  simp only [a1.t, a1.r1, a1.t1, a1.l1, a1.r2, a1.t2, a1.l2, a1.r3, a1.t3, a1.l3, a1.r4, a1.t4, a1.l4, a1.r5, a1.t5, a1.l5, a1.r7, a1.t7, a1.l7, a1.r8, a1.t8, a1.l8, a1.r12, a1.t12, a1.l12, a1.r13, a1.t13, a1.l13, a1.r14, a1.t14, a1.l14, a1.r15, a1.t15, a1.l15, a1.r16, a1.t16, a1.l16, a1.r17, a1.t17, a1.l17, a1.r22, a1.t22, a1.l22, a1.r23, a1.t23, a1.l23, a1.r27, a1.t27, a1.l27, a1.r28, a1.t28, a1.l28, a1.r29, a1.t29, a1.l29, lw, tg_sI, tg_sR, ln_sI, ln_sR, wr_sI, wi_sR, sh_sI, sh_sR, ck_true, true_and, and_true, and_self, Option.bind_some, cl0, cl1, cl2, cl3, cl4, cl5, i3, i3_1, i3_2, cb, c0, c1, c2, vb, v0, v1, v2, r2, rng3 (hr.2.2 b hb).2.2.1]
  split <;> rfl
theorem within_ref (x lo hi : Int32) (w : Wd) : f6_within x lo hi w = some (bnd x lo hi, w) := by
  unfold f6_within bnd
  by_cases h : x < lo
  · rw [if_pos h, if_neg (Int32.not_le.mpr h)]
  · rw [if_neg h, if_pos (Int32.not_lt.mp h)]
    by_cases h2 : hi < x
    · rw [if_pos h2, if_neg (Int32.not_le.mpr h2)]
    · rw [if_neg h2, if_pos (Int32.not_lt.mp h2)]
theorem asks_ref {w : Wd} {many t b pt : Nat} {s : HS} {F B G : List Int32} (h : ModC w many t s F B G) (hr : Rg many s) (hb : b < many) (hpt : pt < 3) :
    ∃ w', f6_asksOf 75 (nI pt) (nI b) w = some (syM F B G (nI pt) (envM s.1 (s.2 b)), w') ∧ Fr JM w w' ∧ ModC w' many t s F B G := by
  have h' := id h
  obtain ⟨a1, a2, a3, a4, a5, a6, a7, a8, a9⟩ := h'
  obtain ⟨cb, c0, c1, c2, vb, v0, v1, v2⟩ := idx6 (b := b) (by omega)
  obtain ⟨r0, r1, r2, r3, r4⟩ := a5 b hb
  have j92 : JM 92 := Or.inr rfl
  generalize hw8 : sI (sI w 92 0 (s.1 1)) 92 1 (s.1 2) = w8
  have F8 : Fr JM w w8 := by rw [← hw8]; exact (Fr.sI j92).tr (Fr.sI j92)
  have m8 := h.frJ F8
  generalize hx : (if s.2 b 2 = 3 then (0 : Int32) else s.2 b 2) = x2
  generalize hw28 : sI (sI (sI (sI w8 92 2 x2) 92 3 (s.1 0)) 92 4 (s.2 b 3)) 92 5 (s.2 b 1) = w28
  have F28 : Fr JM w w28 := by rw [← hw28]; exact F8.tr ((((Fr.sI j92).tr (Fr.sI j92)).tr (Fr.sI j92)).tr (Fr.sI j92))
  have m28 := h.frJ F28
  obtain ⟨b1, b2, b3, b4, b5, b6, b7, b8, b9⟩ := m28
  have henv : envM s.1 (s.2 b) 10000 = wi w28 92 0 ∧ envM s.1 (s.2 b) 10001 = wi w28 92 1 ∧ envM s.1 (s.2 b) 10002 = wi w28 92 2 ∧ envM s.1 (s.2 b) 10003 = wi w28 92 3 ∧ envM s.1 (s.2 b) 10004 = wi w28 92 4 ∧ envM s.1 (s.2 b) 10005 = wi w28 92 5 := by
    rw [← hw28, ← hw8, ← hx]
    unfold envM
    simp [wi_sI]
  obtain ⟨w', e1, e2⟩ := says_ref (env := envM s.1 (s.2 b)) b1 b6 b7 hpt b8 b9 henv
  have F' : Fr JM w w' := F28.tr (e2.mono fun q hq => Or.inl hq)
  refine ⟨w', ?_, F', h.frJ F'⟩
  have tail : ∀ z : Int32, j6_asksOf_49 75 (nI pt) (nI b) x2 2 92 w8 = some (syM F B G (nI pt) (envM s.1 (s.2 b)), w') := by
    intro z
    obtain ⟨d1, d2, d3, d4, d5, d6, d7, d8, d9⟩ := m8
    obtain ⟨q0, q1, q2, q3, q4⟩ := d5 b hb
    unfold j6_asksOf_49
    simp only [d1.t, d1.r1, d1.t1, d1.l1, d1.r2, d1.t2, d1.l2, d1.r3, d1.t3, d1.l3, d1.r4, d1.t4, d1.l4, d1.r5, d1.t5, d1.l5, d1.r7, d1.t7, d1.l7, d1.r8, d1.t8, d1.l8, d1.r12, d1.t12, d1.l12, d1.r13, d1.t13, d1.l13, d1.r14, d1.t14, d1.l14, d1.r15, d1.t15, d1.l15, d1.r16, d1.t16, d1.l16, d1.r17, d1.t17, d1.l17, d1.r22, d1.t22, d1.l22, d1.r23, d1.t23, d1.l23, d1.r27, d1.t27, d1.l27, d1.r28, d1.t28, d1.l28, d1.r29, d1.t29, d1.l29, lw, tg_sI, tg_sR, ln_sI, ln_sR, wr_sI, wi_sR, sh_sI, sh_sR, ck_true, true_and, and_true, and_self, Option.bind_some, cl0, cl1, cl2, cl3, cl4, cl5, i3, i3_1, i3_2, cb, c0, c1, c2, vb, v0, v1, v2, v0_2, v1_2, v0_4, v1_4, v2_4, v3_4, v0_6, v1_6, v2_6, v3_6, v4_6, v5_6, v0_200, wi_sI, show ¬ (79 = 92) by decide, show ¬ (78 = 92) by decide, show ¬ (77 = 92) by decide, false_and, if_false, d4 0 (by decide), q1, q3]
    rw [hw28, e1, Option.bind_some]
    dsimp only
    unfold j6_asksOf_106 j6_asksOf_119 syM sayM
    simp only [within_ref, Option.bind_some]
    rcases (by omega : pt = 0 ∨ pt = 1 ∨ pt = 2) with rfl | rfl | rfl
    · simp only [show ¬ nI 0 = 1 by decide, if_false]
    · simp only [show nI 1 = 1 by decide, if_true]
    · simp only [show ¬ nI 2 = 1 by decide, if_false]
  unfold f6_asksOf
  simp only [a1.t, a1.r1, a1.t1, a1.l1, a1.r2, a1.t2, a1.l2, a1.r3, a1.t3, a1.l3, a1.r4, a1.t4, a1.l4, a1.r5, a1.t5, a1.l5, a1.r7, a1.t7, a1.l7, a1.r8, a1.t8, a1.l8, a1.r12, a1.t12, a1.l12, a1.r13, a1.t13, a1.l13, a1.r14, a1.t14, a1.l14, a1.r15, a1.t15, a1.l15, a1.r16, a1.t16, a1.l16, a1.r17, a1.t17, a1.l17, a1.r22, a1.t22, a1.l22, a1.r23, a1.t23, a1.l23, a1.r27, a1.t27, a1.l27, a1.r28, a1.t28, a1.l28, a1.r29, a1.t29, a1.l29, lw, tg_sI, tg_sR, ln_sI, ln_sR, wr_sI, wi_sR, sh_sI, sh_sR, ck_true, true_and, and_true, and_self, Option.bind_some, cl0, cl1, cl2, cl3, cl4, cl5, i3, i3_1, i3_2, cb, c0, c1, c2, vb, v0, v1, v2, v0_2, v1_2, v0_4, v1_4, v2_4, v3_4, v0_6, v1_6, v2_6, v3_6, v4_6, v5_6, v0_200, a4 1 (by decide), wi_sI, show ¬ (79 = 92) by decide, false_and, if_false, a4 2 (by decide)]
  rw [hw8, isIn_ref m8 hr hb, Option.bind_some]
  dsimp only
  obtain ⟨d1, d2, d3, d4, d5, d6, d7, d8, d9⟩ := m8
  obtain ⟨q0, q1, q2, q3, q4⟩ := d5 b hb
  simp only [d1.t, d1.r1, d1.t1, d1.l1, d1.r2, d1.t2, d1.l2, d1.r3, d1.t3, d1.l3, d1.r4, d1.t4, d1.l4, d1.r5, d1.t5, d1.l5, d1.r7, d1.t7, d1.l7, d1.r8, d1.t8, d1.l8, d1.r12, d1.t12, d1.l12, d1.r13, d1.t13, d1.l13, d1.r14, d1.t14, d1.l14, d1.r15, d1.t15, d1.l15, d1.r16, d1.t16, d1.l16, d1.r17, d1.t17, d1.l17, d1.r22, d1.t22, d1.l22, d1.r23, d1.t23, d1.l23, d1.r27, d1.t27, d1.l27, d1.r28, d1.t28, d1.l28, d1.r29, d1.t29, d1.l29, lw, tg_sI, tg_sR, ln_sI, ln_sR, wr_sI, wi_sR, sh_sI, sh_sR, ck_true, true_and, and_true, and_self, Option.bind_some, cl0, cl1, cl2, cl3, cl4, cl5, i3, i3_1, i3_2, cb, c0, c1, c2, vb, v0, v1, v2, q2]
  by_cases h3 : s.2 b 2 = 3
  · rw [if_pos h3] at hx ⊢
    rw [if_pos rfl, hx]
    exact tail 0
  · rw [if_neg h3] at hx ⊢
    rw [if_neg (by decide), hx]
    exact tail 0
theorem feels_ref {w : Wd} {many t b : Nat} {s : HS} {F B G : List Int32} (h : ModC w many t s F B G) (hr : Rg many s) (hb : b < many) :
    ∃ w', f6_feelsOf 75 (nI b) w = some (feelsM (syM F B G) s.1 (s.2 b), w') ∧ Fr JM w w' ∧ ModC w' many t s F B G := by
  have h' := id h
  obtain ⟨a1, a2, a3, a4, a5, a6, a7, a8, a9⟩ := h'
  obtain ⟨cb, c0, c1, c2, vb, v0, v1, v2⟩ := idx6 (b := b) (by omega)
  obtain ⟨r0, r1, r2, r3, r4⟩ := a5 b hb
  unfold f6_feelsOf
  simp only [a1.t, a1.r1, a1.t1, a1.l1, a1.r2, a1.t2, a1.l2, a1.r3, a1.t3, a1.l3, a1.r4, a1.t4, a1.l4, a1.r5, a1.t5, a1.l5, a1.r7, a1.t7, a1.l7, a1.r8, a1.t8, a1.l8, a1.r12, a1.t12, a1.l12, a1.r13, a1.t13, a1.l13, a1.r14, a1.t14, a1.l14, a1.r15, a1.t15, a1.l15, a1.r16, a1.t16, a1.l16, a1.r17, a1.t17, a1.l17, a1.r22, a1.t22, a1.l22, a1.r23, a1.t23, a1.l23, a1.r27, a1.t27, a1.l27, a1.r28, a1.t28, a1.l28, a1.r29, a1.t29, a1.l29, lw, tg_sI, tg_sR, ln_sI, ln_sR, wr_sI, wi_sR, sh_sI, sh_sR, ck_true, true_and, and_true, and_self, Option.bind_some, cl0, cl1, cl2, cl3, cl4, cl5, i3, i3_1, i3_2, cb, c0, c1, c2, vb, v0, v1, v2, r0, r1]
  by_cases k5 : s.2 b 0 = 5
  · rw [if_pos k5]
    refine ⟨w, ?_, Fr.rf, h⟩
    unfold feelsM
    rw [if_pos k5]
  · rw [if_neg k5]
    obtain ⟨w', e1, e2, e3⟩ := asks_ref (pt := 0) h hr hb (by decide)
    refine ⟨w', ?_, e2, e3⟩
    obtain ⟨b1, b2, b3, b4, b5, b6, b7, b8, b9⟩ := e3
    obtain ⟨q0, q1, q2, q3, q4⟩ := b5 b hb
    rw [show (0 : Int32) = nI 0 from rfl, e1, Option.bind_some]
    dsimp only
    unfold j6_feelsOf_42 feelsM
    simp only [b1.t, b1.r1, b1.t1, b1.l1, b1.r2, b1.t2, b1.l2, b1.r3, b1.t3, b1.l3, b1.r4, b1.t4, b1.l4, b1.r5, b1.t5, b1.l5, b1.r7, b1.t7, b1.l7, b1.r8, b1.t8, b1.l8, b1.r12, b1.t12, b1.l12, b1.r13, b1.t13, b1.l13, b1.r14, b1.t14, b1.l14, b1.r15, b1.t15, b1.l15, b1.r16, b1.t16, b1.l16, b1.r17, b1.t17, b1.l17, b1.r22, b1.t22, b1.l22, b1.r23, b1.t23, b1.l23, b1.r27, b1.t27, b1.l27, b1.r28, b1.t28, b1.l28, b1.r29, b1.t29, b1.l29, lw, tg_sI, tg_sR, ln_sI, ln_sR, wr_sI, wi_sR, sh_sI, sh_sR, ck_true, true_and, and_true, and_self, Option.bind_some, cl0, cl1, cl2, cl3, cl4, cl5, i3, i3_1, i3_2, cb, c0, c1, c2, vb, v0, v1, v2, v0_2, v1_2, v0_4, v1_4, v2_4, v3_4, v0_6, v1_6, v2_6, v3_6, v4_6, v5_6, v0_200, q0, q1, q2, b4 2 (by decide), if_neg k5, show nI 0 = 0 from rfl]
    by_cases k3 : s.2 b 0 = 3
    · rw [k3]; simp
      repeat' split
      all_goals rfl
    by_cases k2 : s.2 b 0 = 2
    · rw [k2]; simp
      repeat' split
      all_goals rfl
    by_cases k4 : s.2 b 0 = 4
    · rw [k4]; simp
      repeat' split
      all_goals rfl
    simp only [if_neg k3, if_neg k2, if_neg k4]
    split <;> rfl
theorem bears_ref {w : Wd} {many t b : Nat} {s : HS} {F B G : List Int32} (h : ModC w many t s F B G) (hr : Rg many s) (hb : b < many) :
    ∃ w', f6_bearsOf 75 (nI b) w = some (bearsM (syM F B G) s.1 (s.2 b), w') ∧ Fr JM w w' ∧ ModC w' many t s F B G := by
  obtain ⟨cb, c0, c1, c2, vb, v0, v1, v2⟩ := idx6 (b := b) (by have := h.2.2.1; omega)
  obtain ⟨w', e1, e2, e3⟩ := asks_ref (pt := 1) h hr hb (by decide)
  refine ⟨w', ?_, e2, e3⟩
  obtain ⟨b1, b2, b3, b4, b5, b6, b7, b8, b9⟩ := e3
  obtain ⟨q0, q1, q2, q3, q4⟩ := b5 b hb
  unfold f6_bearsOf bearsM
  rw [ck_pos h.1.t, show (1 : Int32) = nI 1 from rfl, e1, Option.bind_some]
  dsimp only
  simp only [b1.t, b1.r1, b1.t1, b1.l1, b1.r2, b1.t2, b1.l2, b1.r3, b1.t3, b1.l3, b1.r4, b1.t4, b1.l4, b1.r5, b1.t5, b1.l5, b1.r7, b1.t7, b1.l7, b1.r8, b1.t8, b1.l8, b1.r12, b1.t12, b1.l12, b1.r13, b1.t13, b1.l13, b1.r14, b1.t14, b1.l14, b1.r15, b1.t15, b1.l15, b1.r16, b1.t16, b1.l16, b1.r17, b1.t17, b1.l17, b1.r22, b1.t22, b1.l22, b1.r23, b1.t23, b1.l23, b1.r27, b1.t27, b1.l27, b1.r28, b1.t28, b1.l28, b1.r29, b1.t29, b1.l29, lw, tg_sI, tg_sR, ln_sI, ln_sR, wr_sI, wi_sR, sh_sI, sh_sR, ck_true, true_and, and_true, and_self, Option.bind_some, cl0, cl1, cl2, cl3, cl4, cl5, i3, i3_1, i3_2, cb, c0, c1, c2, vb, v0, v1, v2, v0_2, v1_2, v0_4, v1_4, v2_4, v3_4, v0_6, v1_6, v2_6, v3_6, v4_6, v5_6, v0_200, q0, q1, show nI 1 = 1 from rfl]
  repeat' split
  all_goals rfl
theorem in_ref {w : Wd} {many t : Nat} {s : HS} {F B G : List Int32} (h : ModC w many t s F B G) (hr : Rg many s) : f6_inMany 75 w = some (nI (inN s.2 many), w) := by
  have h' := id h
  obtain ⟨a1, a2, a3, a4, a5, a6, a7, a8, a9⟩ := h'
  unfold f6_inMany
  refine loopE (R := fun o => o = some (nI (inN s.2 many), w)) (I := fun i v w1 => w1 = w ∧ v = (75, nI (inN s.2 i), nI i)) many ?_ ?_ FU _ w (by show many < 1000; omega) ⟨rfl, rfl⟩
  · intro i v w1 hi hI
    obtain ⟨rfl, rfl⟩ := hI
    refine ⟨(75, nI (inN s.2 (i + 1)), nI (i + 1)), w1, ⟨rfl, rfl⟩, fun k => ?_⟩
    unfold b6_inMany_4 j6_inMany_26
    dsimp only
    rw [ck_pos a1.t, a2, if_neg (nI_ge hi (by omega)), isIn_ref h hr hi, Option.bind_some, i3_1, inN_succ]
    dsimp only
    by_cases h3 : s.2 i 2 = 3
    · rw [if_pos h3, if_pos h3, if_pos rfl, Int32.add_zero]
    · rw [if_neg h3, if_neg h3, if_neg (by decide), i3_1]
  · intro v w1 hI k
    obtain ⟨rfl, rfl⟩ := hI
    unfold b6_inMany_4
    dsimp only
    rw [ck_pos a1.t, a2, if_pos (Int32.le_refl _)]
theorem glad_ref {w : Wd} {many t b : Nat} {s : HS} {F B G : List Int32} (h : ModC w many t s F B G) (hr : Rg many s) (hb : b < many) :
    ∃ w', f6_gladOf 75 (nI b) w = some (gladM (syM F B G) s.1 (s.2 b) (nI (inN s.2 many)), w') ∧ Fr JM w w' ∧ ModC w' many t s F B G := by
  have h' := id h
  obtain ⟨a1, a2, a3, a4, a5, a6, a7, a8, a9⟩ := h'
  obtain ⟨cb, c0, c1, c2, vb, v0, v1, v2⟩ := idx6 (b := b) (by omega)
  obtain ⟨r0, r1, r2, r3, r4⟩ := a5 b hb
  have rest : ¬ (s.2 b 0 = 5 ∧ ¬ s.1 1 ≤ 300) → ∃ w', j6_gladOf_25 75 (nI b) w = some (gladM (syM F B G) s.1 (s.2 b) (nI (inN s.2 many)), w') ∧ Fr JM w w' ∧ ModC w' many t s F B G := by
    intro hne
    obtain ⟨w', e1, e2, e3⟩ := asks_ref (pt := 2) h hr hb (by decide)
    refine ⟨w', ?_, e2, e3⟩
    have hin := in_ref e3 hr
    obtain ⟨b1, b2, b3, b4, b5, b6, b7, b8, b9⟩ := e3
    obtain ⟨q0, q1, q2, q3, q4⟩ := b5 b hb
    unfold j6_gladOf_25 gladM
    rw [if_neg hne, ck_pos a1.t, show (2 : Int32) = nI 2 from rfl, e1, Option.bind_some]
    dsimp only
    unfold j6_gladOf_56
    simp only [b1.t, b1.r1, b1.t1, b1.l1, b1.r2, b1.t2, b1.l2, b1.r3, b1.t3, b1.l3, b1.r4, b1.t4, b1.l4, b1.r5, b1.t5, b1.l5, b1.r7, b1.t7, b1.l7, b1.r8, b1.t8, b1.l8, b1.r12, b1.t12, b1.l12, b1.r13, b1.t13, b1.l13, b1.r14, b1.t14, b1.l14, b1.r15, b1.t15, b1.l15, b1.r16, b1.t16, b1.l16, b1.r17, b1.t17, b1.l17, b1.r22, b1.t22, b1.l22, b1.r23, b1.t23, b1.l23, b1.r27, b1.t27, b1.l27, b1.r28, b1.t28, b1.l28, b1.r29, b1.t29, b1.l29, lw, tg_sI, tg_sR, ln_sI, ln_sR, wr_sI, wi_sR, sh_sI, sh_sR, ck_true, true_and, and_true, and_self, Option.bind_some, cl0, cl1, cl2, cl3, cl4, cl5, i3, i3_1, i3_2, cb, c0, c1, c2, vb, v0, v1, v2, v0_2, v1_2, v0_4, v1_4, v2_4, v3_4, v0_6, v1_6, v2_6, v3_6, v4_6, v5_6, v0_200, q0, q1, q2, hin, show nI 2 = 2 from rfl]
    by_cases k4 : s.2 b 0 = 4
    · rw [k4]; simp
    by_cases k1 : s.2 b 0 = 1
    · rw [k1]; simp
      split <;> rfl
    by_cases k3 : s.2 b 0 = 3
    · rw [k3]; simp
      split <;> rfl
    simp only [if_neg k4, if_neg k1, if_neg k3]
    split <;> rfl
  unfold f6_gladOf
  simp only [a1.t, a1.r1, a1.t1, a1.l1, a1.r2, a1.t2, a1.l2, a1.r3, a1.t3, a1.l3, a1.r4, a1.t4, a1.l4, a1.r5, a1.t5, a1.l5, a1.r7, a1.t7, a1.l7, a1.r8, a1.t8, a1.l8, a1.r12, a1.t12, a1.l12, a1.r13, a1.t13, a1.l13, a1.r14, a1.t14, a1.l14, a1.r15, a1.t15, a1.l15, a1.r16, a1.t16, a1.l16, a1.r17, a1.t17, a1.l17, a1.r22, a1.t22, a1.l22, a1.r23, a1.t23, a1.l23, a1.r27, a1.t27, a1.l27, a1.r28, a1.t28, a1.l28, a1.r29, a1.t29, a1.l29, lw, tg_sI, tg_sR, ln_sI, ln_sR, wr_sI, wi_sR, sh_sI, sh_sR, ck_true, true_and, and_true, and_self, Option.bind_some, cl0, cl1, cl2, cl3, cl4, cl5, i3, i3_1, i3_2, cb, c0, c1, c2, vb, v0, v1, v2, v0_2, v1_2, v0_4, v1_4, v2_4, v3_4, v0_6, v1_6, v2_6, v3_6, v4_6, v5_6, v0_200, r0, a4 1 (by decide)]
  by_cases k5 : s.2 b 0 = 5
  · rw [if_pos k5]
    by_cases k300 : s.1 1 ≤ 300
    · rw [if_pos k300]
      exact rest fun z => z.2 k300
    · rw [if_neg k300]
      refine ⟨w, ?_, Fr.rf, h⟩
      unfold gladM
      rw [if_pos ⟨k5, k300⟩]
  · rw [if_neg k5]
    exact rest fun z => k5 z.1
