/-! the reference's cells, and how it says a text -/
def mTab : List (Nat × Nat × Nat) := [(1, 76, 6), (2, 77, 6), (3, 78, 18), (4, 79, 4), (5, 80, 160), (7, 81, 1200), (8, 82, 24), (12, 83, 22), (13, 84, 2), (14, 85, 4), (15, 86, 4), (16, 87, 160), (17, 88, 53), (22, 89, 96), (23, 90, 200), (27, 91, 200), (28, 92, 6), (29, 93, 22)]
def LayM (w : Wd) : Prop := sh w 75 = (6, 0) ∧ ∀ x ∈ mTab, wr w 75 x.1 = x.2.1 ∧ sh w x.2.1 = (20, x.2.2)
theorem LayM.t {w : Wd} (h : LayM w) : tg w 75 = 6 := tg_eq h.1
theorem LayM.r1 {w : Wd} (h : LayM w) : wr w 75 1 = 76 := (h.2 (1, 76, 6) (by decide)).1
theorem LayM.t1 {w : Wd} (h : LayM w) : tg w 76 = 20 := tg_eq (h.2 (1, 76, 6) (by decide)).2
theorem LayM.l1 {w : Wd} (h : LayM w) : ln w 76 = 6 := ln_eq (h.2 (1, 76, 6) (by decide)).2
theorem LayM.r2 {w : Wd} (h : LayM w) : wr w 75 2 = 77 := (h.2 (2, 77, 6) (by decide)).1
theorem LayM.t2 {w : Wd} (h : LayM w) : tg w 77 = 20 := tg_eq (h.2 (2, 77, 6) (by decide)).2
theorem LayM.l2 {w : Wd} (h : LayM w) : ln w 77 = 6 := ln_eq (h.2 (2, 77, 6) (by decide)).2
theorem LayM.r3 {w : Wd} (h : LayM w) : wr w 75 3 = 78 := (h.2 (3, 78, 18) (by decide)).1
theorem LayM.t3 {w : Wd} (h : LayM w) : tg w 78 = 20 := tg_eq (h.2 (3, 78, 18) (by decide)).2
theorem LayM.l3 {w : Wd} (h : LayM w) : ln w 78 = 18 := ln_eq (h.2 (3, 78, 18) (by decide)).2
theorem LayM.r4 {w : Wd} (h : LayM w) : wr w 75 4 = 79 := (h.2 (4, 79, 4) (by decide)).1
theorem LayM.t4 {w : Wd} (h : LayM w) : tg w 79 = 20 := tg_eq (h.2 (4, 79, 4) (by decide)).2
theorem LayM.l4 {w : Wd} (h : LayM w) : ln w 79 = 4 := ln_eq (h.2 (4, 79, 4) (by decide)).2
theorem LayM.r5 {w : Wd} (h : LayM w) : wr w 75 5 = 80 := (h.2 (5, 80, 160) (by decide)).1
theorem LayM.t5 {w : Wd} (h : LayM w) : tg w 80 = 20 := tg_eq (h.2 (5, 80, 160) (by decide)).2
theorem LayM.l5 {w : Wd} (h : LayM w) : ln w 80 = 160 := ln_eq (h.2 (5, 80, 160) (by decide)).2
theorem LayM.r7 {w : Wd} (h : LayM w) : wr w 75 7 = 81 := (h.2 (7, 81, 1200) (by decide)).1
theorem LayM.t7 {w : Wd} (h : LayM w) : tg w 81 = 20 := tg_eq (h.2 (7, 81, 1200) (by decide)).2
theorem LayM.l7 {w : Wd} (h : LayM w) : ln w 81 = 1200 := ln_eq (h.2 (7, 81, 1200) (by decide)).2
theorem LayM.r8 {w : Wd} (h : LayM w) : wr w 75 8 = 82 := (h.2 (8, 82, 24) (by decide)).1
theorem LayM.t8 {w : Wd} (h : LayM w) : tg w 82 = 20 := tg_eq (h.2 (8, 82, 24) (by decide)).2
theorem LayM.l8 {w : Wd} (h : LayM w) : ln w 82 = 24 := ln_eq (h.2 (8, 82, 24) (by decide)).2
theorem LayM.r12 {w : Wd} (h : LayM w) : wr w 75 12 = 83 := (h.2 (12, 83, 22) (by decide)).1
theorem LayM.t12 {w : Wd} (h : LayM w) : tg w 83 = 20 := tg_eq (h.2 (12, 83, 22) (by decide)).2
theorem LayM.l12 {w : Wd} (h : LayM w) : ln w 83 = 22 := ln_eq (h.2 (12, 83, 22) (by decide)).2
theorem LayM.r13 {w : Wd} (h : LayM w) : wr w 75 13 = 84 := (h.2 (13, 84, 2) (by decide)).1
theorem LayM.t13 {w : Wd} (h : LayM w) : tg w 84 = 20 := tg_eq (h.2 (13, 84, 2) (by decide)).2
theorem LayM.l13 {w : Wd} (h : LayM w) : ln w 84 = 2 := ln_eq (h.2 (13, 84, 2) (by decide)).2
theorem LayM.r14 {w : Wd} (h : LayM w) : wr w 75 14 = 85 := (h.2 (14, 85, 4) (by decide)).1
theorem LayM.t14 {w : Wd} (h : LayM w) : tg w 85 = 20 := tg_eq (h.2 (14, 85, 4) (by decide)).2
theorem LayM.l14 {w : Wd} (h : LayM w) : ln w 85 = 4 := ln_eq (h.2 (14, 85, 4) (by decide)).2
theorem LayM.r15 {w : Wd} (h : LayM w) : wr w 75 15 = 86 := (h.2 (15, 86, 4) (by decide)).1
theorem LayM.t15 {w : Wd} (h : LayM w) : tg w 86 = 20 := tg_eq (h.2 (15, 86, 4) (by decide)).2
theorem LayM.l15 {w : Wd} (h : LayM w) : ln w 86 = 4 := ln_eq (h.2 (15, 86, 4) (by decide)).2
theorem LayM.r16 {w : Wd} (h : LayM w) : wr w 75 16 = 87 := (h.2 (16, 87, 160) (by decide)).1
theorem LayM.t16 {w : Wd} (h : LayM w) : tg w 87 = 20 := tg_eq (h.2 (16, 87, 160) (by decide)).2
theorem LayM.l16 {w : Wd} (h : LayM w) : ln w 87 = 160 := ln_eq (h.2 (16, 87, 160) (by decide)).2
theorem LayM.r17 {w : Wd} (h : LayM w) : wr w 75 17 = 88 := (h.2 (17, 88, 53) (by decide)).1
theorem LayM.t17 {w : Wd} (h : LayM w) : tg w 88 = 20 := tg_eq (h.2 (17, 88, 53) (by decide)).2
theorem LayM.l17 {w : Wd} (h : LayM w) : ln w 88 = 53 := ln_eq (h.2 (17, 88, 53) (by decide)).2
theorem LayM.r22 {w : Wd} (h : LayM w) : wr w 75 22 = 89 := (h.2 (22, 89, 96) (by decide)).1
theorem LayM.t22 {w : Wd} (h : LayM w) : tg w 89 = 20 := tg_eq (h.2 (22, 89, 96) (by decide)).2
theorem LayM.l22 {w : Wd} (h : LayM w) : ln w 89 = 96 := ln_eq (h.2 (22, 89, 96) (by decide)).2
theorem LayM.r23 {w : Wd} (h : LayM w) : wr w 75 23 = 90 := (h.2 (23, 90, 200) (by decide)).1
theorem LayM.t23 {w : Wd} (h : LayM w) : tg w 90 = 20 := tg_eq (h.2 (23, 90, 200) (by decide)).2
theorem LayM.l23 {w : Wd} (h : LayM w) : ln w 90 = 200 := ln_eq (h.2 (23, 90, 200) (by decide)).2
theorem LayM.r27 {w : Wd} (h : LayM w) : wr w 75 27 = 91 := (h.2 (27, 91, 200) (by decide)).1
theorem LayM.t27 {w : Wd} (h : LayM w) : tg w 91 = 20 := tg_eq (h.2 (27, 91, 200) (by decide)).2
theorem LayM.l27 {w : Wd} (h : LayM w) : ln w 91 = 200 := ln_eq (h.2 (27, 91, 200) (by decide)).2
theorem LayM.r28 {w : Wd} (h : LayM w) : wr w 75 28 = 92 := (h.2 (28, 92, 6) (by decide)).1
theorem LayM.t28 {w : Wd} (h : LayM w) : tg w 92 = 20 := tg_eq (h.2 (28, 92, 6) (by decide)).2
theorem LayM.l28 {w : Wd} (h : LayM w) : ln w 92 = 6 := ln_eq (h.2 (28, 92, 6) (by decide)).2
theorem LayM.r29 {w : Wd} (h : LayM w) : wr w 75 29 = 93 := (h.2 (29, 93, 22) (by decide)).1
theorem LayM.t29 {w : Wd} (h : LayM w) : tg w 93 = 20 := tg_eq (h.2 (29, 93, 22) (by decide)).2
theorem LayM.l29 {w : Wd} (h : LayM w) : ln w 93 = 22 := ln_eq (h.2 (29, 93, 22) (by decide)).2
theorem v0_2 : vp_in (0 : Int32) 2 := by unfold vp_in; decide
theorem v1_2 : vp_in (1 : Int32) 2 := by unfold vp_in; decide
theorem v0_4 : vp_in (0 : Int32) 4 := by unfold vp_in; decide
theorem v1_4 : vp_in (1 : Int32) 4 := by unfold vp_in; decide
theorem v2_4 : vp_in (2 : Int32) 4 := by unfold vp_in; decide
theorem v3_4 : vp_in (3 : Int32) 4 := by unfold vp_in; decide
theorem v0_6 : vp_in (0 : Int32) 6 := by unfold vp_in; decide
theorem v1_6 : vp_in (1 : Int32) 6 := by unfold vp_in; decide
theorem v2_6 : vp_in (2 : Int32) 6 := by unfold vp_in; decide
theorem v3_6 : vp_in (3 : Int32) 6 := by unfold vp_in; decide
theorem v4_6 : vp_in (4 : Int32) 6 := by unfold vp_in; decide
theorem v5_6 : vp_in (5 : Int32) 6 := by unfold vp_in; decide
theorem v0_200 : vp_in (0 : Int32) 200 := by unfold vp_in; decide
theorem v0_40 : vp_in (0 : Int32) 40 := by unfold vp_in; decide
theorem v0_22 : vp_in (0 : Int32) 22 := by unfold vp_in; decide
theorem cl0 : (0 : Int32).toNatClampNeg = 0 := by decide
theorem cl1 : (1 : Int32).toNatClampNeg = 1 := by decide
theorem cl2 : (2 : Int32).toNatClampNeg = 2 := by decide
theorem cl3 : (3 : Int32).toNatClampNeg = 3 := by decide
theorem cl4 : (4 : Int32).toNatClampNeg = 4 := by decide
theorem cl5 : (5 : Int32).toNatClampNeg = 5 := by decide
theorem cl6 : (6 : Int32).toNatClampNeg = 6 := by decide
theorem cl7 : (7 : Int32).toNatClampNeg = 7 := by decide
theorem cl8 : (8 : Int32).toNatClampNeg = 8 := by decide
theorem cl9 : (9 : Int32).toNatClampNeg = 9 := by decide
theorem cl10 : (10 : Int32).toNatClampNeg = 10 := by decide
theorem cl11 : (11 : Int32).toNatClampNeg = 11 := by decide
theorem cl12 : (12 : Int32).toNatClampNeg = 12 := by decide
theorem cl13 : (13 : Int32).toNatClampNeg = 13 := by decide
theorem cl14 : (14 : Int32).toNatClampNeg = 14 := by decide
theorem cl15 : (15 : Int32).toNatClampNeg = 15 := by decide
theorem cl16 : (16 : Int32).toNatClampNeg = 16 := by decide
theorem cl17 : (17 : Int32).toNatClampNeg = 17 := by decide
theorem cl18 : (18 : Int32).toNatClampNeg = 18 := by decide
theorem cl19 : (19 : Int32).toNatClampNeg = 19 := by decide
theorem cl20 : (20 : Int32).toNatClampNeg = 20 := by decide
theorem cl21 : (21 : Int32).toNatClampNeg = 21 := by decide
theorem cl22 : (22 : Int32).toNatClampNeg = 22 := by decide
theorem cl23 : (23 : Int32).toNatClampNeg = 23 := by decide
def mcode (c : Int32) : Int32 := if 10010 ≤ c then (if c = 10010 then 11 else if c = 10011 then 12 else if c = 10012 then 13 else if c = 10013 then 19 else if c = 10014 then 14 else if c = 10015 then 15 else if c = 10016 then 16 else if c = 10017 then 17 else 18) else if 10000 ≤ c then c - 10000 else c + 100000
def okC (c : Int32) : Prop := 0 ≤ c ∧ c ≤ 10018 ∧ ¬ (10005 < c ∧ c < 10010)
theorem two_ref {c u v : Int32} (w : Wd) (h : ¬ c < 10010) (h12 : c ≠ 10012) (h13 : c ≠ 10013) (hle : c ≤ 10018) : f6_two (mcode c) u v w = some (bin2 c u v, w) := by
  unfold mcode
  rw [if_pos (Int32.not_lt.mp h)]
  unfold f6_two bin2
  by_cases e0 : c = 10010
  · subst e0; simp; repeat' split
    all_goals simp_all
  by_cases e1 : c = 10011
  · subst e1; simp; repeat' split
    all_goals simp_all
  by_cases e4 : c = 10014
  · subst e4; simp; repeat' split
    all_goals simp_all
  by_cases e5 : c = 10015
  · subst e5; simp; repeat' split
    all_goals simp_all
  by_cases e6 : c = 10016
  · subst e6; simp
  by_cases e7 : c = 10017
  · subst e7; simp
  simp [e0, e1, h12, h13, e4, e5, e6, e7]
theorem okC_cases {c : Int32} (h : okC c) : (0 ≤ c ∧ c < 10000) ∨ (c = 10000 ∨ c = 10001 ∨ c = 10002 ∨ c = 10003 ∨ c = 10004 ∨ c = 10005) ∨ (c = 10010 ∨ c = 10011 ∨ c = 10012 ∨ c = 10013 ∨ c = 10014 ∨ c = 10015 ∨ c = 10016 ∨ c = 10017 ∨ c = 10018) := by
  obtain ⟨h1, h2, h3⟩ := h
  simp only [ile, ilt, ieq] at *
  simp only [show (0 : Int32).toInt = 0 from rfl, show (10018 : Int32).toInt = 10018 from rfl, show (10005 : Int32).toInt = 10005 from rfl, show (10010 : Int32).toInt = 10010 from rfl, show (10000 : Int32).toInt = 10000 from rfl, show (10001 : Int32).toInt = 10001 from rfl, show (10002 : Int32).toInt = 10002 from rfl, show (10003 : Int32).toInt = 10003 from rfl, show (10004 : Int32).toInt = 10004 from rfl, show (10011 : Int32).toInt = 10011 from rfl, show (10012 : Int32).toInt = 10012 from rfl, show (10013 : Int32).toInt = 10013 from rfl, show (10014 : Int32).toInt = 10014 from rfl, show (10015 : Int32).toInt = 10015 from rfl, show (10016 : Int32).toInt = 10016 from rfl, show (10017 : Int32).toInt = 10017 from rfl] at *
  omega
theorem i4 (b : Nat) : (4 : Int32) * nI b = nI (4 * b) := by rw [← nI_mul]; rfl
theorem i200 (b : Nat) : (200 : Int32) * nI b = nI (200 * b) := by rw [← nI_mul]; rfl
theorem im1 (k : Nat) : nI (k + 1) + (-1) = nI k := by
  rw [← nI_1, Int32.add_assoc]
  show nI k + (1 + -1) = nI k
  rw [show (1 : Int32) + -1 = 0 from rfl, Int32.add_zero]
theorem im2 (k : Nat) : nI (k + 2) + (-1) - 1 = nI k := by
  rw [show k + 2 = (k + 1) + 1 from rfl, im1, ni1]
theorem mcode_num {c : Int32} (h1 : 0 ≤ c) (h2 : c < 10000) : mcode c = c + 100000 ∧ 100000 ≤ mcode c ∧ mcode c - 100000 = c := by
  have e : mcode c = c + 100000 := by
    unfold mcode
    rw [if_neg, if_neg]
    · intro z; exact Int32.lt_irrefl (Int32.lt_of_lt_of_le h2 z)
    · intro z
      have : (10010 : Int32) < 10000 := Int32.lt_of_le_of_lt z h2
      exact absurd this (by decide)
  rw [e]
  refine ⟨rfl, ?_, Int32.add_sub_cancel _ _⟩
  rw [ile] at h1 ⊢
  rw [ilt] at h2
  simp only [show (0 : Int32).toInt = 0 from rfl, show (10000 : Int32).toInt = 10000 from rfl] at h1 h2
  rw [iadd] <;> simp only [show (100000 : Int32).toInt = 100000 from rfl] <;> omega
def ProgM (w : Wd) (t : Nat) (F B G : List Int32) : Prop := t < 6 ∧ wi w 82 (4 * t) = nI 0 ∧ wi w 82 (4 * t + 1) = nI F.length ∧ wi w 82 (4 * t + 2) = nI (F ++ B).length ∧ wi w 82 (4 * t + 3) = nI (F ++ B ++ G).length ∧ (∀ j c, (F ++ B ++ G)[j]? = some c → wi w 81 (200 * t + j) = mcode c) ∧ (F ++ B ++ G).length ≤ 200
theorem says_stepM {w : Wd} {t pt e i : Nat} {c : Int32} {st : List Int32} {p : List Int32} {env : Int32 → Int32}
    (hL : LayM w) (ht : wi w 75 10 = nI t) (ht6 : t < 6) (hpt : pt < 3) (he : wi w 82 (4 * t + pt + 1) = nI e) (hie : i < e) (he2 : e ≤ 200) (hci : wi w 81 (200 * t + i) = mcode c) (hc : okC c) (hok : okP (c :: p) st.length) (hk : st.length ≤ 40) (hst : Stk w 91 st)
    (henv : env 10000 = wi w 92 0 ∧ env 10001 = wi w 92 1 ∧ env 10002 = wi w 92 2 ∧ env 10003 = wi w 92 3 ∧ env 10004 = wi w 92 4 ∧ env 10005 = wi w 92 5) :
    ∃ w', Stk w' 91 (step1 env st c) ∧ Fr (· = 91) w w' ∧ okP p (step1 env st c).length ∧ (step1 env st c).length ≤ 40 ∧ ∀ k, b6_says_16 k (75, nI pt, nI st.length, nI i) w = k (75, nI pt, nI (step1 env st c).length, nI (i + 1)) w' := by
  have a1 : (4 : Int32) * nI t + nI pt + 1 = nI (4 * t + pt + 1) := by rw [i4, nI_add, i3_1]
  have a2 : (200 : Int32) * nI t + nI i = nI (200 * t + i) := by rw [i200, nI_add]
  have c1 : (nI (4 * t + pt + 1)).toNatClampNeg = 4 * t + pt + 1 := nI_clamp (by omega)
  have c2 : (nI (200 * t + i)).toNatClampNeg = 200 * t + i := nI_clamp (by omega)
  have v1 : vp_in (nI (4 * t + pt + 1)) 24 := vin (by omega) (by omega)
  have v2 : vp_in (nI (200 * t + i)) 1200 := vin (by omega) (by omega)
  have n1 : ¬ nI e ≤ nI i := nI_ge hie (by omega)
  have pushed : ∀ (x : Int32), st.length < 40 → step1 env st c = x :: st → okP p (st.length + 1) → (∀ k, b6_says_16 k (75, nI pt, nI st.length, nI i) w = j6_says_93 k 75 (nI pt) (nI st.length) (nI i) x (nI st.length) 91 w) → ∃ w', Stk w' 91 (step1 env st c) ∧ Fr (· = 91) w w' ∧ okP p (step1 env st c).length ∧ (step1 env st c).length ≤ 40 ∧ ∀ k, b6_says_16 k (75, nI pt, nI st.length, nI i) w = k (75, nI pt, nI (step1 env st c).length, nI (i + 1)) w' := by
    intro x hlt hs hp hb
    rw [hs]
    refine ⟨_, hst.push, Fr.sI rfl, hp, hlt, fun k => ?_⟩
    rw [hb]
    unfold j6_says_93 j6_says_191
    rw [hL.l27, ck_pos (And.intro hL.t27 (vin (by omega) (by omega))), nI_clamp (by omega), i3_1, i3_1]
    rfl
  rcases okP_un hok with ⟨g1, g2, g3⟩ | ⟨g1, g2, g3, g4⟩
  · have es : step1 env st c = (if 10000 ≤ c then env c else c) :: st := by unfold step1; rw [if_pos g1]
    rcases okC_cases hc with ⟨h1, h2⟩ | h1 | h1
    · obtain ⟨m1, m2, m3⟩ := mcode_num h1 h2
      refine pushed c g2 (by rw [es, if_neg]; intro z; exact Int32.lt_irrefl (Int32.lt_of_lt_of_le h2 z)) g3 fun k => ?_
      unfold b6_says_16
      dsimp only
      simp only [ck_pos hL.t, hL.r8, hL.l8, ht, a1, c1, ck_pos (And.intro hL.t8 v1), he, if_neg n1, hL.r7, hL.l7, a2, c2, ck_pos (And.intro hL.t7 v2), hci, hL.r27, hL.l27, if_pos m2]
      unfold j6_says_66
      have m4 : (11 : Int32) ≤ mcode c := Int32.le_trans (by decide) m2
      simp only [ck_pos hL.t, if_pos m4, m3, hL.r27]
    · obtain ⟨j, j1, j2, j3⟩ : ∃ j, j < 6 ∧ mcode c = nI j ∧ env c = wi w 92 j := by
        obtain ⟨q0, q1, q2, q3, q4, q5⟩ := henv
        rcases h1 with rfl | rfl | rfl | rfl | rfl | rfl
        · exact ⟨0, by decide, by decide, q0⟩
        · exact ⟨1, by decide, by decide, q1⟩
        · exact ⟨2, by decide, by decide, q2⟩
        · exact ⟨3, by decide, by decide, q3⟩
        · exact ⟨4, by decide, by decide, q4⟩
        · exact ⟨5, by decide, by decide, q5⟩
      refine pushed (env c) g2 (by rw [es, if_pos]; rcases h1 with rfl | rfl | rfl | rfl | rfl | rfl <;> decide) g3 fun k => ?_
      have m1 : ¬ (100000 : Int32) ≤ nI j := nI_ge (a := j) (b := 100000) (by omega) (by omega)
      have m2 : ¬ (11 : Int32) ≤ nI j := nI_ge (a := j) (b := 11) (by omega) (by omega)
      unfold b6_says_16
      dsimp only
      simp only [ck_pos hL.t, hL.r8, hL.l8, ht, a1, c1, ck_pos (And.intro hL.t8 v1), he, if_neg n1, hL.r7, hL.l7, a2, c2, ck_pos (And.intro hL.t7 v2), hci, hL.r27, hL.l27]
      simp only [j2, if_neg m1, if_neg m2]
      unfold j6_says_66
      rw [ck_pos hL.t, if_neg m2, hL.r28, hL.l28, ck_pos (And.intro hL.t28 (vin j1 (by omega))), nI_clamp (by omega), hL.r27, j3]
    · exfalso
      rcases h1 with rfl | rfl | rfl | rfl | rfl | rfl | rfl | rfl | rfl <;> exact absurd g1 (by decide)
  · have hops : c = 10010 ∨ c = 10011 ∨ c = 10012 ∨ c = 10013 ∨ c = 10014 ∨ c = 10015 ∨ c = 10016 ∨ c = 10017 ∨ c = 10018 := by
      rcases okC_cases hc with ⟨h1, h2⟩ | h1 | h1
      · exact absurd (Int32.lt_trans h2 (by decide)) g1
      · exfalso
        rcases h1 with rfl | rfl | rfl | rfl | rfl | rfl <;> exact g1 (by decide)
      · exact h1
    have m1 : ¬ (100000 : Int32) ≤ mcode c := by rcases hops with rfl | rfl | rfl | rfl | rfl | rfl | rfl | rfl | rfl <;> decide
    have m2 : (11 : Int32) ≤ mcode c := by rcases hops with rfl | rfl | rfl | rfl | rfl | rfl | rfl | rfl | rfl <;> decide
    have g4' := g4 env st rfl
    have g5 := Nat.le_trans (step1_len (env := env) g1 st) hk
    match st, g2 with
    | v :: r, _ =>
      simp only [List.length_cons] at hk g3 ⊢
      obtain ⟨hv, hr⟩ := hst
      have vr : vp_in (nI r.length) 200 := vin (by omega) (by omega)
      have cr : (nI r.length).toNatClampNeg = r.length := nI_clamp (by omega)
      by_cases e12 : c = 10012
      · subst e12
        have es : step1 env (v :: r) 10012 = (if v = 0 then 1 else 0) :: r := rfl
        rw [es] at g4' g5 ⊢
        refine ⟨_, hr.push, Fr.sI rfl, g4', g5, fun k => ?_⟩
        unfold b6_says_16
        dsimp only
        simp only [ck_pos hL.t, hL.r8, hL.l8, ht, a1, c1, ck_pos (And.intro hL.t8 v1), he, if_neg n1, hL.r7, hL.l7, a2, c2, ck_pos (And.intro hL.t7 v2), hci, hL.r27, hL.l27]
        rw [if_neg m1, if_pos m2, if_pos (by decide), ni1, ck_pos (And.intro hL.t27 vr), cr, hv]
        unfold j6_says_130 j6_says_191
        rw [hL.l27, ck_pos (And.intro hL.t27 vr), cr, i3_1]
        simp only [lw, List.length_cons]
        split
        · rfl
        · rw [ck_pos (And.intro hL.t27 vr)]
      by_cases e13 : c = 10013
      · subst e13
        have es : step1 env (v :: r) 10013 = (-v) :: r := rfl
        rw [es] at g4' g5 ⊢
        refine ⟨_, hr.push, Fr.sI rfl, g4', g5, fun k => ?_⟩
        unfold b6_says_16
        dsimp only
        simp only [ck_pos hL.t, hL.r8, hL.l8, ht, a1, c1, ck_pos (And.intro hL.t8 v1), he, if_neg n1, hL.r7, hL.l7, a2, c2, ck_pos (And.intro hL.t7 v2), hci, hL.r27, hL.l27]
        rw [if_neg m1, if_pos m2, if_neg (by decide), if_pos (by decide), ni1, ck_pos (And.intro hL.t27 vr), ck_pos vr, cr, hv]
        unfold j6_says_191
        rw [i3_1]
        rfl
      match r, g3 (fun z => z.elim e12 e13) with
      | u :: r, _ =>
        simp only [List.length_cons] at hk vr cr ⊢
        obtain ⟨hu, hr⟩ := hr
        have hv : wi w 91 (r.length + 1) = v := hv
        have vr2 : vp_in (nI r.length) 200 := vin (by omega) (by omega)
        have cr2 : (nI r.length).toNatClampNeg = r.length := nI_clamp (by omega)
        have es : step1 env (v :: u :: r) c = bin2 c u v :: r := by
          unfold step1
          rw [if_neg g1, if_neg e12, if_neg e13]
        rw [es] at g4' g5 ⊢
        have n13 : ¬ mcode c = 13 := by rcases hops with rfl | rfl | rfl | rfl | rfl | rfl | rfl | rfl | rfl <;> first | decide | exact absurd rfl e12 | exact absurd rfl e13
        have n19 : ¬ mcode c = 19 := by rcases hops with rfl | rfl | rfl | rfl | rfl | rfl | rfl | rfl | rfl <;> first | decide | exact absurd rfl e12 | exact absurd rfl e13
        have hle : c ≤ 10018 := hc.2.1
        refine ⟨_, hr.push, Fr.sI rfl, g4', g5, fun k => ?_⟩
        unfold b6_says_16
        dsimp only
        simp only [ck_pos hL.t, hL.r8, hL.l8, ht, a1, c1, ck_pos (And.intro hL.t8 v1), he, if_neg n1, hL.r7, hL.l7, a2, c2, ck_pos (And.intro hL.t7 v2), hci, hL.r27, hL.l27]
        rw [if_neg m1, if_pos m2, if_neg n13, if_neg n19, im1, ni1, ck_pos (And.intro hL.t27 vr2), ck_pos vr, cr, cr2, hu, hv, two_ref w g1 e12 e13 hle, Option.bind_some]
        dsimp only
        rw [hL.l27, ck_pos vr2]
        unfold j6_says_191
        rw [i3_1]
        rfl
theorem says_ref {w : Wd} {t pt : Nat} {F B G : List Int32} {env : Int32 → Int32} (hL : LayM w) (ht : wi w 75 10 = nI t) (hP : ProgM w t F B G) (hpt : pt < 3) (hok : okP F 0 ∧ okP B 0 ∧ okP G 0) (hc : ∀ c ∈ F ++ B ++ G, okC c)
    (henv : env 10000 = wi w 92 0 ∧ env 10001 = wi w 92 1 ∧ env 10002 = wi w 92 2 ∧ env 10003 = wi w 92 3 ∧ env 10004 = wi w 92 4 ∧ env 10005 = wi w 92 5) :
    ∃ w', f6_says 75 (nI pt) w = some ((runP env (partP F B G (nI pt)) []).headD 0, w') ∧ Fr (· = 91) w w' := by
  obtain ⟨ht6, s0, s1, s2, s3, hcd, hlen⟩ := hP
  simp only [List.length_append] at s1 s2 s3 hlen
  -- the part and where it lies
  obtain ⟨p, from0, hp1, hp2, hp3, hp4, hp5, hp6⟩ : ∃ (p : List Int32) (from0 : Nat), partP F B G (nI pt) = p ∧ wi w 82 (4 * t + pt) = nI from0 ∧ wi w 82 (4 * t + pt + 1) = nI (from0 + p.length) ∧ (∀ j c, p[j]? = some c → wi w 81 (200 * t + (from0 + j)) = mcode c ∧ okC c) ∧ from0 + p.length ≤ 200 ∧ okP p 0 := by
    rcases (by omega : pt = 0 ∨ pt = 1 ∨ pt = 2) with rfl | rfl | rfl
    · refine ⟨F, 0, rfl, s0, by rw [Nat.zero_add]; exact s1, fun j c h => ?_, by omega, hok.1⟩
      have h1 : (F ++ B ++ G)[j]? = some c := by rw [List.append_assoc, List.getElem?_append_left (List.getElem?_eq_some_iff.mp h).1]; exact h
      exact ⟨by rw [Nat.zero_add]; exact hcd j c h1, hc c (List.mem_of_getElem? h1)⟩
    · refine ⟨B, F.length, rfl, s1, s2, fun j c h => ?_, by omega, hok.2.1⟩
      have h1 : (F ++ B ++ G)[F.length + j]? = some c := by rw [List.append_assoc, List.getElem?_append_right (by omega), Nat.add_sub_cancel_left, List.getElem?_append_left (List.getElem?_eq_some_iff.mp h).1]; exact h
      exact ⟨hcd _ c h1, hc c (List.mem_of_getElem? h1)⟩
    · refine ⟨G, F.length + B.length, rfl, s2, s3, fun j c h => ?_, by omega, hok.2.2⟩
      have h1 : (F ++ B ++ G)[F.length + B.length + j]? = some c := by rw [List.getElem?_append_right (by simp), List.length_append, Nat.add_sub_cancel_left]; exact h
      exact ⟨hcd _ c h1, hc c (List.mem_of_getElem? h1)⟩
  rw [hp1]
  have a1 : (4 : Int32) * nI t + nI pt = nI (4 * t + pt) := by rw [i4, nI_add]
  have c1 : (nI (4 * t + pt)).toNatClampNeg = 4 * t + pt := nI_clamp (by omega)
  have v1 : vp_in (nI (4 * t + pt)) 24 := vin (by omega) (by omega)
  unfold f6_says
  rw [ck_pos hL.t, hL.r8, hL.l8, ht, a1, c1, ck_pos (And.intro hL.t8 v1), hp2]
  refine loopE (R := fun o => ∃ w', o = some ((runP env p []).headD 0, w') ∧ Fr (· = 91) w w') (I := fun i v w1 => Fr (· = 91) w w1 ∧ ∃ st, st = runP env (p.take i) [] ∧ v = (75, nI pt, nI st.length, nI (from0 + i)) ∧ Stk w1 91 st ∧ st.length ≤ 40 ∧ okP (p.drop i) st.length) p.length ?_ ?_ FU _ w (by show p.length < 1000; omega) ?_
  · intro i v w1 hi hI
    obtain ⟨hF, st, e1, rfl, hst, hk, hok1⟩ := hI
    obtain ⟨c, q, hd⟩ : ∃ c q, p.drop i = c :: q := by
      cases hd : p.drop i with
      | nil => have := List.drop_eq_nil_iff.mp hd; omega
      | cons c q => exact ⟨c, q, rfl⟩
    obtain ⟨t1, t2, t3, t4⟩ := take_snoc p i hd
    rw [hd] at hok1
    have hF75 := hF.2.2 75 (by decide)
    have hF82 := hF.2.2 82 (by decide)
    have hF81 := hF.2.2 81 (by decide)
    have hF92 := hF.2.2 92 (by decide)
    have hL1 : LayM w1 := ⟨by rw [hF.1]; exact hL.1, fun x hx => ⟨by rw [hF75.2]; exact (hL.2 x hx).1, by rw [hF.1]; exact (hL.2 x hx).2⟩⟩
    obtain ⟨w2, b1, b2, b3, b4, b5⟩ := says_stepM (w := w1) (t := t) (pt := pt) (e := from0 + p.length) (i := from0 + i) (c := c) (st := st) (p := q) (env := env) hL1 (by rw [hF75.1]; exact ht) ht6 hpt (by rw [hF82.1]; exact hp3) (by omega) hp5 (by rw [hF81.1]; exact (hp4 i c t3).1) (hp4 i c t3).2 hok1 hk hst (by simp only [hF92.1]; exact henv)
    refine ⟨_, w2, ⟨hF.tr b2, step1 env st c, ?_, rfl, b1, b4, by rw [t2]; exact b3⟩, fun k => b5 k⟩
    rw [t1]
    show _ = List.foldl (step1 env) [] (List.take i p ++ [c])
    rw [List.foldl_append]
    show step1 env st c = step1 env (runP env (p.take i) []) c
    rw [← e1]
  · intro v w1 hI k
    obtain ⟨hF, st, e1, rfl, hst, hk, hok1⟩ := hI
    rw [List.take_length] at e1
    rw [List.drop_length] at hok1
    unfold okP at hok1
    match st, hok1 with
    | [x], _ =>
      obtain ⟨hx, -⟩ := hst
      refine ⟨w1, ?_, hF⟩
      have hF75 := hF.2.2 75 (by decide)
      have hF82 := hF.2.2 82 (by decide)
      have hL1 : LayM w1 := ⟨by rw [hF.1]; exact hL.1, fun x hx => ⟨by rw [hF75.2]; exact (hL.2 x hx).1, by rw [hF.1]; exact (hL.2 x hx).2⟩⟩
      have a2 : (4 : Int32) * nI t + nI pt + 1 = nI (4 * t + pt + 1) := by rw [i4, nI_add, i3_1]
      have c2 : (nI (4 * t + pt + 1)).toNatClampNeg = 4 * t + pt + 1 := nI_clamp (by omega)
      have v2 : vp_in (nI (4 * t + pt + 1)) 24 := vin (by omega) (by omega)
      have hx' : wi w1 91 0 = x := hx
      unfold b6_says_16
      dsimp only
      rw [ck_pos hL1.t, hL1.r8, hL1.l8, hF75.1, ht, a2, c2, ck_pos (And.intro hL1.t8 v2), hF82.1, hp3, if_pos (Int32.le_refl _), hL1.r27, hL1.l27, ck_pos (And.intro hL1.t27 v0_200), cl0, hx', ← e1]
      rfl
  · exact ⟨Fr.rf, [], rfl, rfl, trivial, Nat.zero_le _, hp6⟩
