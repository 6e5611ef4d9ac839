/-! what a minute leaves; pouring, stoking, the minute itself -/
def Same (s s' : HS) : Prop := s'.1 0 = s.1 0 ∧ s'.1 3 = s.1 3 ∧ s'.1 1 = s.1 1 ∧ ∀ b, s'.2 b 0 = s.2 b 0 ∧ s'.2 b 1 = s.2 b 1
theorem upR_same {ba : Nat → Nat → Int32} {b : Nat} {r : Nat → Int32} {i : Nat} (h : r i = ba b i) : ∀ x, upR ba b r x i = ba x i := by
  intro x
  unfold upR
  split
  · rename_i e; subst e; exact h
  · rfl
theorem step_same (sy : Int32 → (Int32 → Int32) → Int32) (many : Nat) (s : HS) (b : Nat) : Same s (stepM sy many s b).1 := by
  have k1 : ∀ {r : Nat → Int32}, r 0 = s.2 b 0 → r 1 = s.2 b 1 → ∀ x, upR s.2 b r x 0 = s.2 x 0 ∧ upR s.2 b r x 1 = s.2 x 1 := fun h0 h1 x => ⟨upR_same h0 x, upR_same h1 x⟩
  unfold stepM outM
  split
  · exact ⟨rfl, rfl, rfl, k1 rfl rfl⟩
  · dsimp only
    split
    · exact ⟨rfl, rfl, rfl, k1 rfl rfl⟩
    · exact ⟨rfl, rfl, rfl, k1 rfl rfl⟩
theorem Same.tr {a b c : HS} (h1 : Same a b) (h2 : Same b c) : Same a c := ⟨h2.1.trans h1.1, h2.2.1.trans h1.2.1, h2.2.2.1.trans h1.2.2.1, fun x => ⟨(h2.2.2.2 x).1.trans (h1.2.2.2 x).1, (h2.2.2.2 x).2.trans (h1.2.2.2 x).2⟩⟩
theorem minF_same (sy : Int32 → (Int32 → Int32) → Int32) (many : Nat) (s : HS) : ∀ b, Same s (minF sy many s b).1
  | 0 => ⟨rfl, rfl, rfl, fun _ => ⟨rfl, rfl⟩⟩
  | b + 1 => (minF_same sy many s b).tr (step_same sy many _ b)
theorem min_same (sy : Int32 → (Int32 → Int32) → Int32) (many : Nat) (s : HS) : (minM sy many s).1 0 = s.1 0 + 1 ∧ (minM sy many s).1 3 = s.1 3 ∧ ∀ b, (minM sy many s).2 b 0 = s.2 b 0 ∧ (minM sy many s).2 b 1 = s.2 b 1 := by
  obtain ⟨h0, h3, h1, hb⟩ := minF_same sy many s many
  refine ⟨?_, ?_, hb⟩
  · show (minF sy many s many).1.1 0 + 1 = _
    rw [h0]
  · exact h3
theorem goC_kind (T : List PG) (c : CO) : ∀ n b, (goC T c n).1.2 b 0 = c.1.2 b 0 ∧ (goC T c n).1.2 b 1 = c.1.2 b 1
  | 0, _ => ⟨rfl, rfl⟩
  | n + 1, b => ⟨((min_same _ _ _).2.2 b).1.trans (goC_kind T c n b).1, ((min_same _ _ _).2.2 b).2.trans (goC_kind T c n b).2⟩
theorem SI.min {S : SS} (h : SI S) (hm : S.1.1.1 0 ≠ 999) : SI (minC S.2.1 S.1, S.2) := by
  obtain ⟨⟨a1, a2, a3, a6, a7⟩, _⟩ := id h
  obtain ⟨m0, m3, mb⟩ := min_same (sySS S.2.1 S.1.2.2) S.1.2.1 S.1.1
  refine h.upd (c' := minC S.2.1 S.1) ⟨a1, a2, min_rng a3, ?_, ?_⟩ rfl fun b _ => mb b
  · show rng ((minM _ _ _).1 0) 0 999
    rw [m0]
    unfold rng at a6 ⊢
    have : (S.1.1.1 0).toInt ≠ 999 := fun e => hm (by rw [ieq, e]; rfl)
    rw [iadd] <;> rw [show (1 : Int32).toInt = 1 from rfl] <;> omega
  · show rng ((minM _ _ _).1 3) 0 99
    rw [m3]
    exact a7
theorem minute_pair : Pair (f5_minute 32) (f6_minute 75) := pair_of fun S hS => by
  have h0 : rng (S.1.1.1 0) 0 999 := hS.1.2.2.2.1
  by_cases hm : S.1.1.1 0 = 999
  · refine ⟨(-3, S), fun w h => ⟨w, ?_, h, OffM.rf⟩, fun w h => ⟨w, ?_, h, OffC.rf⟩, hS⟩
    · unfold f5_minute
      rw [ck_pos h.t, h.r3, ck_pos h.t42, h.hc.hut (by decide : 0 < 4), hm]
      rfl
    · unfold f6_minute
      rw [ck_pos h.1.1.t, h.1.1.r4, h.1.1.l4, ck_pos (And.intro h.1.1.t4 (show vp_in (0 : Int32) 4 from vin (i := 0) (by decide) (by decide))), show ((0 : Int32)).toNatClampNeg = 0 from rfl, h.1.2.2.2.1 0 (by decide), if_pos hm]
  · have hl : S.1.1.1 0 < 999 := by
      unfold rng at h0
      have : (S.1.1.1 0).toInt ≠ 999 := fun e => hm (by rw [ieq, e]; rfl)
      rw [ilt, show (999 : Int32).toInt = 999 from rfl]
      omega
    refine ⟨(gonC S.2.1 S.1, (minC S.2.1 S.1, S.2)), fun w h => ?_, fun w h => ?_, hS.min hm⟩
    · obtain ⟨w', b1, b2, b3, b4⟩ := minute_cls h.hc
      have t' := h.2.2.1.2.2 S.1.2.2 h.2.1.2.2
      have hs : stk w 42 = txL S.1.2.2 + 2 := by unfold stk; rw [h.2.1.2.1, t'.2.2.2.2]
      have hw : ∀ q k, wr w' q k = wr w q k := fun q k => congrFun (congrFun (kp_min 42 w _ b1) q) k
      have hF : Fr NC w w' := b2.mono fun q z => by
        rcases z with z | z
        · rw [z, hs]; exact (txNC _).2.2.nc
        · exact Or.inl z
      obtain ⟨x1, x2, x3, x4⟩ := h.h50
      refine ⟨w', ?_, h.upd hF ⟨b3, by rw [hw]; exact h.2.1.2.1, h.2.1.2.2⟩ ⟨by rw [hF.1]; exact x1, by rw [hw]; exact x2, by rw [hF.1]; exact x3, fun b hb => ⟨by rw [hw]; exact (x4 b hb).1, by rw [hF.1]; exact (x4 b hb).2⟩⟩, ncM hF⟩
      unfold f5_minute
      rw [ck_pos h.t, h.r3, ck_pos h.t42, h.hc.hut (by decide : 0 < 4), if_pos hl, b1]
      rfl
    · obtain ⟨w', b1, b2, b3⟩ := RM.min (S := S) (c := S.1) h hS.rg
      refine ⟨w', ?_, b2, tpC b3⟩
      unfold f6_minute
      rw [ck_pos h.1.1.t, h.1.1.r4, h.1.1.l4, ck_pos (And.intro h.1.1.t4 (show vp_in (0 : Int32) 4 from vin (i := 0) (by decide) (by decide))), show ((0 : Int32)).toNatClampNeg = 0 from rfl, h.1.2.2.2.1 0 (by decide), if_neg hm, b1]
      rfl
/-- ladles -/
def pour1 (s : HS) (l : Int32) : Int32 := s.1 1 - 10 * l
def pour2 (s : HS) (l : Int32) : Int32 := if s.1 2 + 3 * l < 99 then s.1 2 + 3 * l else 99
def pourM (s : HS) (l : Int32) : HS := (setr (setr s.1 1 (pour1 s l)) 2 (pour2 s l), s.2)
theorem pour_c {w : Wd} {a many : Nat} {s : HS} {F B G : List Int32} (h : HutC w a many s F B G) (l : Int32) : f1_pourLadles a l w = if 20 * l ≤ s.1 1 then some (1, sI (sI w a 1 (pour1 s l)) a 2 (pour2 s l)) else some (0, w) := by
  unfold f1_pourLadles lw
  dsimp only
  have e2 : ∀ v, wi (sI w a 1 v) a 2 = s.1 2 := fun v => by rw [wi_sI, if_neg (fun z => absurd z.2 (by decide))]; exact h.hut (by decide)
  rw [ck_pos h.tgA, h.hut (by decide : 1 < 4)]
  simp only [e2]
  rfl
theorem pour_rng {s : HS} {many : Nat} {l : Int32} (hr : Rg many s) (hl : rng l 1 3) (h : 20 * l ≤ s.1 1) : Rg many (pourM s l) ∧ bnd (s.1 2 + 3 * l) 0 99 = pour2 s l := by
  have hl3 : l = 1 ∨ l = 2 ∨ l = 3 := by
    unfold rng at hl
    simp only [ieq, show (1 : Int32).toInt = 1 from rfl, show (2 : Int32).toInt = 2 from rfl, show (3 : Int32).toInt = 3 from rfl]
    omega
  obtain ⟨r1, r2, r3⟩ := hr
  unfold rng at r1 r2
  rw [ile] at h
  have i20 : (20 * l).toInt = 20 * l.toInt := by rcases hl3 with rfl | rfl | rfl <;> rfl
  have i10 : (10 * l).toInt = 10 * l.toInt := by rcases hl3 with rfl | rfl | rfl <;> rfl
  have i3 : (3 * l).toInt = 3 * l.toInt := by rcases hl3 with rfl | rfl | rfl <;> rfl
  have lb : 1 ≤ l.toInt ∧ l.toInt ≤ 3 := hl
  have e1 : (s.1 1 - 10 * l).toInt = (s.1 1).toInt - 10 * l.toInt := by rw [isub] <;> rw [i10] <;> omega
  have e2 : (s.1 2 + 3 * l).toInt = (s.1 2).toInt + 3 * l.toInt := by rw [iadd] <;> rw [i3] <;> omega
  refine ⟨⟨?_, ?_, r3⟩, ?_⟩
  · show rng (pour1 s l) 0 999
    unfold pour1 rng
    rw [e1]
    omega
  · show rng (pour2 s l) 0 99
    unfold pour2 rng
    simp only [ilt, e2, show (99 : Int32).toInt = 99 from rfl]
    split
    · rw [e2]; omega
    · rw [show (99 : Int32).toInt = 99 from rfl]; omega
  · unfold bnd pour2
    simp only [ilt, e2, show (99 : Int32).toInt = 99 from rfl, show (0 : Int32).toInt = 0 from rfl]
    rw [if_neg (by omega)]
    split <;> split <;> first | rfl | omega | (apply Int32.toInt_inj.mp; rw [e2]; rw [show (99 : Int32).toInt = 99 from rfl]; omega)
theorem pour_r {w : Wd} {many t : Nat} {s : HS} {F B G : List Int32} {l : Int32} (h : ModC w many t s F B G) (hr : Rg many s) (hl : rng l 1 3) : f6_pours 75 l w = if 20 * l ≤ s.1 1 then some (1, sI (sI w 79 1 (pour1 s l)) 79 2 (pour2 s l)) else some (0, w) := by
  have h' := id h
  obtain ⟨a1, a2, a3, a4, a5, a6, a7, a8, a9⟩ := h'
  unfold f6_pours
  have e2 : ∀ v, wi (sI w 79 1 v) 79 2 = s.1 2 := fun v => by rw [wi_sI, if_neg (fun z => absurd z.2 (by decide))]; exact a4 2 (by decide)
  simp only [a1.t, a1.r1, a1.t1, a1.l1, a1.r2, a1.t2, a1.l2, a1.r3, a1.t3, a1.l3, a1.r4, a1.t4, a1.l4, a1.r5, a1.t5, a1.l5, a1.r7, a1.t7, a1.l7, a1.r8, a1.t8, a1.l8, a1.r12, a1.t12, a1.l12, a1.r13, a1.t13, a1.l13, a1.r14, a1.t14, a1.l14, a1.r15, a1.t15, a1.l15, a1.r16, a1.t16, a1.l16, a1.r17, a1.t17, a1.l17, a1.r22, a1.t22, a1.l22, a1.r23, a1.t23, a1.l23, a1.r27, a1.t27, a1.l27, a1.r28, a1.t28, a1.l28, a1.r29, a1.t29, a1.l29, lw, tg_sI, tg_sR, ln_sI, ln_sR, wr_sI, wi_sR, sh_sI, sh_sR, ck_true, true_and, and_true, and_self, Option.bind_some, cl0, cl1, cl2, cl3, cl4, cl5, v0_2, v1_2, v0_4, v1_4, v2_4, v3_4, v0_6, v1_6, v2_6, v3_6, v4_6, v5_6, v0_200, a4 1 (by decide), within_ref, e2]
  by_cases hh : 20 * l ≤ s.1 1
  · rw [if_pos hh, if_pos hh, (pour_rng hr hl hh).2]
    rfl
  · rw [if_neg hh, if_neg hh]
