/-! pouring and stoking what is -/
def pourS (S : SS) (l : Int32) : SS := ((pourM S.1.1 l, S.1.2), S.2)
theorem pour_hut {w : Wd} {a many : Nat} {s : HS} {F B G : List Int32} {l : Int32} (h : HutC w a many s F B G) : HutC (sI (sI w a 1 (pour1 s l)) a 2 (pour2 s l)) a many (pourM s l) F B G := (h.setH (by decide)).setH (by decide)
theorem pour_mod {w : Wd} {many t : Nat} {s : HS} {F B G : List Int32} {l : Int32} (h : ModC w many t s F B G) : ModC (sI (sI w 79 1 (pour1 s l)) 79 2 (pour2 s l)) many t (pourM s l) F B G := (h.setH (by decide)).setH (by decide)
theorem v1_3 {l : Int32} (h : 1 ≤ l ∧ l ≤ 3) : rng l 1 3 := by
  rw [ile, ile] at h
  exact h
theorem SI.pour {S : SS} {l : Int32} (h : SI S) (hl : rng l 1 3) (h20 : 20 * l ≤ S.1.1.1 1) : SI (pourS S l) := by
  obtain ⟨⟨a1, a2, a3, a6, a7⟩, _⟩ := id h
  exact h.upd (c' := (pourM S.1.1 l, S.1.2)) ⟨a1, a2, (pour_rng a3 hl h20).1, a6, a7⟩ rfl fun b _ => ⟨rfl, rfl⟩
theorem pour_pair (l : Int32) : Pair (f5_pour 32 l) (f6_pour 75 l) := pair_of fun S hS => by
  rcases within2 l 1 3 with ⟨h1, h2⟩ | ⟨h1, h2⟩
  · have hl := v1_3 h1
    by_cases h20 : 20 * l ≤ S.1.1.1 1
    · refine ⟨(pour2 S.1.1 l, pourS S l), fun w h => ?_, fun w h => ?_, hS.pour hl h20⟩
      · refine ⟨sI (sI w 42 1 (pour1 S.1.1 l)) 42 2 (pour2 S.1.1 l), ?_, (h.setH (k := 1) (by decide)).setH (k := 2) (by decide), (offH (by decide) (by decide)).tr (offH (by decide) (by decide))⟩
        unfold f5_pour
        rw [(h2 w).2, Option.bind_some, if_neg (show ¬ (1 : Int32) = 0 by decide)]
        dsimp only
        rw [ck_pos h.t, h.r3, ck_pos h.t42, pour_c h.hc, if_pos h20, Option.bind_some, if_neg (show ¬ (1 : Int32) = 0 by decide)]
        dsimp only
        rw [wr_sI, wr_sI, h.r3, tg_sI, tg_sI, ck_pos h.t42, wi_sI, if_pos ⟨rfl, rfl⟩]
      · refine ⟨sI (sI w 79 1 (pour1 S.1.1 l)) 79 2 (pour2 S.1.1 l), ?_, (h.setH (k := 1) (by decide)).setH (k := 2) (by decide), (off78 (Or.inr (Or.inl rfl))).tr (off78 (Or.inr (Or.inl rfl)))⟩
        have g := (pour_mod (l := l) h.1).1
        unfold f6_pour
        rw [(h2 w).1, Option.bind_some, if_neg (show ¬ (1 : Int32) = 0 by decide)]
        dsimp only
        rw [ck_pos h.1.1.t, pour_r h.1 hS.rg hl, if_pos h20, Option.bind_some, if_neg (show ¬ (1 : Int32) = 0 by decide)]
        dsimp only
        rw [g.r4, g.l4, ck_pos (And.intro g.t4 (show vp_in (2 : Int32) 4 from vin (i := 2) (by decide) (by decide))), show ((2 : Int32)).toNatClampNeg = 2 from rfl, wi_sI, if_pos ⟨rfl, rfl⟩]
    · refine ⟨(-3, S), fun w h => ⟨w, ?_, h, OffM.rf⟩, fun w h => ⟨w, ?_, h, OffC.rf⟩, hS⟩
      · unfold f5_pour
        rw [(h2 w).2, Option.bind_some, if_neg (show ¬ (1 : Int32) = 0 by decide)]
        dsimp only
        rw [ck_pos h.t, h.r3, ck_pos h.t42, pour_c h.hc, if_neg h20, Option.bind_some, if_pos rfl]
      · unfold f6_pour
        rw [(h2 w).1, Option.bind_some, if_neg (show ¬ (1 : Int32) = 0 by decide)]
        dsimp only
        rw [ck_pos h.1.1.t, pour_r h.1 hS.rg hl, if_neg h20, Option.bind_some, if_pos rfl]
  · refine ⟨(-2, S), fun w h => ⟨w, ?_, h, OffM.rf⟩, fun w h => ⟨w, ?_, h, OffC.rf⟩, hS⟩
    · unfold f5_pour
      rw [(h2 w).2, Option.bind_some, if_pos rfl]
    · unfold f6_pour
      rw [(h2 w).1, Option.bind_some, if_pos rfl]
/-- a log -/
def burn1 (s : HS) : Int32 := if s.1 1 + 50 < 999 then s.1 1 + 50 else 999
def burnM (s : HS) : HS := (setr (setr s.1 3 (s.1 3 - 1)) 1 (burn1 s), s.2)
def burnW (w : Wd) (a : Nat) (s : HS) : Wd := sI (sI w a 3 (s.1 3 - 1)) a 1 (burn1 s)
theorem burn_c {w : Wd} {a many : Nat} {s : HS} {F B G : List Int32} (h : HutC w a many s F B G) : f1_burnLog a w = some ((), burnW w a s) ∧ HutC (burnW w a s) a many (burnM s) F B G := by
  refine ⟨?_, (h.setH (by decide)).setH (by decide)⟩
  unfold f1_burnLog lw burnW
  dsimp only
  have e2 : ∀ v, wi (sI w a 3 v) a 1 = s.1 1 := fun v => by rw [wi_sI, if_neg (fun z => absurd z.2 (by decide))]; exact h.hut (by decide)
  rw [ck_pos h.tgA, h.hut (by decide : 3 < 4)]
  simp only [e2]
  rfl
theorem burn_rng {s : HS} {many : Nat} (hr : Rg many s) : Rg many (burnM s) ∧ bnd (s.1 1 + 50) 0 999 = burn1 s := by
  obtain ⟨r1, r2, r3⟩ := hr
  unfold rng at r1
  have e2 : (s.1 1 + 50).toInt = (s.1 1).toInt + 50 := by rw [iadd] <;> rw [show (50 : Int32).toInt = 50 from rfl] <;> omega
  refine ⟨⟨?_, r2, r3⟩, ?_⟩
  · show rng (burn1 s) 0 999
    unfold burn1 rng
    simp only [ilt, e2, show (999 : Int32).toInt = 999 from rfl]
    split
    · rw [e2]; omega
    · rw [show (999 : Int32).toInt = 999 from rfl]; omega
  · unfold bnd burn1
    simp only [ilt, e2, show (999 : Int32).toInt = 999 from rfl, show (0 : Int32).toInt = 0 from rfl]
    rw [if_neg (by omega)]
    split <;> split <;> first | rfl | omega | (apply Int32.toInt_inj.mp; rw [e2]; rw [show (999 : Int32).toInt = 999 from rfl]; omega)
theorem burn_r {w : Wd} {many t : Nat} {s : HS} {F B G : List Int32} (h : ModC w many t s F B G) (hr : Rg many s) : f6_burns 75 w = some ((), burnW w 79 s) ∧ ModC (burnW w 79 s) many t (burnM s) F B G := by
  refine ⟨?_, (h.setH (by decide)).setH (by decide)⟩
  have h' := id h
  obtain ⟨a1, a2, a3, a4, a5, a6, a7, a8, a9⟩ := h'
  unfold f6_burns
  have e2 : ∀ v, wi (sI w 79 3 v) 79 1 = s.1 1 := fun v => by rw [wi_sI, if_neg (fun z => absurd z.2 (by decide))]; exact a4 1 (by decide)
  simp only [a1.t, a1.r1, a1.t1, a1.l1, a1.r2, a1.t2, a1.l2, a1.r3, a1.t3, a1.l3, a1.r4, a1.t4, a1.l4, a1.r5, a1.t5, a1.l5, a1.r7, a1.t7, a1.l7, a1.r8, a1.t8, a1.l8, a1.r12, a1.t12, a1.l12, a1.r13, a1.t13, a1.l13, a1.r14, a1.t14, a1.l14, a1.r15, a1.t15, a1.l15, a1.r16, a1.t16, a1.l16, a1.r17, a1.t17, a1.l17, a1.r22, a1.t22, a1.l22, a1.r23, a1.t23, a1.l23, a1.r27, a1.t27, a1.l27, a1.r28, a1.t28, a1.l28, a1.r29, a1.t29, a1.l29, lw, tg_sI, tg_sR, ln_sI, ln_sR, wr_sI, wi_sR, sh_sI, sh_sR, ck_true, true_and, and_true, and_self, Option.bind_some, cl0, cl1, cl2, cl3, cl4, cl5, v0_2, v1_2, v0_4, v1_4, v2_4, v3_4, v0_6, v1_6, v2_6, v3_6, v4_6, v5_6, v0_200, a4 3 (by decide), within_ref, e2]
  rw [(burn_rng hr).2]
  rfl
def burnS (S : SS) : SS := ((burnM S.1.1, S.1.2), S.2)
theorem SI.burn {S : SS} (h : SI S) (h3 : S.1.1.1 3 ≠ 0) : SI (burnS S) := by
  obtain ⟨⟨a1, a2, a3, a6, a7⟩, _⟩ := id h
  refine h.upd (c' := (burnM S.1.1, S.1.2)) ⟨a1, a2, (burn_rng a3).1, a6, ?_⟩ rfl fun b _ => ⟨rfl, rfl⟩
  show rng (S.1.1.1 3 - 1) 0 99
  unfold rng at a7 ⊢
  have : (S.1.1.1 3).toInt ≠ 0 := fun e => h3 (by rw [ieq, e]; rfl)
  rw [isub] <;> rw [show (1 : Int32).toInt = 1 from rfl] <;> omega
theorem stoke_pair : Pair (f5_stoke 32) (f6_stoke 75) := pair_of fun S hS => by
  by_cases h3 : S.1.1.1 3 = 0
  · refine ⟨(-3, S), fun w h => ⟨w, ?_, h, OffM.rf⟩, fun w h => ⟨w, ?_, h, OffC.rf⟩, hS⟩
    · unfold f5_stoke
      rw [ck_pos h.t, h.r3, ck_pos h.t42, h.hc.hut (by decide : 3 < 4), if_pos h3]
    · unfold f6_stoke
      rw [ck_pos h.1.1.t, h.1.1.r4, h.1.1.l4, ck_pos (And.intro h.1.1.t4 (show vp_in (3 : Int32) 4 from vin (i := 3) (by decide) (by decide))), show ((3 : Int32)).toNatClampNeg = 3 from rfl, h.1.2.2.2.1 3 (by decide), if_pos h3]
  · refine ⟨(burn1 S.1.1, burnS S), fun w h => ?_, fun w h => ?_, hS.burn h3⟩
    · refine ⟨burnW w 42 S.1.1, ?_, (h.setH (k := 3) (by decide)).setH (k := 1) (by decide), (offH (by decide) (by decide)).tr (offH (by decide) (by decide))⟩
      unfold f5_stoke
      rw [ck_pos h.t, h.r3, ck_pos h.t42, h.hc.hut (by decide : 3 < 4), if_neg h3, (burn_c h.hc).1, Option.bind_some]
      unfold burnW
      dsimp only
      rw [wr_sI, wr_sI, h.r3, tg_sI, tg_sI, ck_pos h.t42, wi_sI, if_pos ⟨rfl, rfl⟩]
    · refine ⟨burnW w 79 S.1.1, ?_, (h.setH (k := 3) (by decide)).setH (k := 1) (by decide), (off78 (Or.inr (Or.inl rfl))).tr (off78 (Or.inr (Or.inl rfl)))⟩
      have g := (burn_r h.1 hS.rg).2.1
      unfold f6_stoke
      rw [ck_pos h.1.1.t, h.1.1.r4, h.1.1.l4, ck_pos (And.intro h.1.1.t4 (show vp_in (3 : Int32) 4 from vin (i := 3) (by decide) (by decide))), show ((3 : Int32)).toNatClampNeg = 3 from rfl, h.1.2.2.2.1 3 (by decide), if_neg h3, (burn_r h.1 hS.rg).1, Option.bind_some]
      dsimp only
      rw [g.r4, g.l4, ck_pos (And.intro g.t4 (show vp_in (1 : Int32) 4 from vin (i := 1) (by decide) (by decide))), show ((1 : Int32)).toNatClampNeg = 1 from rfl]
      unfold burnW
      rw [wi_sI, if_pos ⟨rfl, rfl⟩]
