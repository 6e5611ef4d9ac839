/-! told, put, asks, door -/
theorem RC.bat {S : SS} {w : Wd} {k : Nat} (h : RC S w) (hk : k < S.1.2.1) : wr w 42 6 = 43 ∧ tg w 43 = 22 ∧ ln w 43 = 6 ∧ wr w 43 k = 42 + 2 + k ∧ tg w (42 + 2 + k) = 0 ∧ vp_in (nI k) 6 ∧ (nI k).toNatClampNeg = k := by
  have hm := h.hc.2.2.2.2.2.2.1
  exact ⟨h.hc.2.1, tg_eq h.hc.2.2.1, ln_eq h.hc.2.2.1, (h.hc.2.2.2.1 k (by omega)).1, h.hc.tgB hk, vin (by omega) (by decide), nI_clamp (by omega)⟩
theorem rc_stk {S : SS} {w : Wd} (h : RC S w) : stk w 42 = txL S.1.2.2 + 2 := by
  have t' := h.2.2.1.2.2 S.1.2.2 h.2.1.2.2
  unfold stk
  rw [h.2.1.2.1, t'.2.2.2.2]
theorem RC.stkfr {S : SS} {w w' : Wd} (h : RC S w) (hF : Fr (· = stk w 42) w w') : RC S w' ∧ OffM w w' := by
  have hJ : Fr JC w w' := hF.mono fun q z => by rw [z, rc_stk h]; exact (txNC _).2.2
  have hn : ∀ q, q < 58 → 50 ≤ q → q ≠ stk w 42 := fun q h1 h2 => by
    rw [rc_stk h]
    unfold txL
    split <;> omega
  obtain ⟨x1, x2, x3, x4⟩ := h.h50
  refine ⟨h.junk hJ ⟨by rw [hF.1]; exact x1, by rw [(hF.2.2 50 (hn 50 (by decide) (by decide))).2]; exact x2, by rw [hF.1]; exact x3, fun b hb => ⟨by rw [(hF.2.2 (50 + 1) (hn 51 (by decide) (by decide))).2]; exact (x4 b hb).1, by rw [hF.1]; exact (x4 b hb).2⟩⟩, jcM hJ⟩
theorem RM.jfr {S : SS} {w w' : Wd} (h : RM S w) (hF : Fr JM w w') : RM S w' ∧ OffC w w' := by
  have hT : Fr TP w w' := hF.mono fun q z => by unfold JM at z; unfold TP; omega
  exact ⟨RM.fr (S := S) (c' := S.1) h (h.1.frJ hF) hT fun _ => Or.inl, tpC hT⟩
/-- told -/
def toldA (S : SS) (b : Nat) (x : Int32) : Int32 := if x = 0 then S.1.1.2 b 2 else if x = 1 then S.1.1.2 b 3 else if x = 2 then S.1.1.2 b 4 else if x = 3 then S.1.1.2 b 0 else if x = 4 then S.1.1.2 b 1 else if x = 5 then feelsM (sySS S.2.1 S.1.2.2) S.1.1.1 (S.1.1.2 b) else if x = 6 then bearsM (sySS S.2.1 S.1.2.2) S.1.1.1 (S.1.1.2 b) else if x = 7 then gladM (sySS S.2.1 S.1.2.2) S.1.1.1 (S.1.1.2 b) (nI (inN S.1.1.2 S.1.2.1)) else -7000
theorem told_c {S : SS} {w : Wd} {b : Nat} (x : Int32) (h : RC S w) (hb : b < S.1.2.1) : ∃ w', f5_told 32 (nI b) x w = some (toldA S b x, w') ∧ RC S w' ∧ OffM w w' ∧ ((x = 0 ∨ x = 1 ∨ x = 2) → w' = w) := by
  obtain ⟨e1, e2, e3, e4, e5, e6, e7⟩ := h.bat hb
  have hd : f5_told 32 (nI b) x w = if x = 0 then some (S.1.1.2 b 2, w) else if x = 1 then some (S.1.1.2 b 3, w) else if x = 2 then some (S.1.1.2 b 4, w) else if x = 3 then some (S.1.1.2 b 0, w) else if x = 4 then some (S.1.1.2 b 1, w) else if x = 5 then (f1_feelsOf 42 (42 + 2 + b) w).bind fun z => some (z.1, z.2) else if x = 6 then (f1_bearsOf 42 (42 + 2 + b) w).bind fun z => some (z.1, z.2) else if x = 7 then (f1_gladOf 42 (42 + 2 + b) w).bind fun z => some (z.1, z.2) else some (-7000, w) := by
    unfold f5_told
    rw [ck_pos h.t, h.r3, ck_pos h.t42, has_1 h.hc hb, Option.bind_some, if_neg (show ¬ (1 : Int32) = 0 by decide)]
    dsimp only
    rw [h.r3, ck_pos h.t42, e1, e3, ck_pos (And.intro e2 e6), e7, e4, ck_pos e5, ck_pos e5, ck_pos e5, ck_pos e5, ck_pos e5, h.hc.row hb (by decide : 2 < 5), h.hc.row hb (by decide : 3 < 5), h.hc.row hb (by decide : 4 < 5), h.hc.row hb (by decide : 0 < 5), h.hc.row hb (by decide : 1 < 5)]
  rw [hd]
  unfold toldA
  by_cases x0 : x = 0
  · rw [if_pos x0, if_pos x0]; exact ⟨w, rfl, h, OffM.rf, fun _ => rfl⟩
  rw [if_neg x0, if_neg x0]
  by_cases x1 : x = 1
  · rw [if_pos x1, if_pos x1]; exact ⟨w, rfl, h, OffM.rf, fun _ => rfl⟩
  rw [if_neg x1, if_neg x1]
  by_cases x2 : x = 2
  · rw [if_pos x2, if_pos x2]; exact ⟨w, rfl, h, OffM.rf, fun _ => rfl⟩
  rw [if_neg x2, if_neg x2]
  have no : ∀ {w' : Wd}, (x = 0 ∨ x = 1 ∨ x = 2) → w' = w := fun z => absurd z (fun z => z.elim x0 fun z => z.elim x1 x2)
  by_cases x3 : x = 3
  · rw [if_pos x3, if_pos x3]; exact ⟨w, rfl, h, OffM.rf, no⟩
  rw [if_neg x3, if_neg x3]
  by_cases x4 : x = 4
  · rw [if_pos x4, if_pos x4]; exact ⟨w, rfl, h, OffM.rf, no⟩
  rw [if_neg x4, if_neg x4]
  by_cases x5 : x = 5
  · rw [if_pos x5, if_pos x5]
    obtain ⟨w', b1, b2, b3, b4⟩ := feels_cls h.hc hb
    exact ⟨w', by rw [b1]; rfl, (h.stkfr b2).1, (h.stkfr b2).2, no⟩
  rw [if_neg x5, if_neg x5]
  by_cases x6 : x = 6
  · rw [if_pos x6, if_pos x6]
    obtain ⟨w', b1, b2, b3, b4⟩ := bears_cls h.hc hb
    exact ⟨w', by rw [b1]; rfl, (h.stkfr b2).1, (h.stkfr b2).2, no⟩
  rw [if_neg x6, if_neg x6]
  by_cases x7 : x = 7
  · rw [if_pos x7, if_pos x7]
    obtain ⟨w', b1, b2, b3, b4⟩ := glad_cls h.hc hb
    exact ⟨w', by rw [b1]; rfl, (h.stkfr b2).1, (h.stkfr b2).2, no⟩
  rw [if_neg x7, if_neg x7]
  exact ⟨w, rfl, h, OffM.rf, no⟩
theorem told_r {S : SS} {w : Wd} {b : Nat} (x : Int32) (h : RM S w) (hr : Rg S.1.2.1 S.1.1) (hb : b < S.1.2.1) : ∃ w', f6_told 75 (nI b) x w = some (toldA S b x, w') ∧ RM S w' ∧ OffC w w' := by
  have hm := h.1.2.2.1
  obtain ⟨cb, c0, c1, c2, vb, v0, v1, v2⟩ := idx6 (b := b) (by omega)
  obtain ⟨a5a, a5b, a5c, a5d, a5e⟩ := h.1.2.2.2.2.1 b hb
  have a1 := h.1.1
  unfold f6_told toldA
  rw [ck_pos a1.t, one_1 h.1 hb, Option.bind_some, if_neg (show ¬ (1 : Int32) = 0 by decide)]
  dsimp only
  by_cases x0 : x = 0
  · subst x0
    rw [if_pos rfl, if_pos rfl, a1.r3, a1.l3, Int32.add_zero, i3, ck_pos (And.intro a1.t3 v0), c0, a5c]
    exact ⟨w, rfl, h, OffC.rf⟩
  rw [if_neg x0, if_neg x0]
  by_cases x1 : x = 1
  · subst x1
    rw [if_pos rfl, if_pos rfl, a1.r3, a1.l3, i3, i3_1, ck_pos (And.intro a1.t3 v1), c1, a5d]
    exact ⟨w, rfl, h, OffC.rf⟩
  rw [if_neg x1, if_neg x1]
  by_cases x2 : x = 2
  · subst x2
    rw [if_pos rfl, if_pos rfl, a1.r3, a1.l3, i3, i3_2, ck_pos (And.intro a1.t3 v2), c2, a5e]
    exact ⟨w, rfl, h, OffC.rf⟩
  rw [if_neg x2, if_neg x2]
  by_cases x3 : x = 3
  · rw [if_pos x3, if_pos x3, a1.r1, a1.l1, ck_pos (And.intro a1.t1 vb), cb, a5a]
    exact ⟨w, rfl, h, OffC.rf⟩
  rw [if_neg x3, if_neg x3]
  by_cases x4 : x = 4
  · rw [if_pos x4, if_pos x4, a1.r2, a1.l2, ck_pos (And.intro a1.t2 vb), cb, a5b]
    exact ⟨w, rfl, h, OffC.rf⟩
  rw [if_neg x4, if_neg x4]
  by_cases x5 : x = 5
  · rw [if_pos x5, if_pos x5]
    obtain ⟨w', b1, b2, b3⟩ := feels_ref h.1 hr hb
    exact ⟨w', by rw [b1]; rfl, (h.jfr b2).1, (h.jfr b2).2⟩
  rw [if_neg x5, if_neg x5]
  by_cases x6 : x = 6
  · rw [if_pos x6, if_pos x6]
    obtain ⟨w', b1, b2, b3⟩ := bears_ref h.1 hr hb
    exact ⟨w', by rw [b1]; rfl, (h.jfr b2).1, (h.jfr b2).2⟩
  rw [if_neg x6, if_neg x6]
  by_cases x7 : x = 7
  · rw [if_pos x7, if_pos x7]
    obtain ⟨w', b1, b2, b3⟩ := glad_ref h.1 hr hb
    exact ⟨w', by rw [b1]; rfl, (h.jfr b2).1, (h.jfr b2).2⟩
  rw [if_neg x7, if_neg x7]
  exact ⟨w, rfl, h, OffC.rf⟩
theorem told_pair (b x : Int32) : Pair (f5_told 32 b x) (f6_told 75 b x) := pair_of fun S hS => by
  rcases bcase b hS.1.1 with ⟨k, hk, rfl⟩ | hb
  · refine ⟨(toldA S k x, S), fun w h => ?_, fun w h => told_r x h hS.rg hk, hS⟩
    obtain ⟨w', a1, a2, a3, _⟩ := told_c x h hk
    exact ⟨w', a1, a2, a3⟩
  · refine ⟨(-5000, S), fun w h => ⟨w, ?_, h, OffM.rf⟩, fun w h => ⟨w, ?_, h, OffC.rf⟩, hS⟩
    · unfold f5_told
      rw [ck_pos h.t, h.r3, ck_pos h.t42, has_0 h.hc hb]
      rfl
    · unfold f6_told
      rw [ck_pos h.1.1.t, one_0 h.1 hb]
      rfl
/-- asks -/
theorem three (x : Int32) (h : 0 ≤ x ∧ x ≤ 2) : ∃ k, k < 3 ∧ x = nI k := by
  refine inum h.1 ?_ (by decide)
  have := h.2
  rw [ile, show (2 : Int32).toInt = 2 from rfl] at this
  rw [ilt, show (nI 3).toInt = 3 from rfl]
  omega
theorem asks_pair (x b : Int32) : Pair (f5_asks 32 x b) (f6_asks 75 x b) := pair_of fun S hS => by
  rcases within2 x 0 2 with ⟨h1, h2⟩ | ⟨h1, h2⟩
  · obtain ⟨pt, hpt, rfl⟩ := three x h1
    rcases bcase b hS.1.1 with ⟨k, hk, rfl⟩ | hb
    · refine ⟨(sySS S.2.1 S.1.2.2 (nI pt) (envM S.1.1.1 (S.1.1.2 k)), S), fun w h => ?_, fun w h => ?_, hS⟩
      · obtain ⟨e1, e2, e3, e4, e5, e6, e7⟩ := h.bat hk
        have hp : nI pt = 0 ∨ nI pt = 1 ∨ nI pt = 2 := by rcases (by omega : pt = 0 ∨ pt = 1 ∨ pt = 2) with rfl | rfl | rfl <;> decide
        obtain ⟨w', b1, b2, b3, b4⟩ := h.hc.says hk hp
        refine ⟨w', ?_, (h.stkfr b2).1, (h.stkfr b2).2⟩
        unfold f5_asks
        rw [(h2 w).2, Option.bind_some, if_neg (show ¬ (1 : Int32) = 0 by decide)]
        dsimp only
        rw [ck_pos h.t, h.r3, ck_pos h.t42, has_1 h.hc hk, Option.bind_some, if_neg (show ¬ (1 : Int32) = 0 by decide)]
        dsimp only
        rw [h.r3, ck_pos h.t42, e1, e3, ck_pos (And.intro e2 e6), ck_pos h.hc.tgT, e7, e4, b1]
        rfl
      · obtain ⟨w', b1, b2, b3⟩ := asks_ref h.1 hS.rg hk hpt
        refine ⟨w', ?_, (h.jfr b2).1, (h.jfr b2).2⟩
        unfold f6_asks
        rw [(h2 w).1, Option.bind_some, if_neg (show ¬ (1 : Int32) = 0 by decide)]
        dsimp only
        rw [ck_pos h.1.1.t, one_1 h.1 hk, Option.bind_some, if_neg (show ¬ (1 : Int32) = 0 by decide)]
        dsimp only
        rw [b1]
        rfl
    · refine ⟨(-1000, S), fun w h => ⟨w, ?_, h, OffM.rf⟩, fun w h => ⟨w, ?_, h, OffC.rf⟩, hS⟩
      · unfold f5_asks
        rw [(h2 w).2, Option.bind_some, if_neg (show ¬ (1 : Int32) = 0 by decide)]
        dsimp only
        rw [ck_pos h.t, h.r3, ck_pos h.t42, has_0 h.hc hb]
        rfl
      · unfold f6_asks
        rw [(h2 w).1, Option.bind_some, if_neg (show ¬ (1 : Int32) = 0 by decide)]
        dsimp only
        rw [ck_pos h.1.1.t, one_0 h.1 hb]
        rfl
  · refine ⟨(-1000, S), fun w h => ⟨w, ?_, h, OffM.rf⟩, fun w h => ⟨w, ?_, h, OffC.rf⟩, hS⟩
    · unfold f5_asks
      rw [(h2 w).2, Option.bind_some, if_pos rfl]
    · unfold f6_asks
      rw [(h2 w).1, Option.bind_some, if_pos rfl]
