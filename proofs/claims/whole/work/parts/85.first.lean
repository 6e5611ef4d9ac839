/-! the first text; the class's constructor begins -/
def fT : List Int32 := sByt.getD 0 []
theorem fT_len : fT.length = 53 := by decide
theorem f0_facts : Int32.ofNat (sLen.getD 0 0) >>> ((0 : Int32) &&& 31) = nI 53 ∧ sLen.getD 0 0 = 53 ∧ ∀ i, i < 53 → (fT.getD i 0 &&& 255 = fT.getD i 0 ∧ 0 ≤ fT.getD i 0 ∧ fT.getD i 0 ≤ 122) := by decide
theorem nar_ok0 {x : Int32} (h1 : 0 ≤ x) (h2 : x ≤ 122) : vp_nar .char x = x ∧ narrow .char (.int x) = .int x := by
  rw [ile, show (0 : Int32).toInt = 0 from rfl] at h1
  rw [ile, show (122 : Int32).toInt = 122 from rfl] at h2
  have e : x.toUInt32.toUInt16.toUInt32.toInt32 = x := lg_i2c_small (by omega) (by omega)
  refine ⟨by rw [vp_nar_char, e], ?_⟩
  show Value.int x.toUInt32.toUInt16.toUInt32.toInt32 = .int x
  rw [e]
theorem flen_c (w : Wd) : fJ0_length_8abf5 2 w = some (nI 53, w) := by
  unfold fJ0_length_8abf5 fJ0_coder_7d493
  rw [ck_pos ⟨by decide, by decide⟩, if_neg n10, ck_pos ⟨by decide, by decide⟩, Option.bind_some]
  dsimp only
  rw [show 2 + 15 - 17 = 0 by decide, f0_facts.1]
theorem fchar_c {i : Nat} (hi : i < 53) (w : Wd) : fJ0_charAt_5068e 2 (nI i) w = some (fT.getD i 0, w) := by
  obtain ⟨f1, f2, f4⟩ := f0_facts
  obtain ⟨g1, g2, g3⟩ := f4 i hi
  obtain ⟨n1, n2⟩ := nar_ok0 g2 g3
  have hs : sByt.getD 0 [] = fT := rfl
  unfold fJ0_charAt_5068e fJ0_isLatin1_aae02 fJ1_charAt_3b067 fJ0_checkIndex_df160 fJ3_checkIndex_8e157
  rw [ck_pos ⟨by decide, by decide⟩, if_neg n10, ck_pos ⟨by decide, by decide⟩, if_pos rfl, Option.bind_some, if_neg n10]
  dsimp only
  rw [ck_pos ⟨by decide, by decide⟩, show 2 + 15 - 17 = 0 by decide, f2, if_neg (by rw [ilt, nI_int (by omega), show (0 : Int32).toInt = 0 from rfl]; omega), if_pos (show nI i < Int32.ofNat 53 from nI_lt hi (by omega)), Option.bind_some, Option.bind_some, ck_pos (vin hi (by omega)), nI_clamp (by omega), hs, g1, n1, ck_pos n2, Option.bind_some]
  dsimp only
  rw [ck_pos n2]
theorem addG {w : Wd} {b : Int32} {i : Nat} (t2 : tg w 33 = 3) (t3 : wr w 33 0 = 34) (t4 : tg w 34 = 20) (t5 : ln w 34 = 160) (t6 : wi w 33 1 = nI i) (hi : i < 160) : f3_add 33 b w = some ((), sI (sI w 34 i b) 33 1 (nI (i + 1))) := by
  have room : f3_hasRoom 33 1 w = some (1, w) := by
    unfold f3_hasRoom
    rw [ck_pos t2, t3, ck_pos t4, t5, t6, i3_1, if_neg]
    rw [ilt, nI_int (by omega)]
    show ¬ (160 : Int) < _
    omega
  unfold f3_add lw
  have e1 : wi (sI w 34 i b) 33 1 = nI i := by rw [wi_sI_ne (by decide)]; exact t6
  rw [ck_pos t2, room, Option.bind_some, if_neg n10]
  dsimp only
  rw [t3, t5, t6, ck_pos (And.intro t4 (vin hi (by decide))), nI_clamp (by omega), e1, i3_1]
theorem addAll_i {w : Wd} (t2 : tg w 33 = 3) (t3 : wr w 33 0 = 34) (t4 : tg w 34 = 20) (t5 : ln w 34 = 160) (t6 : wi w 33 1 = 0) : ∃ w', f3_addAll 33 2 w = some ((), w') ∧ Fr FP w w' ∧ (∀ q, wr w' q = wr w q) ∧ wi w' 33 1 = nI 53 ∧ ∀ j b, fT[j]? = some b → wi w' 34 j = b := by
  unfold f3_addAll
  refine loopE (R := fun o => ∃ w', o = some ((), w') ∧ Fr FP w w' ∧ (∀ q, wr w' q = wr w q) ∧ wi w' 33 1 = nI 53 ∧ ∀ j b, fT[j]? = some b → wi w' 34 j = b) (I := fun i v w2 => v = (33, 2, nI i) ∧ Fr FP w w2 ∧ (∀ q, wr w2 q = wr w q) ∧ wi w2 33 1 = nI i ∧ ∀ j, j < i → wi w2 34 j = fT.getD j 0) 53 ?_ ?_ FU _ w (by decide) ⟨rfl, Fr.rf, fun _ => rfl, t6, fun j hj => absurd hj (Nat.not_lt_zero j)⟩
  · intro i v w2 hi hI
    obtain ⟨rfl, i1, i2, i3, i4⟩ := hI
    have g33 : tg w2 33 = 3 := by unfold tg; rw [i1.1]; exact t2
    have g34 : tg w2 34 = 20 := by unfold tg; rw [i1.1]; exact t4
    have l34 : ln w2 34 = 160 := by unfold ln; rw [i1.1]; exact t5
    refine ⟨(33, 2, nI (i + 1)), sI (sI w2 34 i (fT.getD i 0)) 33 1 (nI (i + 1)), ⟨rfl, (i1.tr (Fr.sI (Or.inr rfl))).tr (Fr.sI (Or.inl rfl)), i2, wi_at _ _ _ _, fun j hj => ?_⟩, fun k => ?_⟩
    · rw [wi_sI_ne (by decide), wi_sI]
      by_cases e : j = i
      · rw [if_pos ⟨rfl, e⟩, e]
      · rw [if_neg (fun z => e z.2)]
        exact i4 j (by omega)
    · unfold b3_addAll_2
      dsimp only
      rw [ck_pos ⟨by decide, by decide⟩, flen_c, Option.bind_some]
      dsimp only
      rw [if_neg (nI_ge hi (by omega)), fchar_c hi, Option.bind_some]
      dsimp only
      rw [ck_pos g33, addG g33 (by rw [i2]; exact t3) g34 l34 i3 (by omega), Option.bind_some, i3_1]
  · intro v w2 hI k
    obtain ⟨rfl, i1, i2, i3, i4⟩ := hI
    refine ⟨w2, ?_, i1, i2, i3, fun j b hb => ?_⟩
    · unfold b3_addAll_2
      dsimp only
      rw [ck_pos ⟨by decide, by decide⟩, flen_c, Option.bind_some]
      dsimp only
      rw [if_pos (Int32.le_refl _)]
    · have hj := (List.getElem?_eq_some_iff.mp hb).1
      rw [fT_len] at hj
      rw [i4 j hj]
      have := getD_at (l := fT) (k := j) (by rw [fT_len]; exact hj)
      rw [hb] at this
      exact (Option.some.inj this).symm
theorem fT_ok : (mT (tkV fT)).1 = true := by decide +kernel
