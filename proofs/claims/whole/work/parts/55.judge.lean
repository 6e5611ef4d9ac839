/-! told minutes: the first that is otherwise; judge, whose -/
def othG (T : List PG) (b : Nat) : CO → Nat → List Int32 → Int32
  | _, _, [] => -1
  | c, i, x :: r => if x = (minC T c).1.2 b 3 then othG T b (minC T c) (i + 1) r else nI i
def rowL (S : SS) (s : Nat) : List Int32 := (S.2.2.2.2 s).2
theorem rowL_40 {S : SS} {s : Nat} (hS : SI S) (hs : s < 4) : (rowL S s).length ≤ 40 := (hS.2.2.2.2 s hs).2.1
theorem RC.sh {S : SS} {w : Wd} {s : Nat} (h : RC S w) (hs : s < 4) : wr w 32 7 = 66 ∧ tg w 66 = 23 ∧ ln w 66 = 4 ∧ wr w 66 s = 67 + 2 * s ∧ tg w (67 + 2 * s) = 2 ∧ wr w (67 + 2 * s) 2 = 68 + 2 * s ∧ tg w (68 + 2 * s) = 20 ∧ ln w (68 + 2 * s) = 40 ∧ vp_in (nI s) 4 ∧ (nI s).toNatClampNeg = s ∧ wi w (67 + 2 * s) 0 = (S.2.2.2.2 s).1 ∧ wi w (67 + 2 * s) 1 = nI (rowL S s).length ∧ ∀ k x, (rowL S s)[k]? = some x → wi w (68 + 2 * s) k = x := by
  obtain ⟨l1, l2, l3, l4, l5⟩ := h.1
  obtain ⟨m1, m2, m3, m4⟩ := l5 s hs
  obtain ⟨c1, c2, c3⟩ := h.2.2.2.2.2 s hs
  exact ⟨l1.2.2.2.2.2.2, tg_eq l3.2, ln_eq l3.2, m1, tg_eq m2, m3, tg_eq m4, ln_eq m4, vin hs (by decide), nI_clamp (by omega), c1, c2, c3⟩
theorem other_c {S : SS} {c : CO} {w : Wd} {s b : Nat} (h : TC S c w) (hS : SI S) (hs : s < 4) (hb : b < c.2.1) : ∃ w', f5_firstOtherwise 32 (nI s) (nI b) w = some (othG S.2.1 b c 0 (rowL S s), w') ∧ RC S w' ∧ Fr JC w w' := by
  have h40 := rowL_40 hS hs
  generalize hA : othG S.2.1 b c 0 (rowL S s) = A
  have key : ∃ w', loopF b5_firstOtherwise_21 FU (32, 67 + 2 * s, 50 + 2 + b, (0 : Int32)) w = some (A, w') ∧ RC S w' ∧ Fr JC w w' := by
    refine loopI (R := fun o => ∃ w', o = some (A, w') ∧ RC S w' ∧ Fr JC w w') (I := fun i v w1 => v = (32, 67 + 2 * s, 50 + 2 + b, nI i) ∧ (TC S (goC S.2.1 c i) w1 ∧ Fr JC w w1) ∧ A = othG S.2.1 b (goC S.2.1 c i) i ((rowL S s).drop i)) (rowL S s).length ?_ FU 0 _ w (by show (rowL S s).length < 1000 + 0; omega) (Nat.zero_le _) ⟨rfl, ⟨h, Fr.rf⟩, hA.symm⟩
    intro i v w1 hi hI
    obtain ⟨rfl, ⟨i1, i2⟩, i3'⟩ := hI
    obtain ⟨s1, s2, s3, s4, s5, s6, s7, s8, s9, s10, s11, s12, s13⟩ := i1.1.sh hs
    by_cases hlt : i < (rowL S s).length
    · obtain ⟨w2, b1, b2, b3⟩ := i1.min
      obtain ⟨t1, t2, t3, t4, t5, t6, t7, t8, t9, t10, t11, t12, t13⟩ := b2.1.sh hs
      have hb' : b < (minC S.2.1 (goC S.2.1 c i)).2.1 := by
        show b < (goC S.2.1 c i).2.1
        rw [goC_2]; exact hb
      have hd : (rowL S s).drop i = (rowL S s)[i] :: (rowL S s).drop (i + 1) := List.drop_eq_getElem_cons hlt
      rw [hd, othG] at i3'
      have body : ∀ k, b5_firstOtherwise_21 k (32, 67 + 2 * s, 50 + 2 + b, nI i) w1 = if (rowL S s)[i] = (minC S.2.1 (goC S.2.1 c i)).1.2 b 3 then k (32, 67 + 2 * s, 50 + 2 + b, nI (i + 1)) w2 else some (nI i, w2) := by
        intro k
        unfold b5_firstOtherwise_21
        dsimp only
        rw [ck_pos s5, s12, if_neg (nI_ge hlt (by omega)), ck_pos i1.1.t, i1.1.1.1.2.2.2.2.1, ck_pos i1.2.1.tgA, b1, Option.bind_some]
        dsimp only
        rw [t6, t8, ck_pos (And.intro t7 (vin (show i < 40 by omega) (by decide))), ck_pos (b2.2.1.tgB hb'), nI_clamp (by omega), t13 i _ (List.getElem?_eq_getElem hlt), b2.2.1.row hb' (by decide : 3 < 5), i3_1]
      by_cases he : (rowL S s)[i] = (minC S.2.1 (goC S.2.1 c i)).1.2 b 3
      · rw [if_pos he] at i3'
        exact Or.inr ⟨hlt, _, w2, ⟨rfl, ⟨b2, i2.tr b3⟩, i3'⟩, fun k => by rw [body, if_pos he]⟩
      · rw [if_neg he] at i3'
        exact Or.inl fun k => ⟨w2, by rw [body, if_neg he, i3'], b2.1, i2.tr b3⟩
    · have e : i = (rowL S s).length := by omega
      rw [List.drop_eq_nil_iff.mpr (by omega), othG] at i3'
      refine Or.inl fun k => ⟨w1, ?_, i1.1, i2⟩
      unfold b5_firstOtherwise_21
      dsimp only
      rw [ck_pos s5, s12, e, if_pos (Int32.le_refl _), i3']
  obtain ⟨w', k1, k2, k3⟩ := key
  refine ⟨w', ?_, k2, k3⟩
  obtain ⟨s1, s2, s3, s4, s5, s6, s7, s8, s9, s10, s11, s12, s13⟩ := h.1.sh hs
  obtain ⟨e1, e2, e3, e4, e5, e6, e7, e8, e9⟩ := h.bat hb
  unfold f5_firstOtherwise
  rw [ck_pos h.1.t, s1, s3, ck_pos (And.intro s2 s9), e8, ck_pos e9, e1, e3, ck_pos (And.intro e2 e6), s10, s4, e7, e4]
  exact k1
theorem i40 (b : Nat) : (40 : Int32) * nI b = nI (40 * b) := by rw [← nI_mul]; rfl
theorem RM.sh {S : SS} {w : Wd} {s : Nat} (h : RM S w) (hs : s < 4) : (tg w 85 = 20 ∧ vp_in (nI s) (ln w 85)) ∧ (tg w 86 = 20 ∧ vp_in (nI s) (ln w 86)) ∧ (nI s).toNatClampNeg = s ∧ wi w 85 s = (S.2.2.2.2 s).1 ∧ wi w 86 s = nI (rowL S s).length ∧ ∀ k x, (rowL S s)[k]? = some x → wi w 87 (40 * s + k) = x := by
  obtain ⟨c1, c2, c3⟩ := h.2.2.2.2 s hs
  exact ⟨⟨h.1.1.t14, by rw [h.1.1.l14]; exact vin hs (by decide)⟩, ⟨h.1.1.t15, by rw [h.1.1.l15]; exact vin hs (by decide)⟩, nI_clamp (by omega), c1, c2, c3⟩
theorem other_r {S : SS} {w : Wd} {s b : Nat} (h : RM S w) (hr : Rg S.1.2.1 S.1.1) (h40 : (rowL S s).length ≤ 40) (hs : s < 4) (hb : b < S.1.2.1) : ∃ w', f6_unlike 75 (nI s) (nI b) w = some (othG S.2.1 b S.1 0 (rowL S s), w') ∧ RM S w' ∧ Fr KP w w' := by
  obtain ⟨w1, a1, a2, a3, a4⟩ := h.keeps
  have hm6 := h.1.2.2.1
  generalize hA : othG S.2.1 b S.1 0 (rowL S s) = A
  have fin : ∀ {i w2}, RM (goC S.2.1 S.1 i, S.2) w2 → Fr TP w1 w2 → ∃ w', j6_unlike_68 75 A w2 = some (A, w') ∧ RM S w' ∧ Fr KP w w' := by
    intro i w2 h1 hF
    obtain ⟨w', c1, c2, c3⟩ := h1.laysGo (a3.tp hF)
    refine ⟨w', ?_, c2, (a4.tr (hF.mono fun _ => Or.inl)).tr c3⟩
    unfold j6_unlike_68
    rw [ck_pos h1.1.1.t, c1]
    rfl
  have key : ∃ w', loopF b6_unlike_9 FU (75, nI s, nI b, (-1 : Int32), (0 : Int32)) w1 = some (A, w') ∧ RM S w' ∧ Fr KP w w' := by
    refine loopI (R := fun o => ∃ w', o = some (A, w') ∧ RM S w' ∧ Fr KP w w') (I := fun i v w2 => (RM (goC S.2.1 S.1 i, S.2) w2 ∧ Fr TP w1 w2) ∧ ((v = (75, nI s, nI b, (-1 : Int32), nI i) ∧ i ≤ (rowL S s).length ∧ A = othG S.2.1 b (goC S.2.1 S.1 i) i ((rowL S s).drop i)) ∨ (v = (75, nI s, nI b, A, nI i) ∧ ¬ A = -1))) ((rowL S s).length + 1) ?_ FU 0 _ w1 (by show (rowL S s).length + 1 < 1000 + 0; omega) (Nat.zero_le _) ⟨⟨a2, Fr.rf⟩, Or.inl ⟨rfl, Nat.zero_le _, hA.symm⟩⟩
    intro i v w2 hi hI
    obtain ⟨⟨i1, i2⟩, hv⟩ := hI
    obtain ⟨s1, s2, s3, s4, s5, s6⟩ := i1.sh hs
    have aa := i1.1.1
    have s5' : wi w2 86 s = nI (rowL S s).length := s5
    rcases hv with ⟨rfl, hil, hA'⟩ | ⟨rfl, hne⟩
    · by_cases hlt : i < (rowL S s).length
      · obtain ⟨w3, b1, b2, b3⟩ := RM.min (S := S) i1 (goC_rg hr i)
        obtain ⟨t1, t2, t3, t4, t5, t6⟩ := b2.sh hs
        have bb := b2.1.1
        have hb' : b < (minC S.2.1 (goC S.2.1 S.1 i)).2.1 := by
          show b < (goC S.2.1 S.1 i).2.1
          rw [goC_2]; exact hb
        obtain ⟨cb, c0, c1, c2, vb, v0, v1, v2⟩ := idx6 (b := b) (by omega)
        have hd : (rowL S s).drop i = (rowL S s)[i] :: (rowL S s).drop (i + 1) := List.drop_eq_getElem_cons hlt
        rw [hd, othG] at hA'
        have e61 : ∀ (kk : Nat × Int32 × Int32 × Int32 × Int32 → Wd → Option (Int32 × Wd)) z, j6_unlike_61 kk 75 (nI s) (nI b) (nI i) z w3 = kk (75, nI s, nI b, z, nI (i + 1)) w3 := by
          intro kk z
          unfold j6_unlike_61
          rw [i3_1]
        have ex : wi w3 87 (40 * s + i) = (rowL S s)[i] := t6 i _ (List.getElem?_eq_getElem hlt)
        have body : ∀ k, b6_unlike_9 k (75, nI s, nI b, (-1 : Int32), nI i) w2 = if (rowL S s)[i] = (minC S.2.1 (goC S.2.1 S.1 i)).1.2 b 3 then k (75, nI s, nI b, (-1 : Int32), nI (i + 1)) w3 else k (75, nI s, nI b, nI i, nI (i + 1)) w3 := by
          intro k
          unfold b6_unlike_9
          dsimp only
          rw [ck_pos aa.t, aa.r15, ck_pos s2, s3, s5', if_neg (nI_ge hlt (by omega)), if_pos rfl, b1, Option.bind_some]
          dsimp only
          rw [bb.r16, bb.l16, i40, nI_add, ck_pos (And.intro bb.t16 (vin (show 40 * s + i < 160 by omega) (by decide))), bb.r3, bb.l3, i3, i3_1, ck_pos (And.intro bb.t3 v1), nI_clamp (by omega), c1, ex, (b2.1.2.2.2.2.1 b hb').2.2.2.1, e61, e61]
        by_cases he : (rowL S s)[i] = (minC S.2.1 (goC S.2.1 S.1 i)).1.2 b 3
        · rw [if_pos he] at hA'
          exact Or.inr ⟨by omega, _, w3, ⟨⟨b2, i2.tr b3⟩, Or.inl ⟨rfl, by omega, hA'⟩⟩, fun k => by rw [body, if_pos he]⟩
        · rw [if_neg he] at hA'
          refine Or.inr ⟨by omega, _, w3, ⟨⟨b2, i2.tr b3⟩, Or.inr ⟨rfl, by rw [hA']; exact nI_m1 (by omega)⟩⟩, fun k => ?_⟩
          rw [body, if_neg he, hA']
      · have e : i = (rowL S s).length := by omega
        rw [List.drop_eq_nil_iff.mpr (by omega), othG] at hA'
        obtain ⟨w', c1, c2, c3⟩ := fin i1 i2
        refine Or.inl fun k => ⟨w', ?_, c2, c3⟩
        unfold b6_unlike_9
        dsimp only
        rw [ck_pos aa.t, aa.r15, ck_pos s2, s3, s5', e, if_pos (Int32.le_refl _), ← c1, hA']
    · obtain ⟨w', c1, c2, c3⟩ := fin i1 i2
      refine Or.inl fun k => ⟨w', ?_, c2, c3⟩
      unfold b6_unlike_9
      dsimp only
      rw [ck_pos aa.t, aa.r15, ck_pos s2, if_neg hne, c1, ite_self]
  obtain ⟨w', k1, k2, k3⟩ := key
  refine ⟨w', ?_, k2, k3⟩
  unfold f6_unlike
  rw [ck_pos h.1.1.t, a1]
  exact k1
/-! refusals -/
theorem sheet_case (x : Int32) : (∃ k, k < 4 ∧ x = nI k ∧ ∀ w, f5_isSheet x w = some (1, w) ∧ f6_in x 0 3 w = some (1, w)) ∨ (∀ w, f5_isSheet x w = some (0, w) ∧ f6_in x 0 3 w = some (0, w)) := by
  rcases within2 x 0 3 with ⟨h1, h2⟩ | ⟨h1, h2⟩
  · obtain ⟨k, hk, rfl⟩ := four x h1
    refine Or.inl ⟨k, hk, rfl, fun w => ⟨?_, (h2 w).1⟩⟩
    unfold f5_isSheet
    rw [if_neg (by rw [ilt, nI_int (by omega), show (0 : Int32).toInt = 0 from rfl]; omega), if_neg (show ¬ (4 : Int32) ≤ nI k from nI_ge (b := 4) hk (by omega))]
  · refine Or.inr fun w => ⟨?_, (h2 w).1⟩
    unfold f5_isSheet
    rw [ile, ile, show (0 : Int32).toInt = 0 from rfl, show (3 : Int32).toInt = 3 from rfl] at h1
    by_cases h0 : x < 0
    · rw [if_pos h0]
    · rw [if_neg h0, if_pos]
      rw [ilt, show (0 : Int32).toInt = 0 from rfl] at h0
      rw [ile, show (4 : Int32).toInt = 4 from rfl]
      omega
theorem len20 {n : Nat} (h : n ≤ 40) : nI n ≤ 20 ↔ n ≤ 20 := by
  rw [ile, nI_int (by omega), show (20 : Int32).toInt = 20 from rfl]
  omega
theorem missing_c {S : SS} {w : Wd} {s : Nat} (h : RC S w) (hs : s < 4) : f2_isMissing (67 + 2 * s) w = some (if (S.2.2.2.2 s).1 = -1 then 1 else 0, w) := by
  obtain ⟨s1, s2, s3, s4, s5, s6, s7, s8, s9, s10, s11, s12, s13⟩ := h.sh hs
  unfold f2_isMissing
  rw [ck_pos s5, s11]
  split <;> rfl
theorem sheet_ref {S : SS} (hS : SI S) (x : Int32) : (∃ s, s < 4 ∧ x = nI s ∧ (rowL S s).length ≤ 20 ∧ (∀ w, RC S w → f5_sheetRefusal 32 x w = some (0, w)) ∧ ∀ w, RM S w → f6_sheetWrong 75 x w = some (0, w)) ∨ (∃ z, ¬ z = 0 ∧ (∀ w, RC S w → f5_sheetRefusal 32 x w = some (z, w)) ∧ ∀ w, RM S w → f6_sheetWrong 75 x w = some (z, w)) := by
  rcases sheet_case x with ⟨s, hs, rfl, e⟩ | e
  · have h40 := rowL_40 hS hs
    have hc : ∀ w, RC S w → f5_sheetRefusal 32 (nI s) w = some (if (S.2.2.2.2 s).1 = -1 then -11 else if (rowL S s).length ≤ 20 then 0 else -2, w) := by
      intro w h
      obtain ⟨s1, s2, s3, s4, s5, s6, s7, s8, s9, s10, s11, s12, s13⟩ := h.sh hs
      unfold f5_sheetRefusal
      rw [(e w).1, Option.bind_some, if_neg (show ¬ (1 : Int32) = 0 by decide)]
      dsimp only
      rw [ck_pos h.t, s1, s3, ck_pos (And.intro s2 s9), s10, s4, ck_pos s5, missing_c h hs, Option.bind_some]
      dsimp only
      by_cases hm : (S.2.2.2.2 s).1 = -1
      · rw [if_pos hm, if_pos hm, if_neg (show ¬ (1 : Int32) = 0 by decide)]
      · rw [if_neg hm, if_neg hm, if_pos rfl, s1, s3, ck_pos (And.intro s2 s9), s4, ck_pos s5, s12]
        by_cases hl : (rowL S s).length ≤ 20
        · rw [if_pos ((len20 h40).mpr hl), if_pos hl]
        · rw [if_neg (fun z => hl ((len20 h40).mp z)), if_neg hl]
    have hr : ∀ w, RM S w → f6_sheetWrong 75 (nI s) w = some (if (S.2.2.2.2 s).1 = -1 then -11 else if (rowL S s).length ≤ 20 then 0 else -2, w) := by
      intro w h
      obtain ⟨s1, s2, s3, s4, s5, s6⟩ := h.sh hs
      unfold f6_sheetWrong
      rw [(e w).2, Option.bind_some, if_neg (show ¬ (1 : Int32) = 0 by decide)]
      dsimp only
      rw [ck_pos h.1.1.t, h.1.1.r14, ck_pos s1, s3, s4]
      by_cases hm : (S.2.2.2.2 s).1 = -1
      · rw [if_pos hm, if_pos hm]
      · rw [if_neg hm, if_neg hm, h.1.1.r15, ck_pos s2, s5]
        by_cases hl : (rowL S s).length ≤ 20
        · rw [if_pos ((len20 h40).mpr hl), if_pos hl]
        · rw [if_neg (fun z => hl ((len20 h40).mp z)), if_neg hl]
    by_cases hm : (S.2.2.2.2 s).1 = -1
    · rw [if_pos hm] at hc hr
      exact Or.inr ⟨-11, by decide, hc, hr⟩
    · rw [if_neg hm] at hc hr
      by_cases hl : (rowL S s).length ≤ 20
      · rw [if_pos hl] at hc hr
        exact Or.inl ⟨s, hs, rfl, hl, hc, hr⟩
      · rw [if_neg hl] at hc hr
        exact Or.inr ⟨-2, by decide, hc, hr⟩
  · refine Or.inr ⟨-2, by decide, fun w h => ?_, fun w h => ?_⟩
    · unfold f5_sheetRefusal
      rw [(e w).1, Option.bind_some, if_pos rfl]
    · unfold f6_sheetWrong
      rw [(e w).2, Option.bind_some, if_pos rfl]
theorem told_ref {S : SS} (hS : SI S) (x b : Int32) : (∃ s k, s < 4 ∧ x = nI s ∧ (rowL S s).length ≤ 20 ∧ k < S.1.2.1 ∧ b = nI k ∧ (∀ w, RC S w → f5_toldRefusal 32 x b w = some (0, w)) ∧ ∀ w, RM S w → f6_toldWrong 75 x b w = some (0, w)) ∨ (∃ z, ¬ z = 0 ∧ (∀ w, RC S w → f5_toldRefusal 32 x b w = some (z, w)) ∧ ∀ w, RM S w → f6_toldWrong 75 x b w = some (z, w)) := by
  rcases sheet_ref hS x with ⟨s, hs, rfl, hl, hc, hr⟩ | ⟨z, hz, hc, hr⟩
  · rcases bcase b hS.1.1 with ⟨k, hk, rfl⟩ | hb
    · refine Or.inl ⟨s, k, hs, rfl, hl, hk, rfl, fun w h => ?_, fun w h => ?_⟩
      · unfold f5_toldRefusal
        rw [ck_pos h.t, hc w h, Option.bind_some, if_pos rfl]
        dsimp only
        rw [h.r3, ck_pos h.t42, has_1 h.hc hk, Option.bind_some, if_neg (show ¬ (1 : Int32) = 0 by decide)]
      · unfold f6_toldWrong
        rw [ck_pos h.1.1.t, hr w h, Option.bind_some, if_pos rfl]
        dsimp only
        rw [one_1 h.1 hk, Option.bind_some, if_neg (show ¬ (1 : Int32) = 0 by decide)]
    · refine Or.inr ⟨-5, by decide, fun w h => ?_, fun w h => ?_⟩
      · unfold f5_toldRefusal
        rw [ck_pos h.t, hc w h, Option.bind_some, if_pos rfl]
        dsimp only
        rw [h.r3, ck_pos h.t42, has_0 h.hc hb]
        rfl
      · unfold f6_toldWrong
        rw [ck_pos h.1.1.t, hr w h, Option.bind_some, if_pos rfl]
        dsimp only
        rw [one_0 h.1 hb]
        rfl
  · refine Or.inr ⟨z, hz, fun w h => ?_, fun w h => ?_⟩
    · unfold f5_toldRefusal
      rw [ck_pos h.t, hc w h, Option.bind_some, if_neg hz]
    · unfold f6_toldWrong
      rw [ck_pos h.1.1.t, hr w h, Option.bind_some, if_neg hz]
theorem judge_pair (x b : Int32) : Pair (f5_judge 32 x b) (f6_judge 75 x b) := pair_of fun S hS => by
  rcases told_ref hS x b with ⟨s, k, hs, rfl, hl, hk, rfl, hc, hr⟩ | ⟨z, hz, hc, hr⟩
  · refine ⟨(othG S.2.1 k S.1 0 (rowL S s), S), fun w h => ?_, fun w h => ?_, hS⟩
    · obtain ⟨w1, a1, a2, a3⟩ := h.think
      obtain ⟨w2, b1, b2, b3⟩ := other_c a2 hS hs hk
      refine ⟨w2, ?_, b2, jcM (a3.tr b3)⟩
      unfold f5_judge
      rw [ck_pos h.t, hc w h, Option.bind_some, if_pos rfl]
      dsimp only
      rw [a1, Option.bind_some]
      dsimp only
      rw [b1]
      rfl
    · obtain ⟨w2, b1, b2, b3⟩ := other_r h hS.rg (rowL_40 hS hs) hs hk
      refine ⟨w2, ?_, b2, kpC b3⟩
      unfold f6_judge
      rw [ck_pos h.1.1.t, hr w h, Option.bind_some, if_pos rfl]
      dsimp only
      rw [b1]
      rfl
  · refine ⟨(z, S), fun w h => ⟨w, ?_, h, OffM.rf⟩, fun w h => ⟨w, ?_, h, OffC.rf⟩, hS⟩
    · unfold f5_judge
      rw [ck_pos h.t, hc w h, Option.bind_some, if_neg hz]
    · unfold f6_judge
      rw [ck_pos h.1.1.t, hr w h, Option.bind_some, if_neg hz]
/-- bits of those by whom it is -1 -/
def fbX (X : Nat → Int32) : Nat → Int32
  | 0 => 0
  | v + 1 => if X v = -1 then fbX X v ||| bitI v else fbX X v
theorem whose_pair (x : Int32) : Pair (f5_whose 32 x) (f6_whose 75 x) := pair_of fun S hS => by
  have hm6 := hS.1.1
  rcases sheet_ref hS x with ⟨s, hs, rfl, hl, hc, hr⟩ | ⟨z, hz, hc, hr⟩
  · refine ⟨(fbX (fun b => othG S.2.1 b S.1 0 (rowL S s)) S.1.2.1, S), fun w h => ?_, fun w h => ?_, hS⟩
    · unfold f5_whose
      rw [ck_pos h.t, hc w h, Option.bind_some, if_pos rfl]
      refine loopE (R := fun o => ∃ w', o = some (fbX (fun b => othG S.2.1 b S.1 0 (rowL S s)) S.1.2.1, w') ∧ RC S w' ∧ OffM w w') (I := fun i v w2 => v = (32, nI s, fbX (fun b => othG S.2.1 b S.1 0 (rowL S s)) i, nI i) ∧ RC S w2 ∧ OffM w w2) S.1.2.1 ?_ ?_ FU _ w (by show S.1.2.1 < 1000; omega) ⟨rfl, h, OffM.rf⟩
      · intro i v w2 hi hI
        obtain ⟨rfl, i1, i2⟩ := hI
        obtain ⟨w3, a1, a2, a3⟩ := i1.think
        obtain ⟨w4, b1, b2, b3⟩ := other_c a2 hS hs hi
        refine ⟨(32, nI s, fbX (fun b => othG S.2.1 b S.1 0 (rowL S s)) (i + 1), nI (i + 1)), w4, ⟨rfl, b2, i2.tr (jcM (a3.tr b3))⟩, fun k => ?_⟩
        unfold b5_whose_17
        dsimp only
        rw [ck_pos i1.t, i1.r3, ck_pos i1.t42, i1.hc.2.2.2.2.2.1, if_neg (nI_ge hi (by omega)), a1, Option.bind_some]
        dsimp only
        rw [b1, Option.bind_some]
        dsimp only
        unfold j5_whose_51
        rw [i3_1, fbX]
        split <;> rfl
      · intro v w2 hI k
        obtain ⟨rfl, i1, i2⟩ := hI
        refine ⟨w2, ?_, i1, i2⟩
        unfold b5_whose_17
        dsimp only
        rw [ck_pos i1.t, i1.r3, ck_pos i1.t42, i1.hc.2.2.2.2.2.1, if_pos (Int32.le_refl _)]
    · unfold f6_whose
      rw [ck_pos h.1.1.t, hr w h, Option.bind_some, if_pos rfl]
      refine loopE (R := fun o => ∃ w', o = some (fbX (fun b => othG S.2.1 b S.1 0 (rowL S s)) S.1.2.1, w') ∧ RM S w' ∧ OffC w w') (I := fun i v w2 => v = (75, nI s, fbX (fun b => othG S.2.1 b S.1 0 (rowL S s)) i, nI i) ∧ RM S w2 ∧ OffC w w2) S.1.2.1 ?_ ?_ FU _ w (by show S.1.2.1 < 1000; omega) ⟨rfl, h, OffC.rf⟩
      · intro i v w2 hi hI
        obtain ⟨rfl, i1, i2⟩ := hI
        obtain ⟨w4, b1, b2, b3⟩ := other_r i1 hS.rg (rowL_40 hS hs) hs hi
        refine ⟨(75, nI s, fbX (fun b => othG S.2.1 b S.1 0 (rowL S s)) (i + 1), nI (i + 1)), w4, ⟨rfl, b2, i2.tr (kpC b3)⟩, fun k => ?_⟩
        unfold b6_whose_17
        dsimp only
        rw [ck_pos i1.1.1.t, i1.1.2.1, if_neg (nI_ge hi (by omega)), b1, Option.bind_some]
        dsimp only
        unfold j6_whose_46
        rw [i3_1, fbX, Int32.or_zero]
        split <;> rfl
      · intro v w2 hI k
        obtain ⟨rfl, i1, i2⟩ := hI
        refine ⟨w2, ?_, i1, i2⟩
        unfold b6_whose_17
        dsimp only
        rw [ck_pos i1.1.1.t, i1.1.2.1, if_pos (Int32.le_refl _)]
  · refine ⟨(z, S), fun w h => ⟨w, ?_, h, OffM.rf⟩, fun w h => ⟨w, ?_, h, OffC.rf⟩, hS⟩
    · unfold f5_whose
      rw [ck_pos h.t, hc w h, Option.bind_some, if_neg hz]
    · unfold f6_whose
      rw [ck_pos h.1.1.t, hr w h, Option.bind_some, if_neg hz]
