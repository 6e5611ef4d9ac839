/-! the class's scan -/
def TS (l : List Int32) (w : Wd) : Prop := (tg w 33 = 3 ∧ wr w 33 0 = 34 ∧ tg w 34 = 20 ∧ ln w 34 = 160) ∧ wi w 33 1 = nI l.length ∧ l.length ≤ 160 ∧ ∀ j b, l[j]? = some b → wi w 34 j = b
theorem byteAt_c {l : List Int32} {w : Wd} (h : TS l w) (p : Nat) (hp : p < 2 ^ 30) : f3_byteAt 33 (nI p) w = some (byI l p, w) := by
  obtain ⟨⟨a1, a2, a3, a4⟩, b1, b2, b3⟩ := h
  unfold f3_byteAt
  rw [if_neg (by rw [ilt, nI_int (by omega), show (0 : Int32).toInt = 0 from rfl]; omega), ck_pos a1, b1]
  by_cases hl : p < l.length
  · rw [if_neg (nI_ge hl (by omega)), a2, ck_pos a3, a4, if_neg (show ¬ Int32.ofNat 160 ≤ nI p from nI_ge (a := p) (b := 160) (by omega) (by omega)), ck_pos (vin (by omega) (by decide)), nI_clamp (by omega), b3 p _ (byI_lt hl)]
  · rw [if_pos (by rw [ile, nI_int (by omega), nI_int (by omega)]; omega), byI_ge (by omega)]
theorem bytePr_c {l : List Int32} {w : Wd} (h : TS l w) (p : Nat) (hp : p < 2 ^ 30) : f3_byteAt 33 (nI p - 1) w = some (prI l p, w) := by
  unfold prI
  by_cases h0 : p = 0
  · subst h0
    rw [if_pos rfl]
    unfold f3_byteAt
    rw [if_pos (by decide)]
  · rw [if_neg h0]
    obtain ⟨q, rfl⟩ : ∃ q, p = q + 1 := ⟨p - 1, by omega⟩
    rw [ni1, Nat.add_sub_cancel]
    exact byteAt_c h q (by omega)
theorem letter_c (b : Int32) (w : Wd) : f3_isLetter b w = some (if letB b = true then 1 else 0, w) := by
  unfold f3_isLetter letB
  simp only [decide_eq_true_eq]
  by_cases h1 : b < 97
  · rw [if_pos h1, if_neg (fun z => by rw [ilt] at h1; have := z.1; rw [ile] at this; omega)]
  · rw [if_neg h1]
    by_cases h2 : 122 < b
    · rw [if_pos h2, if_neg (fun z => by rw [ilt] at h2; have := z.2; rw [ile] at this; omega)]
    · rw [if_neg h2, if_pos]
      rw [ilt] at h1 h2
      rw [ile, ile]
      omega
theorem digit_c (b : Int32) (w : Wd) : f3_isDigit b w = some (if digB b = true then 1 else 0, w) := by
  unfold f3_isDigit digB
  simp only [decide_eq_true_eq]
  by_cases h1 : b < 48
  · rw [if_pos h1, if_neg (fun z => by rw [ilt] at h1; have := z.1; rw [ile] at this; omega)]
  · rw [if_neg h1]
    by_cases h2 : 57 < b
    · rw [if_pos h2, if_neg (fun z => by rw [ilt] at h2; have := z.2; rw [ile] at this; omega)]
    · rw [if_neg h2, if_pos]
      rw [ilt] at h1 h2
      rw [ile, ile]
      omega
theorem if10 {p : Prop} [Decidable p] {α : Type} (a b : α) : (if (if p then (1 : Int32) else 0) = 0 then a else b) = if p then b else a := by
  by_cases h : p
  · rw [if_pos h, if_pos h, if_neg n10]
  · rw [if_neg h, if_neg h, if_pos rfl]
theorem begins_c {l : List Int32} {w : Wd} (h : TS l w) (p : Nat) (hp : p < 2 ^ 30) : f3_beginsToken 33 (nI p) w = some (if bgT l p = true then 1 else 0, w) := by
  unfold f3_beginsToken bgT
  rw [ck_pos h.1.1, byteAt_c h p hp, Option.bind_some]
  dsimp only
  rw [letter_c, Option.bind_some]
  dsimp only
  rw [if10]
  by_cases h1 : letB (byI l p) = true
  · rw [if_pos h1, if_pos h1, bytePr_c h p hp, Option.bind_some]
    dsimp only
    rw [letter_c, Option.bind_some]
    dsimp only
    cases letB (prI l p) <;> rfl
  · rw [if_neg h1, if_neg h1, digit_c, Option.bind_some]
    dsimp only
    rw [if10]
    by_cases h2 : digB (byI l p) = true
    · rw [if_pos h2, if_pos h2, bytePr_c h p hp, Option.bind_some]
      dsimp only
      rw [digit_c, Option.bind_some]
      dsimp only
      cases digB (prI l p) <;> rfl
    · rw [if_neg h2, if_neg h2]
      simp only [decide_eq_true_eq]
      by_cases h3 : byI l p = 32
      · rw [if_pos h3, if_neg (fun z => z.1 h3)]
      · rw [if_neg h3]
        by_cases h4 : byI l p = 10
        · rw [if_pos h4, if_neg (fun z => z.2 h4)]
        · rw [if_neg h4, if_pos ⟨h3, h4⟩]
/-! slices -/
theorem slc_len {l : List Int32} {a b : Nat} (h : b ≤ l.length) : (slc l a b).length = b - a := by
  unfold slc
  rw [List.length_take, List.length_drop]
  omega
theorem slc_at {l : List Int32} {a b t : Nat} (h : b ≤ l.length) (ht : t < b - a) : (slc l a b)[t]? = some (byI l (a + t)) := by
  unfold slc
  rw [List.getElem?_take, if_pos ht, List.getElem?_drop, byI_lt (by omega)]
theorem slc_nil (l : List Int32) (a : Nat) : slc l a a = [] := by
  unfold slc
  rw [Nat.sub_self, List.take_zero]
theorem slc_snoc {l : List Int32} {a b : Nat} (h : b < l.length) (hab : a ≤ b) : slc l a (b + 1) = slc l a b ++ [byI l b] := by
  unfold slc
  rw [show b + 1 - a = (b - a) + 1 by omega, List.take_add_one, List.getElem?_drop, show a + (b - a) = b by omega, byI_lt h]
  rfl
theorem slc_eq {l s : List Int32} {a b : Nat} (h : b ≤ l.length) (hl : s.length = b - a) : slc l a b = s ↔ ∀ t, t < s.length → byI l (a + t) = s.getD t 0 := by
  constructor
  · intro e t ht
    have h1 := slc_at (l := l) (a := a) (b := b) h (t := t) (by omega)
    rw [e, getD_at ht] at h1
    exact (Option.some.inj h1).symm
  · intro e
    apply List.ext_getElem?
    intro t
    by_cases ht : t < s.length
    · rw [slc_at h (by omega), getD_at ht, e t ht]
    · rw [List.getElem?_eq_none (by rw [slc_len h]; omega), List.getElem?_eq_none (by omega)]
/-! words -/
theorem wd_facts : ∀ j, j < 12 → (Int32.ofNat (sLen.getD (j + 1) 0) >>> ((0 : Int32) &&& 31) = nI (wdS j).length ∧ sLen.getD (j + 1) 0 = (wdS j).length ∧ (wdS j).length ≤ 6) ∧ ∀ i, i < (wdS j).length → ((wdS j).getD i 0 &&& 255 = (wdS j).getD i 0 ∧ 97 ≤ (wdS j).getD i 0 ∧ (wdS j).getD i 0 ≤ 122) := by decide
theorem nar_ok {x : Int32} (h1 : 97 ≤ x) (h2 : x ≤ 122) : vp_nar .char x = x ∧ narrow .char (.int x) = .int x := by
  rw [ile, show (97 : Int32).toInt = 97 from rfl] at h1
  rw [ile, show (122 : Int32).toInt = 122 from rfl] at h2
  have e : x.toUInt32.toUInt16.toUInt32.toInt32 = x := lg_i2c_small (by omega) (by omega)
  refine ⟨by rw [vp_nar_char, e], ?_⟩
  show Value.int x.toUInt32.toUInt16.toUInt32.toInt32 = .int x
  rw [e]
theorem wlen_c {j : Nat} (hj : j < 12) (w : Wd) : fJ0_length_8abf5 (j + 3) w = some (nI (wdS j).length, w) := by
  obtain ⟨⟨f1, f2, f3⟩, _⟩ := wd_facts j hj
  unfold fJ0_length_8abf5 fJ0_coder_7d493
  rw [ck_pos ⟨by omega, by omega⟩, if_neg n10, ck_pos ⟨by omega, by omega⟩, Option.bind_some]
  dsimp only
  rw [show j + 3 + 15 - 17 = j + 1 by omega, f1]
theorem wchar_c {j i : Nat} (hj : j < 12) (hi : i < (wdS j).length) (w : Wd) : fJ0_charAt_5068e (j + 3) (nI i) w = some ((wdS j).getD i 0, w) := by
  obtain ⟨⟨f1, f2, f3⟩, f4⟩ := wd_facts j hj
  obtain ⟨g1, g2, g3⟩ := f4 i hi
  obtain ⟨n1, n2⟩ := nar_ok g2 g3
  have hs : sByt.getD (j + 1) [] = wdS j := rfl
  unfold fJ0_charAt_5068e fJ0_isLatin1_aae02 fJ1_charAt_3b067 fJ0_checkIndex_df160 fJ3_checkIndex_8e157
  rw [ck_pos ⟨by omega, by omega⟩, if_neg n10, ck_pos ⟨by omega, by omega⟩, if_pos rfl, Option.bind_some, if_neg n10]
  dsimp only
  rw [ck_pos ⟨by omega, by omega⟩, show j + 3 + 15 - 17 = j + 1 by omega, f2, if_neg (by rw [ilt, nI_int (by omega), show (0 : Int32).toInt = 0 from rfl]; omega), if_pos (show nI i < Int32.ofNat (wdS j).length from nI_lt hi (by omega)), Option.bind_some, Option.bind_some, ck_pos (vin hi (by omega)), nI_clamp (by omega), hs, g1, n1, ck_pos n2, Option.bind_some]
  dsimp only
  rw [ck_pos n2]
theorem isWord_c {l : List Int32} {w : Wd} (h : TS l w) {j a b : Nat} (hj : j < 12) (hab : a ≤ b) (hb : b ≤ l.length) : f3_isWord 33 (j + 3) (nI a) (nI b) w = some (if slc l a b = wdS j then 1 else 0, w) := by
  obtain ⟨⟨f1, f2, f3⟩, f4⟩ := wd_facts j hj
  have hl := h.2.2.1
  unfold f3_isWord
  rw [ck_pos ⟨by omega, by omega⟩, wlen_c hj, Option.bind_some]
  dsimp only
  have es : nI b - nI a = nI (b - a) := by
    rw [ieq, isub] <;> rw [nI_int (by omega), nI_int (by omega)] <;> (try rw [nI_int (by omega)]) <;> omega
  rw [es]
  by_cases hL : (wdS j).length = b - a
  · rw [if_pos (by rw [hL])]
    refine loopI (R := fun o => o = some (if slc l a b = wdS j then 1 else 0, w)) (I := fun i v w2 => w2 = w ∧ v = (33, j + 3, nI a, nI i) ∧ ∀ t, t < i → byI l (a + t) = (wdS j).getD t 0) (wdS j).length ?_ FU 0 _ w (by show (wdS j).length < 1000 + 0; omega) (Nat.zero_le _) ⟨rfl, rfl, fun t ht => absurd ht (Nat.not_lt_zero t)⟩
    intro i v w2 hi hI
    obtain ⟨rfl, rfl, hm⟩ := hI
    by_cases hlt : i < (wdS j).length
    · have body : ∀ k, b3_isWord_15 k (33, j + 3, nI a, nI i) w2 = if byI l (a + i) = (wdS j).getD i 0 then k (33, j + 3, nI a, nI (i + 1)) w2 else some (0, w2) := by
        intro k
        unfold b3_isWord_15
        dsimp only
        rw [ck_pos ⟨by omega, by omega⟩, wlen_c hj, Option.bind_some, if_neg (nI_ge hlt (by omega)), ck_pos h.1.1]
        dsimp only
        rw [nI_add, byteAt_c h _ (by omega), Option.bind_some]
        dsimp only
        rw [wchar_c hj hlt, Option.bind_some, i3_1]
      by_cases he : byI l (a + i) = (wdS j).getD i 0
      · refine Or.inr ⟨hlt, _, w2, ⟨rfl, rfl, fun t ht => ?_⟩, fun k => by rw [body, if_pos he]⟩
        rcases (by omega : t < i ∨ t = i) with z | z
        · exact hm t z
        · rw [z]; exact he
      · refine Or.inl fun k => ?_
        rw [body, if_neg he, if_neg (fun z => he ((slc_eq hb hL).mp z i hlt))]
    · have e : i = (wdS j).length := by omega
      subst e
      refine Or.inl fun k => ?_
      unfold b3_isWord_15
      dsimp only
      rw [ck_pos ⟨by omega, by omega⟩, wlen_c hj, Option.bind_some, if_pos (Int32.le_refl _), if_pos ((slc_eq hb hL).mpr hm)]
  · rw [if_neg (fun z => hL (nI_inj (by omega) (by omega) z)), if_neg]
    intro z
    have := slc_len (l := l) (a := a) (b := b) hb
    rw [z] at this
    exact hL this
theorem tkW_eq (s : List Int32) : tkW s = if s = wdS 0 then 10030 else (if s = wdS 1 then 10031 else (if s = wdS 2 then 10032 else (if s = wdS 3 then 10010 else (if s = wdS 4 then 10011 else (if s = wdS 5 then 10012 else (if s = wdS 6 then 10000 else (if s = wdS 7 then 10001 else (if s = wdS 8 then 10002 else (if s = wdS 9 then 10003 else (if s = wdS 10 then 10004 else (if s = wdS 11 then 10005 else 10041))))))))))) := rfl
theorem word27_c {l : List Int32} {w : Wd} (h : TS l w) {a b : Nat} (hab : a ≤ b) (hb : b ≤ l.length) : j3_wordAt_27 33 (nI a) (nI b) w = some (tkW (slc l a b), w) := by
  have q := fun j (hj : j < 12) => isWord_c h hj hab hb
  have q0 := q 0 (by decide)
  have q1 := q 1 (by decide)
  have q2 := q 2 (by decide)
  have q3 := q 3 (by decide)
  have q4 := q 4 (by decide)
  have q5 := q 5 (by decide)
  have q6 := q 6 (by decide)
  have q7 := q 7 (by decide)
  have q8 := q 8 (by decide)
  have q9 := q 9 (by decide)
  have q10 := q 10 (by decide)
  have q11 := q 11 (by decide)
  rw [tkW_eq]
  generalize slc l a b = s at q0 q1 q2 q3 q4 q5 q6 q7 q8 q9 q10 q11 ⊢
  unfold j3_wordAt_27
  rw [ck_pos h.1.1, q0, Option.bind_some]
  dsimp only
  rw [if10]
  by_cases h0 : s = wdS 0
  · rw [if_pos h0, if_pos h0]
  rw [if_neg h0, if_neg h0, q1, Option.bind_some]
  dsimp only
  rw [if10]
  by_cases h1 : s = wdS 1
  · rw [if_pos h1, if_pos h1]
  rw [if_neg h1, if_neg h1, q2, Option.bind_some]
  dsimp only
  rw [if10]
  by_cases h2 : s = wdS 2
  · rw [if_pos h2, if_pos h2]
  rw [if_neg h2, if_neg h2, q3, Option.bind_some]
  dsimp only
  rw [if10]
  by_cases h3 : s = wdS 3
  · rw [if_pos h3, if_pos h3]
  rw [if_neg h3, if_neg h3, q4, Option.bind_some]
  dsimp only
  rw [if10]
  by_cases h4 : s = wdS 4
  · rw [if_pos h4, if_pos h4]
  rw [if_neg h4, if_neg h4, q5, Option.bind_some]
  dsimp only
  rw [if10]
  by_cases h5 : s = wdS 5
  · rw [if_pos h5, if_pos h5]
  rw [if_neg h5, if_neg h5, q6, Option.bind_some]
  dsimp only
  rw [if10]
  by_cases h6 : s = wdS 6
  · rw [if_pos h6, if_pos h6]
  rw [if_neg h6, if_neg h6, q7, Option.bind_some]
  dsimp only
  rw [if10]
  by_cases h7 : s = wdS 7
  · rw [if_pos h7, if_pos h7]
  rw [if_neg h7, if_neg h7, q8, Option.bind_some]
  dsimp only
  rw [if10]
  by_cases h8 : s = wdS 8
  · rw [if_pos h8, if_pos h8]
  rw [if_neg h8, if_neg h8, q9, Option.bind_some]
  dsimp only
  rw [if10]
  by_cases h9 : s = wdS 9
  · rw [if_pos h9, if_pos h9]
  rw [if_neg h9, if_neg h9, q10, Option.bind_some]
  dsimp only
  rw [if10]
  by_cases h10 : s = wdS 10
  · rw [if_pos h10, if_pos h10]
  rw [if_neg h10, if_neg h10, q11, Option.bind_some]
  dsimp only
  rw [if10]
  by_cases h11 : s = wdS 11
  · rw [if_pos h11, if_pos h11]
  rw [if_neg h11, if_neg h11]
theorem wordAt_c {l : List Int32} {w : Wd} (h : TS l w) {p : Nat} (hp : p ≤ l.length) : f3_wordAt 33 (nI p) w = some (tkW (slc l p (runE letB l p)), w) := by
  have hl := h.2.2.1
  obtain ⟨r1, r2⟩ := run_le (P := letB) (l := l) _ p rfl hp
  unfold f3_wordAt
  refine loopI (R := fun o => o = some (tkW (slc l p (runE letB l p)), w)) (I := fun i v w2 => w2 = w ∧ v = (33, nI p, nI (p + i)) ∧ runE letB l (p + i) = runE letB l p) (l.length - p) ?_ FU 0 _ w (by show l.length - p < 1000 + 0; omega) (Nat.zero_le _) ⟨rfl, rfl, rfl⟩
  intro i v w2 hi hI
  obtain ⟨rfl, rfl, hr⟩ := hI
  have fin : runE letB l p = p + i → ∀ k, b3_wordAt_2 k (33, nI p, nI (p + i)) w2 = some (tkW (slc l p (runE letB l p)), w2) := by
    intro e k
    have h27 := word27_c h (a := p) (b := p + i) (by omega) (by omega)
    unfold b3_wordAt_2
    dsimp only
    rw [ck_pos h.1.1, h.2.1, h27, byteAt_c h _ (by omega), Option.bind_some, e]
    dsimp only
    rw [letter_c, Option.bind_some]
    dsimp only
    rw [if10, h27]
    by_cases hlt : p + i < l.length
    · rw [if_neg (nI_ge hlt (by omega)), if_neg]
      rw [← hr, run_st hlt] at e
      intro z
      rw [if_pos z] at e
      have := run_le (P := letB) (l := l) _ (p + i + 1) rfl (by omega)
      omega
    · rw [if_pos (by rw [ile, nI_int (by omega), nI_int (by omega)]; omega)]
  by_cases hlt : p + i < l.length
  · by_cases hb : letB (byI l (p + i)) = true
    · refine Or.inr ⟨by omega, (33, nI p, nI (p + (i + 1))), w2, ⟨rfl, rfl, ?_⟩, fun k => ?_⟩
      · rw [← hr, run_st hlt, if_pos hb]
        rfl
      · unfold b3_wordAt_2
        dsimp only
        rw [ck_pos h.1.1, h.2.1, if_neg (nI_ge hlt (by omega)), byteAt_c h _ (by omega), Option.bind_some]
        dsimp only
        rw [letter_c, Option.bind_some]
        dsimp only
        rw [if10, if_pos hb, i3_1]
        rfl
    · exact Or.inl (fin (by rw [← hr, run_st hlt, if_neg hb]))
  · exact Or.inl (fin (by rw [← hr, run_end (by omega)]))
theorem numV_snoc (ds : List Int32) (d : Int32) : numV (ds ++ [d]) = numV ds * 10 + d - 48 := by
  unfold numV
  rw [List.foldl_append]
  rfl
theorem numberAt_c {l : List Int32} {w : Wd} (h : TS l w) {p : Nat} (hp : p ≤ l.length) : f3_numberAt 33 (nI p) w = some (tkN (slc l p (runE digB l p)), w) := by
  have hl := h.2.2.1
  obtain ⟨r1, r2⟩ := run_le (P := digB) (l := l) _ p rfl hp
  unfold f3_numberAt
  refine loopI (R := fun o => o = some (tkN (slc l p (runE digB l p)), w)) (I := fun i v w2 => (w2 = w ∧ p + i ≤ l.length) ∧ v = (33, nI p, numV (slc l p (p + i)), nI (p + i)) ∧ runE digB l (p + i) = runE digB l p) (l.length - p) ?_ FU 0 _ w (by show l.length - p < 1000 + 0; omega) (Nat.zero_le _) ⟨⟨rfl, hp⟩, by rw [Nat.add_zero, slc_nil]; rfl, rfl⟩
  intro i v w2 hi hI
  obtain ⟨⟨rfl, hpi⟩, rfl, hr⟩ := hI
  have fin : runE digB l p = p + i → ∀ k, b3_numberAt_4 k (33, nI p, numV (slc l p (p + i)), nI (p + i)) w2 = some (tkN (slc l p (runE digB l p)), w2) := by
    intro e k
    have h43 : j3_numberAt_43 (nI p) (numV (slc l p (p + i))) (nI (p + i)) w2 = some (tkN (slc l p (p + i)), w2) := by
      have es : nI (p + i) - nI p = nI i := by
        rw [ieq, isub] <;> rw [nI_int (by omega), nI_int (by omega)] <;> (try rw [nI_int (by omega)]) <;> omega
      unfold j3_numberAt_43 tkN
      rw [es, slc_len hpi, show p + i - p = i by omega]
      by_cases h4 : i ≤ 4
      · rw [if_pos h4, if_pos (by rw [ile, nI_int (by omega), show (4 : Int32).toInt = 4 from rfl]; omega)]
      · rw [if_neg h4, if_neg (by rw [ile, nI_int (by omega), show (4 : Int32).toInt = 4 from rfl]; omega)]
    unfold b3_numberAt_4
    dsimp only
    rw [ck_pos h.1.1, h.2.1, h43, byteAt_c h _ (by omega), Option.bind_some, e]
    dsimp only
    rw [digit_c, Option.bind_some]
    dsimp only
    rw [if10, h43]
    by_cases hlt : p + i < l.length
    · rw [if_neg (nI_ge hlt (by omega)), if_neg]
      rw [← hr, run_st hlt] at e
      intro z
      rw [if_pos z] at e
      have := run_le (P := digB) (l := l) _ (p + i + 1) rfl (by omega)
      omega
    · rw [if_pos (by rw [ile, nI_int (by omega), nI_int (by omega)]; omega)]
  by_cases hlt : p + i < l.length
  · by_cases hb : digB (byI l (p + i)) = true
    · refine Or.inr ⟨by omega, (33, nI p, numV (slc l p (p + (i + 1))), nI (p + (i + 1))), w2, ⟨⟨rfl, by omega⟩, rfl, ?_⟩, fun k => ?_⟩
      · rw [← hr, run_st hlt, if_pos hb]
        rfl
      · unfold b3_numberAt_4
        dsimp only
        rw [ck_pos h.1.1, h.2.1, if_neg (nI_ge hlt (by omega)), byteAt_c h _ (by omega), Option.bind_some]
        dsimp only
        rw [digit_c, Option.bind_some]
        dsimp only
        rw [if10, if_pos hb, byteAt_c h _ (by omega), Option.bind_some, i3_1, show p + (i + 1) = p + i + 1 from rfl, slc_snoc hlt (by omega), numV_snoc]
    · exact Or.inl (fin (by rw [← hr, run_st hlt, if_neg hb]))
  · exact Or.inl (fin (by rw [← hr, run_end (by omega)]))
theorem signOf_c (b : Int32) (w : Wd) : f3_signOf b w = some (tkS b, w) := by
  unfold f3_signOf tkS
  repeat' split
  all_goals rfl
theorem tokenAt_c {l : List Int32} {w : Wd} (h : TS l w) {p : Nat} (hp : p < l.length) : f3_tokenAt 33 (nI p) w = some (tkT l p, w) := by
  have hl := h.2.2.1
  unfold f3_tokenAt tkT endT
  rw [ck_pos h.1.1, byteAt_c h p (by omega), Option.bind_some]
  dsimp only
  rw [letter_c, Option.bind_some]
  dsimp only
  rw [if10]
  by_cases h1 : letB (byI l p) = true
  · rw [if_pos h1, if_pos h1, if_pos h1, wordAt_c h (by omega)]
    rfl
  · rw [if_neg h1, if_neg h1, if_neg h1, digit_c, Option.bind_some]
    dsimp only
    rw [if10]
    by_cases h2 : digB (byI l p) = true
    · rw [if_pos h2, if_pos h2, if_pos h2, numberAt_c h (by omega)]
      rfl
    · rw [if_neg h2, if_neg h2, signOf_c]
      rfl
/-- the tokens lie in their rows -/
def TKs (l : List Int32) (w : Wd) (K : List (Int32 × Nat)) : Prop := TS l w ∧ (wr w 33 2 = 35 ∧ wr w 33 3 = 36 ∧ tg w 35 = 20 ∧ ln w 35 = 160 ∧ tg w 36 = 20 ∧ ln w 36 = 160) ∧ wi w 33 4 = nI K.length ∧ ∀ j x, K[j]? = some x → wi w 35 j = x.1 ∧ wi w 36 j = nI x.2
def SQ (q : Nat) : Prop := q = 33 ∨ q = 35 ∨ q = 36
theorem snocP {l : List (Int32 × Nat)} {x b : Int32 × Nat} {j : Nat} (h : (l ++ [x])[j]? = some b) : (j = l.length ∧ b = x) ∨ (j < l.length ∧ l[j]? = some b) := by
  rcases Nat.lt_or_ge j l.length with hj | hj
  · rw [List.getElem?_append_left hj] at h
    exact Or.inr ⟨hj, h⟩
  · rw [List.getElem?_append_right hj] at h
    have := (List.getElem?_eq_some_iff.mp h).1
    simp only [List.length_singleton] at this
    have e : j = l.length := by omega
    subst e
    rw [Nat.sub_self] at h
    exact Or.inl ⟨rfl, (Option.some.inj h).symm⟩
theorem scan_c {l : List Int32} {w : Wd} (h : TS l w) (hq : wr w 33 2 = 35 ∧ wr w 33 3 = 36 ∧ tg w 35 = 20 ∧ ln w 35 = 160 ∧ tg w 36 = 20 ∧ ln w 36 = 160) : ∃ w', f3_scan 33 w = some ((), w') ∧ TKs l w' (tkF l 0) ∧ Fr SQ w w' ∧ (∀ q, wr w' q = wr w q) ∧ ∀ k, k ≠ 4 → wi w' 33 k = wi w 33 k := by
  have hl := h.2.2.1
  have h0 : TKs l (sI w 33 4 0) [] := ⟨⟨h.1, by rw [wi_sI, if_neg (fun z => absurd z.2 (by decide))]; exact h.2.1, hl, fun j b hb => by rw [wi_sI_ne (by decide)]; exact h.2.2.2 j b hb⟩, hq, wi_at _ _ _ _, fun j x hx => by simp at hx⟩
  have key : ∃ w', loopF b3_scan_7 FU (33, (0 : Int32)) (sI w 33 4 0) = some ((), w') ∧ TKs l w' (tkF l 0) ∧ Fr SQ w w' ∧ (∀ q, wr w' q = wr w q) ∧ ∀ k, k ≠ 4 → wi w' 33 k = wi w 33 k := by
    refine loopE (R := fun o => ∃ w', o = some ((), w') ∧ TKs l w' (tkF l 0) ∧ Fr SQ w w' ∧ (∀ q, wr w' q = wr w q) ∧ ∀ k, k ≠ 4 → wi w' 33 k = wi w 33 k) (I := fun i v w2 => v = (33, nI i) ∧ (∃ K, TKs l w2 K ∧ tkF l 0 = K ++ tkF l i ∧ K.length ≤ i) ∧ Fr SQ w w2 ∧ (∀ q, wr w2 q = wr w q) ∧ ∀ k, k ≠ 4 → wi w2 33 k = wi w 33 k) l.length ?_ ?_ FU _ (sI w 33 4 0) (by show l.length < 1000; omega) ⟨rfl, ⟨[], h0, rfl, Nat.le_refl 0⟩, Fr.sI (Or.inl rfl), fun _ => rfl, fun k hk => by rw [wi_sI, if_neg (fun z => hk z.2)]⟩
    · intro i v w2 hi hI
      obtain ⟨rfl, ⟨K, hK, hE, hLn⟩, i1, i2, i3'⟩ := hI
      obtain ⟨t1, ⟨t2, t3, t4, t5, t6, t7⟩, t8, t9⟩ := hK
      have e69 : ∀ k w3, j3_scan_69 k 33 (nI i) w3 = k (33, nI (i + 1)) w3 := by
        intro k w3
        unfold j3_scan_69
        rw [i3_1]
      rw [tkF_st hi] at hE
      by_cases hb : bgT l i = true
      · rw [if_pos hb] at hE
        have hlt : K.length < 160 := by omega
        refine ⟨(33, nI (i + 1)), sI (sI (sI w2 35 K.length (tkT l i)) 36 K.length (nI i)) 33 4 (nI (K.length + 1)), ⟨rfl, ⟨K ++ [(tkT l i, i)], ⟨⟨t1.1, ?_, hl, fun j b hb => ?_⟩, ⟨t2, t3, t4, t5, t6, t7⟩, by rw [wi_at, List.length_append]; rfl, fun j x hx => ?_⟩, by rw [List.append_assoc]; exact hE, by rw [List.length_append]; show K.length + 1 ≤ i + 1; omega⟩, ((i1.tr (Fr.sI (Or.inr (Or.inl rfl)))).tr (Fr.sI (Or.inr (Or.inr rfl)))).tr (Fr.sI (Or.inl rfl)), fun q => i2 q, fun k hk => ?_⟩, fun k => ?_⟩
        · rw [wi_sI, if_neg (fun z => absurd z.2 (by decide)), wi_sI_ne (by decide), wi_sI_ne (by decide)]; exact t1.2.1
        · rw [wi_sI_ne (by decide), wi_sI_ne (by decide), wi_sI_ne (by decide)]; exact t1.2.2.2 j b hb
        · have g1 : wi (sI (sI (sI w2 35 K.length (tkT l i)) 36 K.length (nI i)) 33 4 (nI (K.length + 1))) 35 j = if j = K.length then tkT l i else wi w2 35 j := by
            rw [wi_sI_ne (by decide), wi_sI_ne (by decide), wi_sI]
            by_cases e : j = K.length
            · rw [if_pos ⟨rfl, e⟩, if_pos e]
            · rw [if_neg (fun z => e z.2), if_neg e]
          have g2 : wi (sI (sI (sI w2 35 K.length (tkT l i)) 36 K.length (nI i)) 33 4 (nI (K.length + 1))) 36 j = if j = K.length then nI i else wi w2 36 j := by
            rw [wi_sI_ne (by decide), wi_sI]
            by_cases e : j = K.length
            · rw [if_pos ⟨rfl, e⟩, if_pos e]
            · rw [if_neg (fun z => e z.2), if_neg e, wi_sI_ne (by decide)]
          rw [g1, g2]
          rcases snocP hx with ⟨e1, e2⟩ | ⟨e1, e2⟩
          · rw [if_pos e1, if_pos e1, e2]
            exact ⟨rfl, rfl⟩
          · rw [if_neg (by omega), if_neg (by omega)]
            exact t9 j x e2
        · rw [wi_sI, if_neg (fun z => hk z.2), wi_sI_ne (by decide), wi_sI_ne (by decide)]
          exact i3' k hk
        · unfold b3_scan_7 lw
          dsimp only
          have e1 : wi (sI (sI w2 35 K.length (tkT l i)) 36 K.length (nI i)) 33 4 = nI K.length := by rw [wi_sI_ne (by decide), wi_sI_ne (by decide)]; exact t8
          have e2 : wi (sI w2 35 K.length (tkT l i)) 33 4 = nI K.length := by rw [wi_sI_ne (by decide)]; exact t8
          have e3 : tg (sI w2 35 K.length (tkT l i)) 36 = 20 := t6
          have v16 : vp_in (nI K.length) 160 := vin hlt (by decide)
          rw [ck_pos t1.1.1, t1.2.1, if_neg (nI_ge hi (by omega)), begins_c t1 i (by omega), Option.bind_some]
          dsimp only
          rw [if10, if_pos hb, t2, ck_pos t4, t5, t8, if_neg (show ¬ Int32.ofNat 160 ≤ nI K.length from nI_ge (a := K.length) (b := 160) hlt (by omega)), tokenAt_c t1 hi, Option.bind_some]
          dsimp only
          rw [t5, ck_pos v16, nI_clamp (by omega), wr_sI, t3, ln_sI, t7, e2, ck_pos (And.intro e3 v16), nI_clamp (by omega), e1, i3_1, e69]
      · rw [if_neg hb] at hE
        refine ⟨(33, nI (i + 1)), w2, ⟨rfl, ⟨K, ⟨t1, ⟨t2, t3, t4, t5, t6, t7⟩, t8, t9⟩, hE, by omega⟩, i1, i2, i3'⟩, fun k => ?_⟩
        unfold b3_scan_7
        dsimp only
        rw [ck_pos t1.1.1, t1.2.1, if_neg (nI_ge hi (by omega)), begins_c t1 i (by omega), Option.bind_some]
        dsimp only
        rw [if10, if_neg hb, e69]
    · intro v w2 hI k
      obtain ⟨rfl, ⟨K, hK, hE, hLn⟩, i1, i2, i3'⟩ := hI
      rw [tkF_end (Nat.le_refl _), List.append_nil] at hE
      refine ⟨w2, ?_, by rw [hE]; exact hK, i1, i2, i3'⟩
      unfold b3_scan_7
      dsimp only
      rw [ck_pos hK.1.1.1, hK.1.2.1, if_pos (Int32.le_refl _)]
  obtain ⟨w', k1, k2⟩ := key
  refine ⟨w', ?_, k2⟩
  unfold f3_scan lw
  rw [ck_pos h.1.1]
  exact k1
