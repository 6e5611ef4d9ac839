/-! the class reads: its recursive reader -/
def CS (T : List Int32) (w : Wd) (i : Nat) (c : List Int32) : Prop :=
  (tg w 33 = 3 ∧ wr w 33 2 = 35 ∧ wr w 33 6 = 37 ∧ tg w 35 = 20 ∧ ln w 35 = 160 ∧ tg w 37 = 20 ∧ ln w 37 = 160) ∧ (wi w 33 4 = nI T.length ∧ T.length ≤ 160 ∧ ∀ j x, T[j]? = some x → wi w 35 j = x) ∧ (wi w 33 5 = nI i ∧ i ≤ T.length) ∧ wi w 33 7 = nI c.length ∧ (∀ j x, c[j]? = some x → wi w 37 j = x) ∧ c.length ≤ 160
def PR (w w' : Wd) : Prop := Fr (fun q => q = 33 ∨ q = 37) w w' ∧ (∀ q, wr w' q = wr w q) ∧ ∀ k, k ≠ 5 → k ≠ 7 → wi w' 33 k = wi w 33 k
theorem PR.rf {w : Wd} : PR w w := ⟨Fr.rf, fun _ => rfl, fun _ _ _ => rfl⟩
theorem PR.tr {a b c : Wd} (h1 : PR a b) (h2 : PR b c) : PR a c := ⟨h1.1.tr h2.1, fun q => (h2.2.1 q).trans (h1.2.1 q), fun k x y => (h2.2.2 k x y).trans (h1.2.2 k x y)⟩
theorem drop_hd (T : List Int32) (i : Nat) : (T.drop i).head? = T[i]? := by
  rw [List.head?_drop]
theorem drop_cons {T : List Int32} {i : Nat} {x : Int32} (h : (T.drop i).head? = some x) : T.drop i = x :: T.drop (i + 1) ∧ i < T.length := by
  rw [drop_hd] at h
  obtain ⟨h1, h2⟩ := List.getElem?_eq_some_iff.mp h
  exact ⟨by rw [List.drop_eq_getElem_cons h1, h2], h1⟩
/-- no token is the end's mark -/
def noEnd (T : List Int32) : Prop := ∀ t ∈ T, t ≠ 10040 ∧ 0 ≤ t
theorem tok_c {T c : List Int32} {w : Wd} {i : Nat} (h : CS T w i c) : f3_token 33 w = some (((T.drop i).head?).getD 10040, w) := by
  obtain ⟨⟨a1, a2, a3, a4, a5, a6, a7⟩, ⟨b1, b2, b3⟩, ⟨c1, c2⟩, d1, d2, d3⟩ := h
  unfold f3_token
  rw [ck_pos a1, b1, c1, a2, ck_pos a4, a5, drop_hd]
  by_cases hi : i < T.length
  · rw [if_neg (nI_ge hi (by omega)), if_neg (show ¬ Int32.ofNat 160 ≤ nI i from nI_ge (a := i) (b := 160) (by omega) (by omega)), ck_pos (vin (by omega) (by decide)), nI_clamp (by omega), List.getElem?_eq_getElem hi, b3 i _ (List.getElem?_eq_getElem hi)]
    rfl
  · rw [if_pos (by rw [ile, nI_int (by omega), nI_int (by omega)]; omega), List.getElem?_eq_none (by omega)]
    rfl
theorem tok_some {T : List Int32} {i : Nat} {x : Int32} (hx : x ≠ 10040) : ((T.drop i).head?).getD 10040 = x ↔ (T.drop i).head? = some x := by
  cases h : (T.drop i).head? with
  | none => exact ⟨fun z => absurd z.symm hx, fun z => by cases z⟩
  | some y => exact ⟨fun z => by rw [← z]; rfl, fun z => by rw [Option.some.inj z]; rfl⟩
theorem go_y {T c : List Int32} {w : Wd} {i : Nat} {x : Int32} (h : CS T w i c) (hx : (T.drop i).head? = some x) : ∃ w', f3_goBehind 33 x w = some (1, w') ∧ CS T w' (i + 1) c ∧ PR w w' := by
  obtain ⟨h1, h2⟩ := drop_cons hx
  have ht := tok_c h
  rw [hx] at ht
  obtain ⟨⟨a1, a2, a3, a4, a5, a6, a7⟩, ⟨b1, b2, b3⟩, ⟨c1, c2⟩, d1, d2, d3⟩ := h
  have k5 : ∀ k, k ≠ 5 → wi (sI w 33 5 (nI (i + 1))) 33 k = wi w 33 k := fun k hk => by rw [wi_sI, if_neg (fun z => hk z.2)]
  refine ⟨sI w 33 5 (nI (i + 1)), ?_, ⟨⟨a1, a2, a3, a4, a5, a6, a7⟩, ⟨by rw [k5 4 (by decide)]; exact b1, b2, fun j y hy => by rw [wi_sI_ne (by decide)]; exact b3 j y hy⟩, ⟨wi_at _ _ _ _, by omega⟩, by rw [k5 7 (by decide)]; exact d1, fun j y hy => by rw [wi_sI_ne (by decide)]; exact d2 j y hy, d3⟩, ⟨Fr.sI (Or.inl rfl), fun _ => rfl, fun k h5 _ => k5 k h5⟩⟩
  unfold f3_goBehind lw
  rw [ck_pos a1, ht, Option.bind_some]
  dsimp only
  rw [Option.getD_some, if_pos rfl, c1, i3_1]
theorem go_n {T c : List Int32} {w : Wd} {i : Nat} {x : Int32} (h : CS T w i c) (hx : (T.drop i).head? ≠ some x) (h0 : x ≠ 10040) : f3_goBehind 33 x w = some (0, w) := by
  have ht := tok_c h
  unfold f3_goBehind
  rw [ck_pos h.1.1, ht, Option.bind_some]
  dsimp only
  rw [if_neg (fun z => hx ((tok_some h0).mp z))]
theorem add_s {T c : List Int32} {w : Wd} {i : Nat} (x : Int32) (h : CS T w i c) (hl : c.length < 160) : ∃ w', f3_addStep 33 x w = some (1, w') ∧ CS T w' i (c ++ [x]) ∧ PR w w' := by
  obtain ⟨⟨a1, a2, a3, a4, a5, a6, a7⟩, ⟨b1, b2, b3⟩, ⟨c1, c2⟩, d1, d2, d3⟩ := h
  have k7 : ∀ k, k ≠ 7 → wi (sI (sI w 37 c.length x) 33 7 (nI (c.length + 1))) 33 k = wi w 33 k := fun k hk => by rw [wi_sI, if_neg (fun z => hk z.2), wi_sI_ne (by decide)]
  refine ⟨sI (sI w 37 c.length x) 33 7 (nI (c.length + 1)), ?_, ⟨⟨a1, a2, a3, a4, a5, a6, a7⟩, ⟨by rw [k7 4 (by decide)]; exact b1, b2, fun j y hy => by rw [wi_sI_ne (by decide), wi_sI_ne (by decide)]; exact b3 j y hy⟩, ⟨by rw [k7 5 (by decide)]; exact c1, c2⟩, by rw [wi_at, List.length_append]; rfl, fun j y hy => ?_, by rw [List.length_append]; show c.length + 1 ≤ 160; omega⟩, ⟨(Fr.sI (Or.inr rfl)).tr (Fr.sI (Or.inl rfl)), fun _ => rfl, fun k _ h7 => k7 k h7⟩⟩
  · unfold f3_addStep lw
    dsimp only
    have e1 : wi (sI w 37 c.length x) 33 7 = nI c.length := by rw [wi_sI_ne (by decide)]; exact d1
    rw [ck_pos a1, a3, ck_pos a6, a7, d1, if_neg (show ¬ Int32.ofNat 160 ≤ nI c.length from nI_ge (a := c.length) (b := 160) hl (by omega)), ck_pos (vin hl (by decide)), nI_clamp (by omega), e1, i3_1]
  · rw [wi_sI_ne (by decide), wi_sI]
    rcases snoc_at hy with ⟨e1, e2⟩ | ⟨e1, e2⟩
    · rw [if_pos ⟨rfl, e1⟩, e2]
    · rw [if_neg (fun z => by omega)]
      exact d2 j y e2
/-- what a reader of level m answers -/
def GoodR (T : List Int32) (m o i : Nat) (c : List Int32) (r : Bool) (i' : Nat) (c' : List Int32) : Prop :=
  if r = true then (if m = 5 then sim1 o (T.drop i) c (T.drop i') c' else simO m m o (T.drop i) c (T.drop i') c') ∧ stD m o c c' ∧ c'.length + (T.length - i') ≤ c.length + (T.length - i) ∧ i < i' else simF m o (T.drop i) c (T.drop i')
def ResS (T : List Int32) (w0 : Wd) (m o i : Nat) (c : List Int32) (O : Option (Int32 × Wd)) : Prop :=
  ∃ r i' c' w', O = some ((if r = true then (1 : Int32) else 0), w') ∧ CS T w' i' c' ∧ PR w0 w' ∧ GoodR T m o i c r i' c'
def RecS (T : List Int32) (rk : Nat × Nat × Int32 → Wd → Option (Int32 × Wd)) (n : Nat) : Prop :=
  ∀ m o i c w, m ≤ 5 → o ≤ 5 → 6 * (5 - o) + (6 - m) ≤ n → CS T w i c → c.length + (T.length - i) ≤ 160 → ResS T w m o i c (rk (m, 33, nI o) w)
theorem GoodR.t {T c c' : List Int32} {m o i i' : Nat} (h : GoodR T m o i c true i' c') (hm : m ≤ 4) : simO m m o (T.drop i) c (T.drop i') c' ∧ stD m o c c' ∧ c'.length + (T.length - i') ≤ c.length + (T.length - i) ∧ i < i' := by
  unfold GoodR at h
  rw [if_pos rfl, if_neg (by omega)] at h
  exact h
theorem GoodR.f {T c c' : List Int32} {m o i i' : Nat} (h : GoodR T m o i c false i' c') : simF m o (T.drop i) c (T.drop i') := by
  unfold GoodR at h
  rw [if_neg (by decide)] at h
  exact h
theorem good_f {T c c' : List Int32} {m o i i' : Nat} (h : simF m o (T.drop i) c (T.drop i')) : GoodR T m o i c false i' c' := by
  unfold GoodR
  rw [if_neg (by decide)]
  exact h
theorem good_t {T c c' : List Int32} {m o i i' : Nat} (hm : m ≤ 4) (h : simO m m o (T.drop i) c (T.drop i') c') (h1 : stD m o c c') (h2 : c'.length + (T.length - i') ≤ c.length + (T.length - i)) (h3 : i < i') : GoodR T m o i c true i' c' := by
  unfold GoodR
  rw [if_pos rfl, if_neg (by omega)]
  exact ⟨h, h1, h2, h3⟩
theorem good_1 {T c c' : List Int32} {o i i' : Nat} (h : sim1 o (T.drop i) c (T.drop i') c') (h1 : stD 5 o c c') (h2 : c'.length + (T.length - i') ≤ c.length + (T.length - i)) (h3 : i < i') : GoodR T 5 o i c true i' c' := by
  unfold GoodR
  rw [if_pos rfl, if_pos rfl]
  exact ⟨h, h1, h2, h3⟩
theorem GoodR.t1 {T c c' : List Int32} {o i i' : Nat} (h : GoodR T 5 o i c true i' c') : sim1 o (T.drop i) c (T.drop i') c' ∧ stD 5 o c c' ∧ c'.length + (T.length - i') ≤ c.length + (T.length - i) ∧ i < i' := by
  unfold GoodR at h
  rw [if_pos rfl, if_pos rfl] at h
  exact h
theorem isB1 : isB (1 : Int32) := Or.inr rfl
theorem isB0 : isB (0 : Int32) := Or.inl rfl
theorem ff01 : (if false = true then (1 : Int32) else 0) = 0 := rfl
theorem n10 : ¬ (1 : Int32) = 0 := by decide
theorem n01 : ¬ (0 : Int32) = 1 := by decide
/-- a loop of a level: it runs, or it has failed -/
def LpA (T : List Int32) (w0 : Wd) (m o i : Nat) (c : List Int32) (k : Nat) (i2 : Nat) (c2 : List Int32) (w : Wd) : Prop := CS T w i2 c2 ∧ PR w0 w ∧ simO m (m + 1) o (T.drop i) c (T.drop i2) c2 ∧ stD m o c c2 ∧ c2.length + (T.length - i2) ≤ c.length + (T.length - i) ∧ i + k < i2
def LpF (T : List Int32) (w0 : Wd) (m o i : Nat) (c : List Int32) (w : Wd) : Prop := ∃ i2 c2, CS T w i2 c2 ∧ PR w0 w ∧ simF m o (T.drop i) c (T.drop i2)
theorem LpF.res {T c : List Int32} {w0 w : Wd} {m o i : Nat} (h : LpF T w0 m o i c w) : ResS T w0 m o i c (some (0, w)) := by
  obtain ⟨i2, c2, h1, h2, h3⟩ := h
  exact ⟨false, i2, c2, w, rfl, h1, h2, good_f h3⟩
theorem LpA.res {T c c2 : List Int32} {w0 w : Wd} {m o i i2 k : Nat} (h : LpA T w0 m o i c k i2 c2 w) (hm : m = 0 ∨ m = 1 ∨ m = 3 ∨ m = 4) (hn : ∀ t, (T.drop i2).head? = some t → ¬ sgL m t) : ResS T w0 m o i c (some (1, w)) := by
  obtain ⟨h1, h2, h3, h4, h5, h6⟩ := h
  exact ⟨true, i2, c2, w, rfl, h1, h2, good_t (by omega) (bin_end hm h3 hn) h4 h5 (by omega)⟩
theorem readOr_ok {T : List Int32} {rk : Nat × Nat × Int32 → Wd → Option (Int32 × Wd)} {n : Nat} (hk : RecS T rk n) {o i : Nat} {c : List Int32} {w : Wd} (ho : o ≤ 5) (hf : 6 * (5 - o) + (6 - 0) ≤ n + 1) (h : CS T w i c) (hl : c.length + (T.length - i) ≤ 160) : ResS T w 0 o i c (f3_readOr rk 33 (nI o) w) := by
  obtain ⟨r, i1, c1, w1, e1, e2, e3, g⟩ := hk 1 o i c w (by decide) ho (by omega) h hl
  have hT : T.length ≤ 160 := h.2.1.2.1
  have goal : ResS T w 0 o i c (loopF (b3_readOr_8 rk) FU (33, nI o, (if r = true then (1 : Int32) else 0), (0 : Int32)) w1) := by
    refine loopI (R := ResS T w 0 o i c) (I := fun k v w2 => (v = (33, nI o, (1 : Int32), nI k) ∧ ∃ i2 c2, LpA T w 0 o i c k i2 c2 w2) ∨ (v = (33, nI o, (0 : Int32), nI k) ∧ LpF T w 0 o i c w2)) 161 ?_ FU 0 _ w1 (by decide) (by decide) ?_
    · intro k v w2 hk2 hI
      rcases hI with ⟨rfl, i2, c2, hA⟩ | ⟨rfl, hF⟩
      · have hA' := id hA
        obtain ⟨h1, h2, h3, h4, h5, h6⟩ := hA'
        have hi2 := h1.2.2.1.2
        have hk160 : k < 160 := by omega
        by_cases hop : (T.drop i2).head? = some 10010
        · obtain ⟨d1, d2⟩ := drop_cons hop
          obtain ⟨w3, a1, a2, a3⟩ := go_y h1 hop
          have hsg : sgL 0 10010 := by unfold sgL; decide
          have h3' : simO 0 1 o (T.drop i) c (10010 :: T.drop (i2 + 1)) c2 := by rw [← d1]; exact h3
          obtain ⟨r2, i3, c3, w4, b1, b2, b3, f⟩ := hk 1 o (i2 + 1) c2 w3 (by decide) ho (by omega) a2 (by omega)
          have body : ∀ k8, b3_readOr_8 rk k8 (33, nI o, (1 : Int32), nI k) w2 = (if (if r2 = true then (1 : Int32) else 0) = 0 then k8 (33, nI o, (0 : Int32), nI (k + 1)) w4 else ((f3_addStep 33 10010 w4).bind fun z19 => (if z19.1 = (0 : Int32) then (j3_readOr_51 rk k8 33 (nI o) (nI k) z19.2) else (j3_readOr_52 rk k8 33 (nI o) (nI k) (1 : Int32) z19.2)))) := by
            intro k8
            unfold b3_readOr_8
            dsimp only
            rw [if_neg (show ¬ (160 : Int32) ≤ nI k from nI_ge (b := 160) hk160 (by omega)), if_neg n10, ck_pos h1.1.1, a1, Option.bind_some, if_neg n10]
            dsimp only
            rw [b1, Option.bind_some]
            dsimp only
            unfold j3_readOr_51 j3_readOr_52
            rw [i3_1]
          cases r2 with
          | true =>
            obtain ⟨f1, f2, f3, f4⟩ := f.t (by decide)
            obtain ⟨w5, s1, s2, s3⟩ := add_s 10010 b2 (by omega)
            refine Or.inr ⟨by omega, _, w5, Or.inl ⟨rfl, i3, c3 ++ [10010], s2, ((h2.tr a3).tr b3).tr s3, bin_1 h3' hsg (by decide) f1, h4.bin f2 (by decide) hsg.sg.1, ?_, by omega⟩, fun k8 => ?_⟩
            · rw [List.length_append]
              show c3.length + 1 + _ ≤ _
              omega
            · rw [body, if_pos rfl, if_neg n10, s1, Option.bind_some, if_neg n10]
              unfold j3_readOr_52
              rw [i3_1]
          | false =>
            refine Or.inr ⟨by omega, _, w4, Or.inr ⟨rfl, i3, c3, b2, (h2.tr a3).tr b3, bin_1F h3' hsg f.f⟩, fun k8 => ?_⟩
            rw [body, ff01, if_pos rfl]
        · refine Or.inl fun k8 => ?_
          have hb : b3_readOr_8 rk k8 (33, nI o, (1 : Int32), nI k) w2 = some (1, w2) := by
            unfold b3_readOr_8
            dsimp only
            rw [if_neg (show ¬ (160 : Int32) ≤ nI k from nI_ge (b := 160) hk160 (by omega)), if_neg n10, ck_pos h1.1.1, go_n h1 hop (by decide), Option.bind_some, if_pos rfl, ck_pos isB1]
          rw [hb]
          refine hA.res (by decide) fun t ht hs => ?_
          have : t = 10010 := by
            unfold sgL at hs
            simp at hs
            exact hs
          rw [this] at ht
          exact hop ht
      · refine Or.inl fun k8 => ?_
        have hb : b3_readOr_8 rk k8 (33, nI o, (0 : Int32), nI k) w2 = some (0, w2) := by
          unfold b3_readOr_8
          dsimp only
          rw [if_pos rfl, ck_pos isB0, ite_self]
        rw [hb]
        exact hF.res
    · cases r with
      | true =>
        obtain ⟨g1, g2, g3, g4⟩ := g.t (by decide)
        exact Or.inl ⟨rfl, i1, c1, e2, e3, (bin_0 (by omega) g1), g2.up (by decide), g3, by omega⟩
      | false => exact Or.inr ⟨rfl, i1, c1, e2, e3, bin_F0 (by decide) g.f⟩
  unfold f3_readOr
  rw [ck_pos h.1.1, e1, Option.bind_some]
  exact goal
theorem readAnd_ok {T : List Int32} {rk : Nat × Nat × Int32 → Wd → Option (Int32 × Wd)} {n : Nat} (hk : RecS T rk n) {o i : Nat} {c : List Int32} {w : Wd} (ho : o ≤ 5) (hf : 6 * (5 - o) + (6 - 1) ≤ n + 1) (h : CS T w i c) (hl : c.length + (T.length - i) ≤ 160) : ResS T w 1 o i c (f3_readAnd rk 33 (nI o) w) := by
  obtain ⟨r, i1, c1, w1, e1, e2, e3, g⟩ := hk 2 o i c w (by decide) ho (by omega) h hl
  have hT : T.length ≤ 160 := h.2.1.2.1
  have goal : ResS T w 1 o i c (loopF (b3_readAnd_8 rk) FU (33, nI o, (if r = true then (1 : Int32) else 0), (0 : Int32)) w1) := by
    refine loopI (R := ResS T w 1 o i c) (I := fun k v w2 => (v = (33, nI o, (1 : Int32), nI k) ∧ ∃ i2 c2, LpA T w 1 o i c k i2 c2 w2) ∨ (v = (33, nI o, (0 : Int32), nI k) ∧ LpF T w 1 o i c w2)) 161 ?_ FU 0 _ w1 (by decide) (by decide) ?_
    · intro k v w2 hk2 hI
      rcases hI with ⟨rfl, i2, c2, hA⟩ | ⟨rfl, hF⟩
      · have hA' := id hA
        obtain ⟨h1, h2, h3, h4, h5, h6⟩ := hA'
        have hi2 := h1.2.2.1.2
        have hk160 : k < 160 := by omega
        by_cases hop : (T.drop i2).head? = some 10011
        · obtain ⟨d1, d2⟩ := drop_cons hop
          obtain ⟨w3, a1, a2, a3⟩ := go_y h1 hop
          have hsg : sgL 1 10011 := by unfold sgL; decide
          have h3' : simO 1 2 o (T.drop i) c (10011 :: T.drop (i2 + 1)) c2 := by rw [← d1]; exact h3
          obtain ⟨r2, i3, c3, w4, b1, b2, b3, f⟩ := hk 2 o (i2 + 1) c2 w3 (by decide) ho (by omega) a2 (by omega)
          have body : ∀ k8, b3_readAnd_8 rk k8 (33, nI o, (1 : Int32), nI k) w2 = (if (if r2 = true then (1 : Int32) else 0) = 0 then k8 (33, nI o, (0 : Int32), nI (k + 1)) w4 else ((f3_addStep 33 10011 w4).bind fun z19 => (if z19.1 = (0 : Int32) then (j3_readAnd_51 rk k8 33 (nI o) (nI k) z19.2) else (j3_readAnd_52 rk k8 33 (nI o) (nI k) (1 : Int32) z19.2)))) := by
            intro k8
            unfold b3_readAnd_8
            dsimp only
            rw [if_neg (show ¬ (160 : Int32) ≤ nI k from nI_ge (b := 160) hk160 (by omega)), if_neg n10, ck_pos h1.1.1, a1, Option.bind_some, if_neg n10]
            dsimp only
            rw [b1, Option.bind_some]
            dsimp only
            unfold j3_readAnd_51 j3_readAnd_52
            rw [i3_1]
          cases r2 with
          | true =>
            obtain ⟨f1, f2, f3, f4⟩ := f.t (by decide)
            obtain ⟨w5, s1, s2, s3⟩ := add_s 10011 b2 (by omega)
            refine Or.inr ⟨by omega, _, w5, Or.inl ⟨rfl, i3, c3 ++ [10011], s2, ((h2.tr a3).tr b3).tr s3, bin_1 h3' hsg (by decide) f1, h4.bin f2 (by decide) hsg.sg.1, ?_, by omega⟩, fun k8 => ?_⟩
            · rw [List.length_append]
              show c3.length + 1 + _ ≤ _
              omega
            · rw [body, if_pos rfl, if_neg n10, s1, Option.bind_some, if_neg n10]
              unfold j3_readAnd_52
              rw [i3_1]
          | false =>
            refine Or.inr ⟨by omega, _, w4, Or.inr ⟨rfl, i3, c3, b2, (h2.tr a3).tr b3, bin_1F h3' hsg f.f⟩, fun k8 => ?_⟩
            rw [body, ff01, if_pos rfl]
        · refine Or.inl fun k8 => ?_
          have hb : b3_readAnd_8 rk k8 (33, nI o, (1 : Int32), nI k) w2 = some (1, w2) := by
            unfold b3_readAnd_8
            dsimp only
            rw [if_neg (show ¬ (160 : Int32) ≤ nI k from nI_ge (b := 160) hk160 (by omega)), if_neg n10, ck_pos h1.1.1, go_n h1 hop (by decide), Option.bind_some, if_pos rfl, ck_pos isB1]
          rw [hb]
          refine hA.res (by decide) fun t ht hs => ?_
          have : t = 10011 := by
            unfold sgL at hs
            simp at hs
            exact hs
          rw [this] at ht
          exact hop ht
      · refine Or.inl fun k8 => ?_
        have hb : b3_readAnd_8 rk k8 (33, nI o, (0 : Int32), nI k) w2 = some (0, w2) := by
          unfold b3_readAnd_8
          dsimp only
          rw [if_pos rfl, ck_pos isB0, ite_self]
        rw [hb]
        exact hF.res
    · cases r with
      | true =>
        obtain ⟨g1, g2, g3, g4⟩ := g.t (by decide)
        exact Or.inl ⟨rfl, i1, c1, e2, e3, (bin_0 (by omega) g1), g2.up (by decide), g3, by omega⟩
      | false => exact Or.inr ⟨rfl, i1, c1, e2, e3, bin_F0 (by decide) g.f⟩
  unfold f3_readAnd
  rw [ck_pos h.1.1, e1, Option.bind_some]
  exact goal
theorem readTerm_ok {T : List Int32} {rk : Nat × Nat × Int32 → Wd → Option (Int32 × Wd)} {n : Nat} (hk : RecS T rk n) {o i : Nat} {c : List Int32} {w : Wd} (ho : o ≤ 5) (hf : 6 * (5 - o) + (6 - 4) ≤ n + 1) (h : CS T w i c) (hl : c.length + (T.length - i) ≤ 160) : ResS T w 4 o i c (f3_readTerm rk 33 (nI o) w) := by
  obtain ⟨r, i1, c1, w1, e1, e2, e3, g⟩ := hk 5 o i c w (by decide) ho (by omega) h hl
  have hT : T.length ≤ 160 := h.2.1.2.1
  have goal : ResS T w 4 o i c (loopF (b3_readTerm_8 rk) FU (33, nI o, (if r = true then (1 : Int32) else 0), (0 : Int32)) w1) := by
    refine loopI (R := ResS T w 4 o i c) (I := fun k v w2 => (v = (33, nI o, (1 : Int32), nI k) ∧ ∃ i2 c2, LpA T w 4 o i c k i2 c2 w2) ∨ (v = (33, nI o, (0 : Int32), nI k) ∧ LpF T w 4 o i c w2)) 161 ?_ FU 0 _ w1 (by decide) (by decide) ?_
    · intro k v w2 hk2 hI
      rcases hI with ⟨rfl, i2, c2, hA⟩ | ⟨rfl, hF⟩
      · have hA' := id hA
        obtain ⟨h1, h2, h3, h4, h5, h6⟩ := hA'
        have hi2 := h1.2.2.1.2
        have hk160 : k < 160 := by omega
        by_cases hop : (T.drop i2).head? = some 10018
        · obtain ⟨d1, d2⟩ := drop_cons hop
          obtain ⟨w3, a1, a2, a3⟩ := go_y h1 hop
          have hsg : sgL 4 10018 := by unfold sgL; decide
          have h3' : simO 4 5 o (T.drop i) c (10018 :: T.drop (i2 + 1)) c2 := by rw [← d1]; exact h3
          obtain ⟨r2, i3, c3, w4, b1, b2, b3, f⟩ := hk 5 o (i2 + 1) c2 w3 (by decide) ho (by omega) a2 (by omega)
          have body : ∀ k8, b3_readTerm_8 rk k8 (33, nI o, (1 : Int32), nI k) w2 = (if (if r2 = true then (1 : Int32) else 0) = 0 then k8 (33, nI o, (0 : Int32), nI (k + 1)) w4 else ((f3_addStep 33 10018 w4).bind fun z19 => (if z19.1 = (0 : Int32) then (j3_readTerm_51 rk k8 33 (nI o) (nI k) z19.2) else (j3_readTerm_52 rk k8 33 (nI o) (nI k) (1 : Int32) z19.2)))) := by
            intro k8
            unfold b3_readTerm_8
            dsimp only
            rw [if_neg (show ¬ (160 : Int32) ≤ nI k from nI_ge (b := 160) hk160 (by omega)), if_neg n10, ck_pos h1.1.1, a1, Option.bind_some, if_neg n10]
            dsimp only
            rw [b1, Option.bind_some]
            dsimp only
            unfold j3_readTerm_51 j3_readTerm_52
            rw [i3_1]
          cases r2 with
          | true =>
            obtain ⟨f1, f2, f3, f4⟩ := f.t1
            obtain ⟨w5, s1, s2, s3⟩ := add_s 10018 b2 (by omega)
            refine Or.inr ⟨by omega, _, w5, Or.inl ⟨rfl, i3, c3 ++ [10018], s2, ((h2.tr a3).tr b3).tr s3, bin_14 h3' f1, h4.bin f2 (by decide) hsg.sg.1, ?_, by omega⟩, fun k8 => ?_⟩
            · rw [List.length_append]
              show c3.length + 1 + _ ≤ _
              omega
            · rw [body, if_pos rfl, if_neg n10, s1, Option.bind_some, if_neg n10]
              unfold j3_readTerm_52
              rw [i3_1]
          | false =>
            refine Or.inr ⟨by omega, _, w4, Or.inr ⟨rfl, i3, c3, b2, (h2.tr a3).tr b3, bin_1F h3' hsg f.f⟩, fun k8 => ?_⟩
            rw [body, ff01, if_pos rfl]
        · refine Or.inl fun k8 => ?_
          have hb : b3_readTerm_8 rk k8 (33, nI o, (1 : Int32), nI k) w2 = some (1, w2) := by
            unfold b3_readTerm_8
            dsimp only
            rw [if_neg (show ¬ (160 : Int32) ≤ nI k from nI_ge (b := 160) hk160 (by omega)), if_neg n10, ck_pos h1.1.1, go_n h1 hop (by decide), Option.bind_some, if_pos rfl, ck_pos isB1]
          rw [hb]
          refine hA.res (by decide) fun t ht hs => ?_
          have : t = 10018 := by
            unfold sgL at hs
            simp at hs
            exact hs
          rw [this] at ht
          exact hop ht
      · refine Or.inl fun k8 => ?_
        have hb : b3_readTerm_8 rk k8 (33, nI o, (0 : Int32), nI k) w2 = some (0, w2) := by
          unfold b3_readTerm_8
          dsimp only
          rw [if_pos rfl, ck_pos isB0, ite_self]
        rw [hb]
        exact hF.res
    · cases r with
      | true =>
        obtain ⟨g1, g2, g3, g4⟩ := g.t1
        exact Or.inl ⟨rfl, i1, c1, e2, e3, (bin_04 g1), g2.up (by decide), g3, by omega⟩
      | false => exact Or.inr ⟨rfl, i1, c1, e2, e3, bin_F0 (by decide) g.f⟩
  unfold f3_readTerm
  rw [ck_pos h.1.1, e1, Option.bind_some]
  exact goal
theorem readSum_ok {T : List Int32} {rk : Nat × Nat × Int32 → Wd → Option (Int32 × Wd)} {n : Nat} (hk : RecS T rk n) {o i : Nat} {c : List Int32} {w : Wd} (ho : o ≤ 5) (hf : 6 * (5 - o) + (6 - 3) ≤ n + 1) (h : CS T w i c) (hl : c.length + (T.length - i) ≤ 160) : ResS T w 3 o i c (f3_readSum rk 33 (nI o) w) := by
  obtain ⟨r, i1, c1, w1, e1, e2, e3, g⟩ := hk 4 o i c w (by decide) ho (by omega) h hl
  have hT : T.length ≤ 160 := h.2.1.2.1
  have goal : ResS T w 3 o i c (loopF (b3_readSum_14 rk) FU (33, nI o, (if r = true then (1 : Int32) else 0), ((T.drop i1).head?).getD 10040, (0 : Int32)) w1) := by
    refine loopI (R := ResS T w 3 o i c) (I := fun k v w2 => (∃ i2 c2, v = (33, nI o, (1 : Int32), ((T.drop i2).head?).getD 10040, nI k) ∧ LpA T w 3 o i c k i2 c2 w2) ∨ ((∃ sg, v = (33, nI o, (0 : Int32), sg, nI k)) ∧ LpF T w 3 o i c w2)) 161 ?_ FU 0 _ w1 (by decide) (by decide) ?_
    · intro k v w2 hk2 hI
      rcases hI with ⟨i2, c2, rfl, hA⟩ | ⟨⟨sg, rfl⟩, hF⟩
      · have hA' := id hA
        obtain ⟨h1, h2, h3, h4, h5, h6⟩ := hA'
        have hi2 := h1.2.2.1.2
        have hk160 : k < 160 := by omega
        by_cases hop : (T.drop i2).head? = some 10016 ∨ (T.drop i2).head? = some 10017
        · obtain ⟨t, ht, htt⟩ : ∃ t, (T.drop i2).head? = some t ∧ (t = 10016 ∨ t = 10017) := by
            rcases hop with z | z
            · exact ⟨_, z, Or.inl rfl⟩
            · exact ⟨_, z, Or.inr rfl⟩
          obtain ⟨d1, d2⟩ := drop_cons ht
          obtain ⟨w3, a1, a2, a3⟩ := go_y h1 ht
          have hsg : sgL 3 t := Or.inr (Or.inr (Or.inl ⟨rfl, htt⟩))
          have h3' : simO 3 4 o (T.drop i) c (t :: T.drop (i2 + 1)) c2 := by rw [← d1]; exact h3
          obtain ⟨r2, i3, c3, w4, b1, b2, b3, f⟩ := hk 4 o (i2 + 1) c2 w3 (by decide) ho (by omega) a2 (by omega)
          have body : ∀ k14, b3_readSum_14 rk k14 (33, nI o, (1 : Int32), ((T.drop i2).head?).getD 10040, nI k) w2 = (if (if r2 = true then (1 : Int32) else 0) = 0 then j3_readSum_68 rk k14 33 (nI o) (nI k) w4 else ((f3_addStep 33 t w4).bind fun z26 => (if z26.1 = (0 : Int32) then (j3_readSum_68 rk k14 33 (nI o) (nI k) z26.2) else (j3_readSum_69 rk k14 33 (nI o) (nI k) (1 : Int32) z26.2)))) := by
            intro k14
            have e40 : j3_readSum_40 rk k14 33 (nI o) t (nI k) w2 = (if (if r2 = true then (1 : Int32) else 0) = 0 then j3_readSum_68 rk k14 33 (nI o) (nI k) w4 else ((f3_addStep 33 t w4).bind fun z26 => (if z26.1 = (0 : Int32) then (j3_readSum_68 rk k14 33 (nI o) (nI k) z26.2) else (j3_readSum_69 rk k14 33 (nI o) (nI k) (1 : Int32) z26.2)))) := by
              unfold j3_readSum_40
              rw [ck_pos h1.1.1, a1, Option.bind_some, if_neg n10]
              dsimp only
              rw [b1, Option.bind_some]
            unfold b3_readSum_14
            dsimp only
            rw [if_neg (show ¬ (160 : Int32) ≤ nI k from nI_ge (b := 160) hk160 (by omega)), if_neg n10, ht, Option.getD_some, e40]
            rcases htt with z | z
            · rw [if_pos z]
            · rw [if_neg (by rw [z]; decide), if_pos z]
          cases r2 with
          | true =>
            obtain ⟨f1, f2, f3, f4⟩ := f.t (by decide)
            obtain ⟨w5, s1, s2, s3⟩ := add_s t b2 (by omega)
            refine Or.inr ⟨by omega, _, w5, Or.inl ⟨i3, c3 ++ [t], rfl, s2, ((h2.tr a3).tr b3).tr s3, bin_1 h3' hsg (by decide) f1, h4.bin f2 (by decide) hsg.sg.1, ?_, by omega⟩, fun k14 => ?_⟩
            · rw [List.length_append]
              show c3.length + 1 + _ ≤ _
              omega
            · rw [body, if_pos rfl, if_neg n10, s1, Option.bind_some, if_neg n10]
              unfold j3_readSum_69
              rw [ck_pos s2.1.1, tok_c s2, Option.bind_some, i3_1]
          | false =>
            refine Or.inr ⟨by omega, (33, nI o, (0 : Int32), ((T.drop i3).head?).getD 10040, nI (k + 1)), w4, Or.inr ⟨⟨_, rfl⟩, i3, c3, b2, (h2.tr a3).tr b3, bin_1F h3' hsg f.f⟩, fun k14 => ?_⟩
            rw [body, ff01, if_pos rfl]
            unfold j3_readSum_68 j3_readSum_69
            rw [ck_pos b2.1.1, tok_c b2, Option.bind_some, i3_1]
        · refine Or.inl fun k14 => ?_
          have hb : b3_readSum_14 rk k14 (33, nI o, (1 : Int32), ((T.drop i2).head?).getD 10040, nI k) w2 = some (1, w2) := by
            unfold b3_readSum_14
            dsimp only
            rw [if_neg (show ¬ (160 : Int32) ≤ nI k from nI_ge (b := 160) hk160 (by omega)), if_neg n10, if_neg (fun z => hop (Or.inl ((tok_some (by decide)).mp z))), if_neg (fun z => hop (Or.inr ((tok_some (by decide)).mp z))), ck_pos isB1]
          rw [hb]
          refine hA.res (by decide) fun t ht hs => ?_
          have : t = 10016 ∨ t = 10017 := by
            unfold sgL at hs
            simp at hs
            exact hs
          rcases this with z | z
          · rw [z] at ht; exact hop (Or.inl ht)
          · rw [z] at ht; exact hop (Or.inr ht)
      · refine Or.inl fun k14 => ?_
        have hb : b3_readSum_14 rk k14 (33, nI o, (0 : Int32), sg, nI k) w2 = some (0, w2) := by
          unfold b3_readSum_14
          dsimp only
          rw [if_pos rfl, ck_pos isB0, ite_self]
        rw [hb]
        exact hF.res
    · cases r with
      | true =>
        obtain ⟨g1, g2, g3, g4⟩ := g.t (by decide)
        exact Or.inl ⟨i1, c1, rfl, e2, e3, (bin_0 (by decide) g1), g2.up (by decide), g3, by omega⟩
      | false => exact Or.inr ⟨⟨_, rfl⟩, i1, c1, e2, e3, bin_F0 (by decide) g.f⟩
  unfold f3_readSum
  rw [ck_pos h.1.1, e1, Option.bind_some]
  dsimp only
  rw [tok_c e2, Option.bind_some]
  exact goal
theorem readNot_ok {T : List Int32} {rk : Nat × Nat × Int32 → Wd → Option (Int32 × Wd)} {n : Nat} (hk : RecS T rk n) {o i : Nat} {c : List Int32} {w : Wd} (ho : o ≤ 5) (hf : 6 * (5 - o) + (6 - 2) ≤ n + 1) (h : CS T w i c) (hl : c.length + (T.length - i) ≤ 160) : ResS T w 2 o i c (f3_readNot rk 33 (nI o) w) := by
  have hi := h.2.2.1.2
  unfold f3_readNot
  rw [ck_pos h.1.1, tok_c h, Option.bind_some]
  dsimp only
  by_cases h12 : (T.drop i).head? = some 10012
  · obtain ⟨d1, d2⟩ := drop_cons h12
    rw [if_pos ((tok_some (by decide)).mpr h12)]
    by_cases h5 : o < 5
    · rw [if_neg (show ¬ (5 : Int32) ≤ nI o from nI_ge (b := 5) h5 (by omega))]
      obtain ⟨w1, a1, a2, a3⟩ := go_y h h12
      obtain ⟨r, i2, c2, w2, b1, b2, b3, g⟩ := hk 2 (o + 1) (i + 1) c w1 (by decide) (by omega) (by omega) a2 (by omega)
      rw [a1, Option.bind_some, if_neg n10]
      dsimp only
      rw [i3_1, b1, Option.bind_some]
      dsimp only
      cases r with
      | true =>
        obtain ⟨f1, f2, f3, f4⟩ := g.t (by decide)
        obtain ⟨w3, s1, s2, s3⟩ := add_s 10012 b2 (by omega)
        rw [if_pos rfl, if_neg n10, s1, Option.bind_some, if_neg n10]
        refine ⟨true, i2, c2 ++ [10012], w3, rfl, s2, (a3.tr b3).tr s3, good_t (by decide) ?_ (f2.un (Or.inl rfl)) ?_ (by omega)⟩
        · rw [d1]
          exact not_not f1 h5
        · rw [List.length_append]
          show c2.length + 1 + _ ≤ _
          omega
      | false =>
        rw [ff01, if_pos rfl]
        refine ⟨false, i2, c2, w2, rfl, b2, a3.tr b3, good_f ?_⟩
        rw [d1]
        exact not_notF g.f h5
    · have e5 : o = 5 := by omega
      subst e5
      rw [if_pos (by decide)]
      refine ⟨false, i, c, w, rfl, h, PR.rf, good_f ?_⟩
      rw [d1]
      exact not_full
  · rw [if_neg (fun z => h12 ((tok_some (by decide)).mp z))]
    obtain ⟨r, i1, c1, w1, e1, e2, e3, g⟩ := hk 3 o i c w (by decide) ho (by omega) h hl
    rw [e1, Option.bind_some]
    dsimp only
    cases r with
    | false =>
      rw [ff01, if_pos rfl]
      exact ⟨false, i1, c1, w1, rfl, e2, e3, good_f (not_sumF g.f h12)⟩
    | true =>
      obtain ⟨g1, g2, g3, g4⟩ := g.t (by decide)
      have hi1 := e2.2.2.1.2
      rw [if_pos rfl, if_neg n10, tok_c e2, Option.bind_some]
      dsimp only
      by_cases hc : (T.drop i1).head? = some 10014 ∨ (T.drop i1).head? = some 10015
      · obtain ⟨t, ht, htt⟩ : ∃ t, (T.drop i1).head? = some t ∧ (t = 10014 ∨ t = 10015) := by
          rcases hc with z | z
          · exact ⟨_, z, Or.inl rfl⟩
          · exact ⟨_, z, Or.inr rfl⟩
        obtain ⟨d1, d2⟩ := drop_cons ht
        obtain ⟨w3, a1, a2, a3⟩ := go_y e2 ht
        have g1' : simO 3 3 o (T.drop i) c (t :: T.drop (i1 + 1)) c1 := by rw [← d1]; exact g1
        obtain ⟨r2, i3, c3, w4, b1, b2, b3, f⟩ := hk 3 o (i1 + 1) c1 w3 (by decide) ho (by omega) a2 (by omega)
        have goal : ResS T w 2 o i c (j3_readNot_82 rk 33 (nI o) t w1) := by
          unfold j3_readNot_82
          rw [ck_pos e2.1.1, a1, Option.bind_some, if_neg n10]
          dsimp only
          rw [b1, Option.bind_some]
          dsimp only
          cases r2 with
          | true =>
            obtain ⟨f1, f2, f3, f4⟩ := f.t (by decide)
            obtain ⟨w5, s1, s2, s3⟩ := add_s t b2 (by omega)
            rw [if_pos rfl, if_neg n10, s1, Option.bind_some, if_neg n10]
            refine ⟨true, i3, c3 ++ [t], w5, rfl, s2, ((e3.tr a3).tr b3).tr s3, good_t (by decide) (not_cmp g1' h12 htt f1) ?_ ?_ (by omega)⟩
            · exact (g2.up (by decide : 2 ≤ 3)).bin f2 (by decide) (by rcases htt with rfl | rfl <;> (unfold isSg; decide))
            · rw [List.length_append]
              show c3.length + 1 + _ ≤ _
              omega
          | false =>
            rw [ff01, if_pos rfl]
            exact ⟨false, i3, c3, w4, rfl, b2, (e3.tr a3).tr b3, good_f (not_cmpF g1' h12 htt f.f)⟩
        rw [ht, Option.getD_some]
        rcases htt with z | z
        · rw [if_pos z]
          exact goal
        · rw [if_neg (by rw [z]; decide), if_pos z]
          exact goal
      · rw [if_neg (fun z => hc (Or.inl ((tok_some (by decide)).mp z))), if_neg (fun z => hc (Or.inr ((tok_some (by decide)).mp z)))]
        exact ⟨true, i1, c1, w1, rfl, e2, e3, good_t (by decide) (not_sum g1 h12 ⟨fun z => hc (Or.inl z), fun z => hc (Or.inr z)⟩) (g2.up (by decide)) g3 g4⟩
theorem readOne_ok {T : List Int32} {rk : Nat × Nat × Int32 → Wd → Option (Int32 × Wd)} {n : Nat} (hk : RecS T rk n) (hT : noEnd T) {o i : Nat} {c : List Int32} {w : Wd} (ho : o ≤ 5) (hf : 6 * (5 - o) + (6 - 5) ≤ n + 1) (h : CS T w i c) (hl : c.length + (T.length - i) ≤ 160) : ResS T w 5 o i c (f3_readOne rk 33 (nI o) w) := by
  have hi := h.2.2.1.2
  unfold f3_readOne
  rw [ck_pos h.1.1, tok_c h, Option.bind_some]
  dsimp only
  by_cases h17 : (T.drop i).head? = some 10017
  · obtain ⟨d1, d2⟩ := drop_cons h17
    rw [if_pos ((tok_some (by decide)).mpr h17)]
    by_cases h5 : o < 5
    · rw [if_neg (show ¬ (5 : Int32) ≤ nI o from nI_ge (b := 5) h5 (by omega))]
      obtain ⟨w1, a1, a2, a3⟩ := go_y h h17
      obtain ⟨r, i2, c2, w2, b1, b2, b3, g⟩ := hk 5 (o + 1) (i + 1) c w1 (by decide) (by omega) (by omega) a2 (by omega)
      rw [a1, Option.bind_some, if_neg n10]
      dsimp only
      rw [i3_1, b1, Option.bind_some]
      dsimp only
      cases r with
      | true =>
        obtain ⟨f1, f2, f3, f4⟩ := g.t1
        obtain ⟨w3, s1, s2, s3⟩ := add_s 10013 b2 (by omega)
        rw [if_pos rfl, if_neg n10, s1, Option.bind_some, if_neg n10]
        refine ⟨true, i2, c2 ++ [10013], w3, rfl, s2, (a3.tr b3).tr s3, good_1 ?_ (f2.un (Or.inr rfl)) ?_ (by omega)⟩
        · rw [d1]
          exact one_neg f1 h5
        · rw [List.length_append]
          show c2.length + 1 + _ ≤ _
          omega
      | false =>
        rw [ff01, if_pos rfl]
        refine ⟨false, i2, c2, w2, rfl, b2, a3.tr b3, good_f ?_⟩
        rw [d1]
        exact one_negF g.f h5
    · have e5 : o = 5 := by omega
      subst e5
      rw [if_pos (by decide)]
      refine ⟨false, i, c, w, rfl, h, PR.rf, good_f ?_⟩
      rw [d1]
      exact one_full (Or.inl rfl)
  rw [if_neg (fun z => h17 ((tok_some (by decide)).mp z))]
  by_cases h20 : (T.drop i).head? = some 10020
  · obtain ⟨d1, d2⟩ := drop_cons h20
    rw [if_pos ((tok_some (by decide)).mpr h20)]
    by_cases h5 : o < 5
    · rw [if_neg (show ¬ (5 : Int32) ≤ nI o from nI_ge (b := 5) h5 (by omega))]
      obtain ⟨w1, a1, a2, a3⟩ := go_y h h20
      obtain ⟨r, i2, c2, w2, b1, b2, b3, g⟩ := hk 0 (o + 1) (i + 1) c w1 (by decide) (by omega) (by omega) a2 (by omega)
      rw [a1, Option.bind_some, if_neg n10]
      dsimp only
      rw [i3_1, b1, Option.bind_some]
      dsimp only
      cases r with
      | true =>
        obtain ⟨f1, f2, f3, f4⟩ := g.t (by decide)
        rw [if_pos rfl, if_neg n10]
        by_cases h21 : (T.drop i2).head? = some 10021
        · obtain ⟨q1, q2⟩ := drop_cons h21
          obtain ⟨w3, s1, s2, s3⟩ := go_y b2 h21
          rw [s1, Option.bind_some, if_neg n10]
          refine ⟨true, i2 + 1, c2, w3, rfl, s2, (a3.tr b3).tr s3, good_1 ?_ (f2.par h5) (by omega) (by omega)⟩
          rw [d1]
          rw [q1] at f1
          exact one_par f1 h5
        · rw [go_n b2 h21 (by decide), Option.bind_some, if_pos rfl]
          refine ⟨false, i2, c2, w2, rfl, b2, a3.tr b3, good_f ?_⟩
          rw [d1]
          exact one_parF1 f1 h5 h21
      | false =>
        rw [ff01, if_pos rfl]
        refine ⟨false, i2, c2, w2, rfl, b2, a3.tr b3, good_f ?_⟩
        rw [d1]
        exact one_parF2 g.f h5
    · have e5 : o = 5 := by omega
      subst e5
      rw [if_pos (by decide)]
      refine ⟨false, i, c, w, rfl, h, PR.rf, good_f ?_⟩
      rw [d1]
      exact one_full (Or.inr rfl)
  rw [if_neg (fun z => h20 ((tok_some (by decide)).mp z))]
  cases hd : (T.drop i).head? with
  | none =>
    rw [Option.getD_none, if_pos (by decide)]
    refine ⟨false, i, c, w, rfl, h, PR.rf, good_f (one_no fun t ht => ?_)⟩
    rw [hd] at ht
    cases ht
  | some t =>
    rw [Option.getD_some]
    obtain ⟨d1, d2⟩ := drop_cons hd
    by_cases hv : t ≤ 10005
    · have hm : t ∈ T := List.mem_of_mem_drop (i := i) (by rw [d1]; exact List.mem_cons_self)
      rw [if_neg (by rw [ilt]; rw [ile] at hv; omega)]
      obtain ⟨w1, a1, a2, a3⟩ := go_y h hd
      obtain ⟨w3, s1, s2, s3⟩ := add_s t a2 (by omega)
      rw [a1, Option.bind_some, if_neg n10]
      dsimp only
      rw [s1, Option.bind_some, if_neg n10]
      refine ⟨true, i + 1, c ++ [t], w3, rfl, s2, a3.tr s3, good_1 ?_ (stD.val hv (hT t hm).2) ?_ (by omega)⟩
      · rw [d1]
        exact one_val hv
      · rw [List.length_append]
        show c.length + 1 + _ ≤ _
        omega
    · rw [if_pos (by rw [ilt]; rw [ile] at hv; omega)]
      refine ⟨false, i, c, w, rfl, h, PR.rf, good_f (one_no fun t' ht => ?_)⟩
      rw [hd] at ht
      have : t = t' := Option.some.inj ht
      subst this
      exact ⟨hv, fun z => h17 (by rw [hd, z]), fun z => h20 (by rw [hd, z])⟩
theorem rec_ok {T : List Int32} (hT : noEnd T) : ∀ n, RecS T (loopF recB n) n
  | 0 => fun m o i c w h1 h2 h3 => by omega
  | n + 1 => by
    have ih := rec_ok hT n
    intro m o i c w h1 h2 h3 h4 h5
    show ResS T w m o i c (recB (loopF recB n) (m, 33, nI o) w)
    rcases (by omega : m = 0 ∨ m = 1 ∨ m = 2 ∨ m = 3 ∨ m = 4 ∨ m = 5) with rfl | rfl | rfl | rfl | rfl | rfl
    · exact readOr_ok ih h2 h3 h4 h5
    · exact readAnd_ok ih h2 h3 h4 h5
    · exact readNot_ok ih h2 h3 h4 h5
    · exact readSum_ok ih h2 h3 h4 h5
    · exact readTerm_ok ih h2 h3 h4 h5
    · exact readOne_ok ih hT h2 h3 h4 h5
