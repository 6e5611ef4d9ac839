/-! feed -/
def tpS (S : SS) (tp : List Int32) : SS := (S.1, S.2.1, tp, S.2.2.2.1, S.2.2.2.2)
def FP (q : Nat) : Prop := q = 33 ∨ q = 34
theorem fp_tx (t j : Nat) (hj : j < 2) : ¬ FP (txL t + j) := by
  unfold FP txL
  split <;> omega
theorem fpM {w w' : Wd} (h : Fr FP w w') : OffM w w' := h.offM fun q a b z => by unfold FP at z; omega
theorem rcTape {S : SS} {w w' : Wd} {tp : List Int32} (h : RC S w) (hF : Fr FP w w') (hw : ∀ q, wr w' q = wr w q) (h1 : wi w' 33 1 = nI tp.length) (h2 : ∀ j b, tp[j]? = some b → wi w' 34 j = b) : RC (tpS S tp) w' := by
  obtain ⟨L, a1, t1, ⟨p1, p2⟩, ⟨i1, i2⟩, c1⟩ := h
  have g : ∀ q, ¬ FP q → ∀ k, wi w' q k = wi w q k := fun q hq => (hF.2.2 q hq).1
  refine ⟨L.same hF.1 hw, a1.frP t1 hF (fun q a b z => by unfold FP at z; omega) fp_tx, t1.frP hF fp_tx (g 32 (by unfold FP; omega) 2) (fun k => by rw [hw]), ⟨h1, h2⟩, ⟨?_, fun c hc => (i2 c hc).frP t1 hF (fun q a b z => by unfold FP at z; omega) fp_tx⟩, fun t ht => ?_⟩
  · rw [g 32 (by unfold FP; omega)]; exact i1
  · rw [g (67 + 2 * t) (by unfold FP; omega), g (67 + 2 * t) (by unfold FP; omega)]
    exact ⟨(c1 t ht).1, (c1 t ht).2.1, fun k x hx => by rw [g (68 + 2 * t) (by unfold FP; omega)]; exact (c1 t ht).2.2 k x hx⟩
theorem rmTape {S : SS} {w w' : Wd} {tp : List Int32} (h : RM S w) (hF : Fr (fun q => q = 75 ∨ q = 80) w w') (hw : ∀ q, wr w' q = wr w q) (hk : ∀ k, k ≠ 6 → wi w' 75 k = wi w 75 k) (h1 : wi w' 75 6 = nI tp.length) (h2 : ∀ j b, tp[j]? = some b → wi w' 80 j = b) : RM (tpS S tp) w' := by
  obtain ⟨⟨⟨l1, l2⟩, a2, a3, a4, a5, a6, a7, a8, a9⟩, ⟨b1, b2⟩, ⟨c1, c2⟩, ⟨d1, d2⟩, e1⟩ := h
  have n : ∀ q, ¬ (q = 75 ∨ q = 80) → ∀ k, wi w' q k = wi w q k := fun q hq => (hF.2.2 q hq).1
  have pm : ∀ {t F B G}, ProgM w t F B G → ProgM w' t F B G := by
    intro t F B G hp
    unfold ProgM at hp ⊢
    simp only [n 82 (by decide), n 81 (by decide)]
    exact hp
  exact ⟨⟨⟨by rw [hF.1]; exact l1, fun x hx => ⟨by rw [hw]; exact (l2 x hx).1, by rw [hF.1]; exact (l2 x hx).2⟩⟩, by rw [hk 0 (by decide)]; exact a2, a3, fun k hk' => by rw [n 79 (by decide)]; exact a4 k hk', fun b hb => by simp only [n 76 (by decide), n 77 (by decide), n 78 (by decide)]; exact a5 b hb, by rw [hk 10 (by decide)]; exact a6, pm a7, a8, a9⟩, ⟨by rw [hk 9 (by decide)]; exact b1, fun t ht => pm (b2 t ht)⟩, ⟨h1, h2⟩, ⟨by rw [hk 11 (by decide)]; exact d1, fun c hc => by simp only [n 83 (by decide), n 84 (by decide)]; exact d2 c hc⟩, fun s hs => by simp only [n 85 (by decide), n 86 (by decide), n 87 (by decide)]; exact e1 s hs⟩
theorem snoc_at {l : List Int32} {x b : Int32} {j : Nat} (h : (l ++ [x])[j]? = some b) : (j = l.length ∧ b = x) ∨ (j < l.length ∧ l[j]? = some b) := by
  rcases Nat.lt_or_ge j l.length with hj | hj
  · rw [List.getElem?_append_left hj] at h
    exact Or.inr ⟨hj, h⟩
  · rw [List.getElem?_append_right hj] at h
    have := (List.getElem?_eq_some_iff.mp h).1
    simp only [List.length_singleton] at this
    have e : j = l.length := by omega
    subst e
    rw [Nat.sub_self] at h
    exact Or.inl ⟨rfl, (Option.some.inj h).symm⟩
theorem RC.tape {S : SS} {w : Wd} (h : RC S w) : wr w 32 0 = 33 ∧ tg w 33 = 3 ∧ wr w 33 0 = 34 ∧ tg w 34 = 20 ∧ ln w 34 = 160 ∧ wi w 33 1 = nI S.2.2.1.length := ⟨h.1.1.2.1, tg_eq h.1.2.1.1, h.1.2.1.2.1, tg_eq h.1.2.1.2.2.2.2.2.1, ln_eq h.1.2.1.2.2.2.2.2.1, h.2.2.2.1.1⟩
theorem room_c {S : SS} {w : Wd} {n : Nat} (h : RC S w) (hl : S.2.2.1.length ≤ 160) (hn : n ≤ 10) : f3_hasRoom 33 (nI n) w = some (if S.2.2.1.length + n ≤ 160 then 1 else 0, w) := by
  obtain ⟨t1, t2, t3, t4, t5, t6⟩ := h.tape
  unfold f3_hasRoom
  rw [ck_pos t2, t3, ck_pos t4, t5, t6, nI_add]
  by_cases hh : S.2.2.1.length + n ≤ 160
  · rw [if_pos hh, if_neg]
    rw [ilt, nI_int (by omega)]
    show ¬ (160 : Int) < _
    omega
  · rw [if_neg hh, if_pos]
    rw [ilt, nI_int (by omega)]
    show (160 : Int) < _
    omega
theorem add_c {S : SS} {w : Wd} {b : Int32} (h : RC S w) (hl : S.2.2.1.length + 1 ≤ 160) : ∃ w', f3_add 33 b w = some ((), w') ∧ RC (tpS S (S.2.2.1 ++ [b])) w' ∧ Fr FP w w' := by
  obtain ⟨t1, t2, t3, t4, t5, t6⟩ := h.tape
  have hF : Fr FP w (sI (sI w 34 S.2.2.1.length b) 33 1 (nI (S.2.2.1.length + 1))) := (Fr.sI (Or.inr rfl)).tr (Fr.sI (Or.inl rfl))
  refine ⟨_, ?_, rcTape h hF (fun _ => rfl) ?_ fun j x hx => ?_, hF⟩
  · unfold f3_add lw
    dsimp only
    have e1 : wi (sI w 34 S.2.2.1.length b) 33 1 = nI S.2.2.1.length := by rw [wi_sI_ne (by decide)]; exact t6
    rw [ck_pos t2, show (1 : Int32) = nI 1 from rfl, room_c h (by omega) (by decide), if_pos hl, Option.bind_some, if_neg (show ¬ (1 : Int32) = 0 by decide)]
    dsimp only
    rw [t3, t5, t6, ck_pos (And.intro t4 (vin (show S.2.2.1.length < 160 by omega) (by decide))), nI_clamp (by omega), e1]
    rw [show (nI 1 : Int32) = 1 from rfl, i3_1]
  · rw [wi_at, List.length_append]; rfl
  · rw [wi_sI_ne (by decide), wi_sI]
    rcases snoc_at hx with ⟨e1, e2⟩ | ⟨e1, e2⟩
    · rw [if_pos ⟨rfl, e1⟩, e2]
    · rw [if_neg (fun z => by omega)]
      exact h.2.2.2.1.2 j x e2
theorem tpS_2 (S : SS) (a b : List Int32) : tpS (tpS S a) b = tpS S b := rfl
def fdB (a b c d e : Int32) (i : Nat) : Int32 := if i = 0 then a else if i = 1 then b else if i = 2 then c else if i = 3 then d else e
def fdL (a b c d e : Int32) (tp : List Int32) : Nat → List Int32
  | 0 => tp
  | i + 1 => fdL a b c d e tp i ++ [fdB a b c d e i]
theorem fdL_len (a b c d e : Int32) (tp : List Int32) : ∀ i, (fdL a b c d e tp i).length = tp.length + i
  | 0 => rfl
  | i + 1 => by
    unfold fdL
    rw [List.length_append, fdL_len a b c d e tp i]
    rfl
theorem fd5 {A : Type} {i : Nat} (a b c d e : Int32) (f : Int32 → A) : (if nI i = 0 then f a else if nI i = 1 then f b else if nI i = 2 then f c else if nI i = 3 then f d else f e) = f (fdB a b c d e i) ∨ 5 ≤ i := by
  by_cases h : i < 5
  · left
    rcases (by omega : i = 0 ∨ i = 1 ∨ i = 2 ∨ i = 3 ∨ i = 4) with rfl | rfl | rfl | rfl | rfl <;> rfl
  · exact Or.inr (by omega)
theorem feed_c {S : SS} {w : Wd} {n : Nat} {a b c d e : Int32} (h : RC S w) (hn : n ≤ 5) (hl : S.2.2.1.length + n ≤ 160) : ∃ w', loopF b5_feed_68 FU (32, nI n, a, b, c, d, e, (0 : Int32)) w = some (nI (S.2.2.1.length + n), w') ∧ RC (tpS S (fdL a b c d e S.2.2.1 n)) w' ∧ OffM w w' := by
  refine loopE (R := fun o => ∃ w', o = some (nI (S.2.2.1.length + n), w') ∧ RC (tpS S (fdL a b c d e S.2.2.1 n)) w' ∧ OffM w w') (I := fun i v w2 => v = (32, nI n, a, b, c, d, e, nI i) ∧ RC (tpS S (fdL a b c d e S.2.2.1 i)) w2 ∧ OffM w w2) n ?_ ?_ FU _ w (by show n < 1000; omega) ⟨rfl, h, OffM.rf⟩
  · intro i v w2 hi hI
    obtain ⟨rfl, i1, i2⟩ := hI
    obtain ⟨t1, t2, t3, t4, t5, t6⟩ := i1.tape
    have hlen : (tpS S (fdL a b c d e S.2.2.1 i)).2.2.1.length = S.2.2.1.length + i := fdL_len _ _ _ _ _ _ _
    obtain ⟨w3, b1, b2, b3⟩ := add_c (b := fdB a b c d e i) i1 (by omega)
    refine ⟨(32, nI n, a, b, c, d, e, nI (i + 1)), w3, ⟨rfl, b2, i2.tr (fpM b3)⟩, fun k => ?_⟩
    have e121 : ∀ x, j5_feed_121 k 32 (nI n) a b c d e (nI i) x 33 w2 = (f3_add 33 x w2).bind fun z => k (32, nI n, a, b, c, d, e, nI (i + 1)) z.2 := by
      intro x
      unfold j5_feed_121
      rw [ck_pos t2, i3_1]
    unfold b5_feed_68
    dsimp only
    rw [if_neg (nI_ge hi (by omega)), ck_pos i1.t, t1, e121, e121, e121, e121, e121]
    rw [(fd5 a b c d e (fun x => (f3_add 33 x w2).bind fun z => k (32, nI n, a, b, c, d, e, nI (i + 1)) z.2)).resolve_right (by omega), b1, Option.bind_some]
  · intro v w2 hI k
    obtain ⟨rfl, i1, i2⟩ := hI
    obtain ⟨t1, t2, t3, t4, t5, t6⟩ := i1.tape
    have hlen : (tpS S (fdL a b c d e S.2.2.1 n)).2.2.1.length = S.2.2.1.length + n := fdL_len _ _ _ _ _ _ _
    refine ⟨w2, ?_, i1, i2⟩
    unfold b5_feed_68
    dsimp only
    rw [if_pos (Int32.le_refl _), ck_pos i1.t, t1, ck_pos t2, t6, hlen]
theorem feed_r {S : SS} {w : Wd} {n : Nat} {a b c d e : Int32} (h : RM S w) (hn : n ≤ 5) (hl : S.2.2.1.length + n ≤ 160) : ∃ w', loopF b6_feed_68 FU (75, nI n, a, b, c, d, e, (0 : Int32)) w = some (nI (S.2.2.1.length + n), w') ∧ RM (tpS S (fdL a b c d e S.2.2.1 n)) w' ∧ OffC w w' := by
  refine loopE (R := fun o => ∃ w', o = some (nI (S.2.2.1.length + n), w') ∧ RM (tpS S (fdL a b c d e S.2.2.1 n)) w' ∧ OffC w w') (I := fun i v w2 => v = (75, nI n, a, b, c, d, e, nI i) ∧ RM (tpS S (fdL a b c d e S.2.2.1 i)) w2 ∧ OffC w w2) n ?_ ?_ FU _ w (by show n < 1000; omega) ⟨rfl, h, OffC.rf⟩
  · intro i v w2 hi hI
    obtain ⟨rfl, i1, i2⟩ := hI
    have aa := i1.1.1
    have t6 : wi w2 75 6 = nI (S.2.2.1.length + i) := by
      rw [i1.2.2.1.1]
      show nI (fdL a b c d e S.2.2.1 i).length = _
      rw [fdL_len]
    have hF : Fr (fun q => q = 75 ∨ q = 80) w2 (sI (sI w2 80 (S.2.2.1.length + i) (fdB a b c d e i)) 75 6 (nI (S.2.2.1.length + i + 1))) := (Fr.sI (Or.inr rfl)).tr (Fr.sI (Or.inl rfl))
    refine ⟨(75, nI n, a, b, c, d, e, nI (i + 1)), _, ⟨rfl, rmTape (S := tpS S (fdL a b c d e S.2.2.1 i)) (tp := fdL a b c d e S.2.2.1 (i + 1)) i1 hF (fun _ => rfl) (fun k hk => ?_) ?_ (fun j x hx => ?_), i2.tr (hF.offC fun q z => by omega)⟩, fun k => ?_⟩
    · rw [wi_sI, if_neg (fun z => hk z.2), wi_sI_ne (by decide)]
    · rw [wi_at, fdL_len]
      rfl
    · rw [wi_sI_ne (by decide), wi_sI]
      unfold fdL at hx
      rcases snoc_at hx with ⟨e1, e2⟩ | ⟨e1, e2⟩
      · rw [fdL_len] at e1
        rw [if_pos ⟨rfl, e1⟩, e2]
      · rw [fdL_len] at e1
        rw [if_neg (fun z => by omega)]
        exact i1.2.2.1.2 j x e2
    · have e125 : ∀ x, j6_feed_125 k 75 (nI n) a b c d e (nI i) x (nI (S.2.2.1.length + i)) 80 w2 = k (75, nI n, a, b, c, d, e, nI (i + 1)) (sI (sI w2 80 (S.2.2.1.length + i) x) 75 6 (nI (S.2.2.1.length + i + 1))) := by
        intro x
        have e1 : wi (sI w2 80 (S.2.2.1.length + i) x) 75 6 = nI (S.2.2.1.length + i) := by rw [wi_sI_ne (by decide)]; exact t6
        have e2 : tg (sI w2 80 (S.2.2.1.length + i) x) 75 = 6 := aa.t
        unfold j6_feed_125 lw
        dsimp only
        rw [aa.l5, ck_pos (And.intro aa.t5 (vin (show S.2.2.1.length + i < 160 by omega) (by decide))), nI_clamp (by omega), ck_pos e2, e1, i3_1, i3_1]
      unfold b6_feed_68
      dsimp only
      rw [if_neg (nI_ge hi (by omega)), ck_pos aa.t, aa.r5, t6, e125, e125, e125, e125, e125]
      exact (fd5 a b c d e (fun x => k (75, nI n, a, b, c, d, e, nI (i + 1)) (sI (sI w2 80 (S.2.2.1.length + i) x) 75 6 (nI (S.2.2.1.length + i + 1))))).resolve_right (by omega)
  · intro v w2 hI k
    obtain ⟨rfl, i1, i2⟩ := hI
    refine ⟨w2, ?_, i1, i2⟩
    have t6 : wi w2 75 6 = nI (S.2.2.1.length + n) := by
      rw [i1.2.2.1.1]
      show nI (fdL a b c d e S.2.2.1 n).length = _
      rw [fdL_len]
    unfold b6_feed_68
    dsimp only
    rw [if_pos (Int32.le_refl _), ck_pos i1.1.1.t, t6]
def isBy (x : Int32) : Prop := 0 ≤ x ∧ x ≤ 255
theorem byte2 (x : Int32) : (isBy x ∧ ∀ w, f5_isByte x w = some (1, w) ∧ f6_isByte x w = some (1, w)) ∨ (¬ isBy x ∧ ∀ w, f5_isByte x w = some (0, w) ∧ f6_isByte x w = some (0, w)) := by
  unfold f5_isByte f6_isByte
  rcases within2 x 0 255 with ⟨h1, h2⟩ | ⟨h1, h2⟩
  · refine Or.inl ⟨h1, fun w => ⟨?_, ?_⟩⟩
    · rw [(h2 w).2, Option.bind_some, ck_pos (show isB (1 : Int32) from Or.inr rfl)]
    · rw [(h2 w).1, Option.bind_some, ck_pos (show isB (1 : Int32) from Or.inr rfl)]
  · refine Or.inr ⟨h1, fun w => ⟨?_, ?_⟩⟩
    · rw [(h2 w).2, Option.bind_some, ck_pos (show isB (0 : Int32) from Or.inl rfl)]
    · rw [(h2 w).1, Option.bind_some, ck_pos (show isB (0 : Int32) from Or.inl rfl)]
theorem fdL_by {a b c d e : Int32} {tp : List Int32} (h : ∀ x ∈ tp, rng x 0 255) (ha : isBy a) (hb : isBy b) (hc : isBy c) (hd : isBy d) (he : isBy e) : ∀ i, ∀ x ∈ fdL a b c d e tp i, rng x 0 255
  | 0 => h
  | i + 1 => by
    have ih := fdL_by h ha hb hc hd he i
    have up : ∀ x, isBy x → rng x 0 255 := fun x hx => by
      unfold isBy at hx
      rw [ile, ile] at hx
      exact hx
    intro x hx
    unfold fdL at hx
    rcases List.mem_append.mp hx with h1 | h1
    · exact ih x h1
    · have : x = fdB a b c d e i := by simpa using h1
      rw [this]
      unfold fdB
      split
      · exact up _ ha
      · split
        · exact up _ hb
        · split
          · exact up _ hc
          · split
            · exact up _ hd
            · exact up _ he
theorem feed_pair (n a b c d e : Int32) : Pair (f5_feed 32 n a b c d e) (f6_feed 75 n a b c d e) := pair_of fun S hS => by
  have hl := hS.2.2.1.1
  have bad : ∀ {P : Prop}, (∀ w, f5_feed 32 n a b c d e w = some (-2, w)) ∧ (∀ w, f6_feed 75 n a b c d e w = some (-2, w)) → ∃ r, CC (f5_feed 32 n a b c d e) S r ∧ CM (f6_feed 75 n a b c d e) S r ∧ SI r.2 := fun {P} q => ⟨(-2, S), fun w h => ⟨w, q.1 w, h, OffM.rf⟩, fun w h => ⟨w, q.2 w, h, OffC.rf⟩, hS⟩
  have t0 : ¬ (1 : Int32) = 0 := by decide
  have n5 : (1 ≤ n ∧ n ≤ 5) ↔ ¬ n < 1 ∧ ¬ 5 < n := by
    rw [ile, ile, ilt, ilt]
    omega
  rcases within2 n 1 5 with ⟨hn, en⟩ | ⟨hn, en⟩
  · have hn' := n5.mp hn
    rcases byte2 a with ⟨ha, ea⟩ | ⟨ha, ea⟩
    · rcases byte2 b with ⟨hb, eb⟩ | ⟨hb, eb⟩
      · rcases byte2 c with ⟨hc, ec⟩ | ⟨hc, ec⟩
        · rcases byte2 d with ⟨hd, ed⟩ | ⟨hd, ed⟩
          · rcases byte2 e with ⟨he, ee⟩ | ⟨he, ee⟩
            · obtain ⟨N, hN, rfl⟩ := upto n (m := 5) rfl (by decide) (pos_le hn)
              have cc : ∀ {w}, RC S w → f5_feed 32 (nI N) a b c d e w = if S.2.2.1.length + N ≤ 160 then loopF b5_feed_68 FU (32, nI N, a, b, c, d, e, (0 : Int32)) w else some (-4, w) := by
                intro w h
                obtain ⟨t1, t2, t3, t4, t5, t6⟩ := h.tape
                unfold f5_feed
                rw [if_neg hn'.1, if_neg hn'.2, (ea w).1, Option.bind_some, if_neg t0]
                dsimp only
                rw [(eb w).1, Option.bind_some, if_neg t0]
                dsimp only
                rw [(ec w).1, Option.bind_some, if_neg t0]
                dsimp only
                rw [(ed w).1, Option.bind_some, if_neg t0]
                dsimp only
                rw [(ee w).1, Option.bind_some, if_neg t0]
                dsimp only
                rw [ck_pos h.t, t1, ck_pos t2, room_c h hl (by omega), Option.bind_some]
                dsimp only
                by_cases hr : S.2.2.1.length + N ≤ 160
                · rw [if_pos hr, if_pos hr, if_neg t0]
                · rw [if_neg hr, if_neg hr, if_pos rfl]
              have rr : ∀ {w}, RM S w → f6_feed 75 (nI N) a b c d e w = if S.2.2.1.length + N ≤ 160 then loopF b6_feed_68 FU (75, nI N, a, b, c, d, e, (0 : Int32)) w else some (-4, w) := by
                intro w h
                unfold f6_feed
                rw [(en w).1, Option.bind_some, if_neg t0]
                dsimp only
                rw [(ea w).2, Option.bind_some, if_neg t0]
                dsimp only
                rw [(eb w).2, Option.bind_some, if_neg t0]
                dsimp only
                rw [(ec w).2, Option.bind_some, if_neg t0]
                dsimp only
                rw [(ed w).2, Option.bind_some, if_neg t0]
                dsimp only
                rw [(ee w).2, Option.bind_some, if_neg t0]
                dsimp only
                rw [ck_pos h.1.1.t, h.2.2.1.1, nI_add]
                by_cases hr : S.2.2.1.length + N ≤ 160
                · rw [if_pos hr, if_pos (by rw [ile, nI_int (by omega), show (160 : Int32).toInt = 160 from rfl]; omega)]
                · rw [if_neg hr, if_neg (by rw [ile, nI_int (by omega), show (160 : Int32).toInt = 160 from rfl]; omega)]
              by_cases hr : S.2.2.1.length + N ≤ 160
              · refine ⟨(nI (S.2.2.1.length + N), tpS S (fdL a b c d e S.2.2.1 N)), fun w h => ?_, fun w h => ?_, ?_⟩
                · rw [cc h, if_pos hr]
                  exact feed_c h hN hr
                · rw [rr h, if_pos hr]
                  exact feed_r h hN hr
                · obtain ⟨a1, a2, a3, a4, a5⟩ := hS
                  exact ⟨a1, a2, ⟨by show (fdL a b c d e S.2.2.1 N).length ≤ 160; rw [fdL_len]; exact hr, fdL_by a3.2 ha hb hc hd he N⟩, a4, a5⟩
              · exact ⟨(-4, S), fun w h => ⟨w, by rw [cc h, if_neg hr], h, OffM.rf⟩, fun w h => ⟨w, by rw [rr h, if_neg hr], h, OffC.rf⟩, hS⟩
            · refine bad (P := True) ⟨fun w => ?_, fun w => ?_⟩
              · unfold f5_feed
                simp only [if_neg hn'.1, if_neg hn'.2, (ea w).1, (eb w).1, (ec w).1, (ed w).1, (ee w).1, Option.bind_some, if_neg t0, if_true]
              · unfold f6_feed
                simp only [(en w).1, (ea w).2, (eb w).2, (ec w).2, (ed w).2, (ee w).2, Option.bind_some, if_neg t0, if_true]
          · refine bad (P := True) ⟨fun w => ?_, fun w => ?_⟩
            · unfold f5_feed
              simp only [if_neg hn'.1, if_neg hn'.2, (ea w).1, (eb w).1, (ec w).1, (ed w).1, Option.bind_some, if_neg t0, if_true]
            · unfold f6_feed
              simp only [(en w).1, (ea w).2, (eb w).2, (ec w).2, (ed w).2, Option.bind_some, if_neg t0, if_true]
        · refine bad (P := True) ⟨fun w => ?_, fun w => ?_⟩
          · unfold f5_feed
            simp only [if_neg hn'.1, if_neg hn'.2, (ea w).1, (eb w).1, (ec w).1, Option.bind_some, if_neg t0, if_true]
          · unfold f6_feed
            simp only [(en w).1, (ea w).2, (eb w).2, (ec w).2, Option.bind_some, if_neg t0, if_true]
      · refine bad (P := True) ⟨fun w => ?_, fun w => ?_⟩
        · unfold f5_feed
          simp only [if_neg hn'.1, if_neg hn'.2, (ea w).1, (eb w).1, Option.bind_some, if_neg t0, if_true]
        · unfold f6_feed
          simp only [(en w).1, (ea w).2, (eb w).2, Option.bind_some, if_neg t0, if_true]
    · refine bad (P := True) ⟨fun w => ?_, fun w => ?_⟩
      · unfold f5_feed
        simp only [if_neg hn'.1, if_neg hn'.2, (ea w).1, Option.bind_some, if_true]
      · unfold f6_feed
        simp only [(en w).1, (ea w).2, Option.bind_some, if_neg t0, if_true]
  · refine bad (P := True) ⟨fun w => ?_, fun w => ?_⟩
    · unfold f5_feed
      by_cases h1 : n < 1
      · rw [if_pos h1]
      · rw [if_neg h1, if_pos]
        exact Classical.not_not.mp fun z => hn (n5.mpr ⟨h1, z⟩)
    · unfold f6_feed
      rw [(en w).1, Option.bind_some, if_pos rfl]
