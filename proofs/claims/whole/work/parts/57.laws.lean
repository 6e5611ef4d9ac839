/-! laws, kinds -/
def lawC (c : CO) (t : Nat) : CO := (c.1, c.2.1, t)
theorem TC.law {S : SS} {c : CO} {w : Wd} {t : Nat} (h : TC S c w) (hS : SI S) (ht : t < S.2.1.length) : TC S (lawC c t) (sR w 50 5 (txL t)) ∧ Fr JC w (sR w 50 5 (txL t)) := by
  have hF : Fr JC w (sR w 50 5 (txL t)) := Fr.sR (Or.inl ⟨by decide, by decide⟩)
  obtain ⟨t1, t2, t3, t4, t5⟩ := h.1.2.2.1.2.2 t ht
  have hne : txL t ≠ 50 := by unfold txL; split <;> omega
  exact ⟨h.upd hF ⟨h.2.1.setT t3 hne (hS.pg ht).1, by rw [wr_sR, if_pos ⟨rfl, rfl⟩]; rfl, ht⟩, hF⟩
def lawX (S : SS) (s b t : Nat) : Int32 := othG S.2.1 b (lawC S.1 t) 0 (rowL S s)
theorem laws_pair (x b : Int32) : Pair (f5_laws 32 x b) (f6_laws 75 x b) := pair_of fun S hS => by
  have hm6 := hS.1.1
  have hT := hS.2.1.2.1
  rcases told_ref hS x b with ⟨s, k, hs, rfl, hl, hk, rfl, hc, hr⟩ | ⟨z, hz, hc, hr⟩
  · refine ⟨(fbX (lawX S s k) S.2.1.length, S), fun w h => ?_, fun w h => ?_, hS⟩
    · unfold f5_laws
      rw [ck_pos h.t, hc w h, Option.bind_some, if_pos rfl]
      refine loopE (R := fun o => ∃ w', o = some (fbX (lawX S s k) S.2.1.length, w') ∧ RC S w' ∧ OffM w w') (I := fun i v w2 => v = (32, nI s, nI k, fbX (lawX S s k) i, nI i) ∧ RC S w2 ∧ OffM w w2) S.2.1.length ?_ ?_ FU _ w (by show S.2.1.length < 1000; omega) ⟨rfl, h, OffM.rf⟩
      · intro i v w2 hi hI
        obtain ⟨rfl, i1, i2⟩ := hI
        obtain ⟨w3, a1, a2, a3⟩ := i1.think
        obtain ⟨t1, t2⟩ := a2.law hS hi
        obtain ⟨w4, b1, b2, b3⟩ := other_c t1 hS hs (b := k) hk
        have u := a2.1.2.2.1.2.2 i hi
        have e41 := a2.1.1.1.2.2.1
        have l41 := a2.1.1.2.2.1.1
        refine ⟨(32, nI s, nI k, fbX (lawX S s k) (i + 1), nI (i + 1)), w4, ⟨rfl, b2, i2.tr (jcM ((a3.tr t2).tr b3))⟩, fun kk => ?_⟩
        have b1' : f5_firstOtherwise 32 (nI s) (nI k) (sR w3 50 5 (txL i)) = some (lawX S s k i, w4) := b1
        unfold b5_laws_19 lw
        dsimp only
        rw [ck_pos i1.t, i1.2.2.1.1, if_neg (nI_ge hi (by omega)), a1, Option.bind_some]
        dsimp only
        rw [e41, ln_eq l41, ck_pos (And.intro (tg_eq l41) (vin (by omega) (by decide))), a2.1.1.1.2.2.2.2.1, ck_pos a2.2.1.tgA, nI_clamp (by omega), u.1, b1', Option.bind_some]
        dsimp only
        unfold j5_laws_65
        rw [i3_1, fbX]
        split <;> rfl
      · intro v w2 hI kk
        obtain ⟨rfl, i1, i2⟩ := hI
        refine ⟨w2, ?_, i1, i2⟩
        unfold b5_laws_19
        dsimp only
        rw [ck_pos i1.t, i1.2.2.1.1, if_pos (Int32.le_refl _)]
    · unfold f6_laws
      rw [ck_pos h.1.1.t, hr w h, Option.bind_some, if_pos rfl]
      dsimp only
      rw [h.1.2.2.2.2.2.1]
      refine loopE (R := fun o => ∃ w', o = some (fbX (lawX S s k) S.2.1.length, w') ∧ RM S w' ∧ OffC w w') (I := fun i v w2 => v = (75, nI s, nI k, nI S.1.2.2, fbX (lawX S s k) i, nI i) ∧ (∃ t, RM (lawC S.1 t, S.2) w2 ∧ t < S.2.1.length) ∧ OffC w w2) S.2.1.length ?_ ?_ FU _ w (by show S.2.1.length < 1000; omega) ⟨rfl, ⟨S.1.2.2, h, hS.1.2.1⟩, OffC.rf⟩
      · intro i v w2 hi hI
        obtain ⟨rfl, ⟨t, i1, ht⟩, i2⟩ := hI
        have i1' : RM (lawC S.1 i, S.2) (sI w2 75 10 (nI i)) := i1.rule (t := i) hi (hS.pg hi)
        have o1 : OffC w2 (sI w2 75 10 (nI i)) := (Fr.sI (P := (· = 75)) rfl).offC fun q z => by subst z; decide
        obtain ⟨w4, b1, b2, b3⟩ := other_r i1' hS.rg (show (rowL S s).length ≤ 40 from rowL_40 hS hs) hs (b := k) hk
        have b1' : f6_unlike 75 (nI s) (nI k) (sI w2 75 10 (nI i)) = some (lawX S s k i, w4) := b1
        refine ⟨(75, nI s, nI k, nI S.1.2.2, fbX (lawX S s k) (i + 1), nI (i + 1)), w4, ⟨rfl, ⟨i, b2, hi⟩, i2.tr (o1.tr (kpC b3))⟩, fun kk => ?_⟩
        unfold b6_laws_25 lw
        dsimp only
        rw [ck_pos i1.1.1.t, i1.2.1.1]
        show (if nI S.2.1.length ≤ nI i then _ else _) = _
        rw [if_neg (nI_ge hi (by omega)), b1', Option.bind_some]
        dsimp only
        unfold j6_laws_60
        rw [i3_1, fbX, Int32.or_zero]
        split <;> rfl
      · intro v w2 hI kk
        obtain ⟨rfl, ⟨t, i1, ht⟩, i2⟩ := hI
        have i1' : RM S (sI w2 75 10 (nI S.1.2.2)) := i1.rule (t := S.1.2.2) hS.1.2.1 (hS.pg hS.1.2.1)
        have o1 : OffC w2 (sI w2 75 10 (nI S.1.2.2)) := (Fr.sI (P := (· = 75)) rfl).offC fun q z => by subst z; decide
        refine ⟨_, ?_, i1', i2.tr o1⟩
        unfold b6_laws_25 lw
        dsimp only
        rw [ck_pos i1.1.1.t, i1.2.1.1]
        exact if_pos (Int32.le_refl _)
  · refine ⟨(z, S), fun w h => ⟨w, ?_, h, OffM.rf⟩, fun w h => ⟨w, ?_, h, OffC.rf⟩, hS⟩
    · unfold f5_laws
      rw [ck_pos h.t, hc w h, Option.bind_some, if_neg hz]
    · unfold f6_laws
      rw [ck_pos h.1.1.t, hr w h, Option.bind_some, if_neg hz]
/-! kinds -/
theorem ModC.setK {w : Wd} {many t b q j : Nat} {x : Int32} {s : HS} {F B G : List Int32} (h : ModC w many t s F B G) (hb : b < many) (hq : (q = 76 ∧ j = 0) ∨ (q = 77 ∧ j = 1)) : ModC (sI w q b x) many t (s.1, upR s.2 b (setr (s.2 b) j x)) F B G := by
  obtain ⟨a1, a2, a3, a4, a5, a6, ⟨p1, p2, p3, p4, p5, p6, p7⟩, a8, a9⟩ := h
  have n1 : ∀ a k', a ≠ q → wi (sI w q b x) a k' = wi w a k' := fun a k' ha => wi_sI_ne ha k'
  refine ⟨a1.fr (P := (· = q)) (Fr.sI rfl) (by omega), by rw [n1 _ _ (by omega)]; exact a2, a3, fun k hk => by rw [n1 _ _ (by omega)]; exact a4 k hk, fun y hy => ?_, by rw [n1 _ _ (by omega)]; exact a6, ⟨p1, ?_⟩, a8, a9⟩
  · obtain ⟨r0, r1, r2, r3, r4⟩ := a5 y hy
    show wi _ 76 y = upR s.2 b (setr (s.2 b) j x) y 0 ∧ wi _ 77 y = upR s.2 b (setr (s.2 b) j x) y 1 ∧ wi _ 78 (3 * y) = upR s.2 b (setr (s.2 b) j x) y 2 ∧ wi _ 78 (3 * y + 1) = upR s.2 b (setr (s.2 b) j x) y 3 ∧ wi _ 78 (3 * y + 2) = upR s.2 b (setr (s.2 b) j x) y 4
    rw [upR_b, upR_b, upR_b, upR_b, upR_b, n1 78 _ (by omega), n1 78 _ (by omega), n1 78 _ (by omega), wi_sI, wi_sI, r0, r1, r2, r3, r4]
    rcases hq with ⟨rfl, rfl⟩ | ⟨rfl, rfl⟩
    · refine ⟨?_, ?_, ?_, ?_, ?_⟩
      · by_cases e : y = b
        · rw [if_pos ⟨rfl, e⟩, if_pos ⟨e, rfl⟩]
        · rw [if_neg (fun z => e z.2), if_neg (fun z => e z.1)]
      · rw [if_neg (fun z => absurd z.1 (by decide)), if_neg (fun z => absurd z.2 (by decide))]
      · rw [if_neg (fun z => absurd z.2 (by decide))]
      · rw [if_neg (fun z => absurd z.2 (by decide))]
      · rw [if_neg (fun z => absurd z.2 (by decide))]
    · refine ⟨?_, ?_, ?_, ?_, ?_⟩
      · rw [if_neg (fun z => absurd z.1 (by decide)), if_neg (fun z => absurd z.2 (by decide))]
      · by_cases e : y = b
        · rw [if_pos ⟨rfl, e⟩, if_pos ⟨e, rfl⟩]
        · rw [if_neg (fun z => e z.2), if_neg (fun z => e z.1)]
      · rw [if_neg (fun z => absurd z.2 (by decide))]
      · rw [if_neg (fun z => absurd z.2 (by decide))]
      · rw [if_neg (fun z => absurd z.2 (by decide))]
  · simp only [n1 82 _ (by omega), n1 81 _ (by omega)]
    exact ⟨p2, p3, p4, p5, p6, p7⟩
theorem RM.sitK {S : SS} {c : CO} {w : Wd} {b q j : Nat} {v : Int32} (h : RM (c, S.2) w) (hb : b < c.2.1) (hq : (q = 76 ∧ j = 0) ∨ (q = 77 ∧ j = 1)) : RM (sitC c b j v, S.2) (sI w q b v) ∧ OffC w (sI w q b v) :=
  ⟨RM.upd (S := (c, S.2)) (c' := sitC c b j v) h (h.1.setK hb hq) (fun q' h1 h2 k => wi_sI_ne (by omega) k) (fun k _ => wi_sI_ne (by omega) k), (Fr.sI (P := (· = q)) rfl).offC fun q' z => by omega⟩
def kmC (c : CO) (b : Nat) (k m : Int32) : CO := sitC (sitC c b 0 k) b 1 m
theorem co_ext {c d : CO} (h1 : c.1.1 = d.1.1) (h2 : ∀ x i, c.1.2 x i = d.1.2 x i) (h3 : c.2 = d.2) : c = d := by
  obtain ⟨⟨a, b⟩, e⟩ := c
  obtain ⟨⟨a', b'⟩, e'⟩ := d
  dsimp only at h1 h2 h3
  have : b = b' := by funext x i; exact h2 x i
  rw [h1, this, h3]
theorem sitC_at (c : CO) (b j : Nat) (v : Int32) (x i : Nat) : (sitC c b j v).1.2 x i = if x = b ∧ i = j then v else c.1.2 x i := upR_b _ _ _ _ _ _
theorem kmC_2 (c : CO) (b : Nat) (k m k' m' : Int32) : sitC (sitC (kmC c b k m) b 0 k') b 1 m' = kmC c b k' m' := by
  refine co_ext rfl (fun x i => ?_) rfl
  unfold kmC
  rw [sitC_at, sitC_at, sitC_at, sitC_at, sitC_at, sitC_at]
  by_cases h1 : x = b ∧ i = 1
  · rw [if_pos h1, if_pos h1]
  · rw [if_neg h1, if_neg h1, if_neg h1]
    by_cases h0 : x = b ∧ i = 0
    · rw [if_pos h0, if_pos h0]
    · rw [if_neg h0, if_neg h0, if_neg h0]
theorem kmC_0 (c : CO) (b : Nat) (k : Int32) : kmC c b k (c.1.2 b 1) = sitC c b 0 k := by
  refine co_ext rfl (fun x i => ?_) rfl
  unfold kmC
  rw [sitC_at, sitC_at]
  by_cases h1 : x = b ∧ i = 1
  · rw [if_pos h1, if_neg (fun z => by omega), h1.1, h1.2]
  · rw [if_neg h1]
theorem kmC_1 (c : CO) (b : Nat) (m : Int32) : kmC c b (c.1.2 b 0) m = sitC c b 1 m := by
  refine co_ext rfl (fun x i => ?_) rfl
  unfold kmC
  rw [sitC_back]
theorem kmC_back (c : CO) (b : Nat) : kmC c b (c.1.2 b 0) (c.1.2 b 1) = c := by rw [kmC_1, sitC_back]
theorem kinds_c {S : SS} {w : Wd} {s k j N : Nat} {y : Int32} (hS : SI S) (h : RC S w) (hs : s < 4) (hk : k < S.1.2.1) (hN : N ≤ 10) (hj : (y = 0 ∧ j = 0) ∨ (¬ y = 0 ∧ j = 1)) : ∃ w', loopF b5_kinds_47 FU (32, nI s, nI k, y, (0 : Int32), nI N, (0 : Int32)) w = some (fbX (sitX S s k j) N, w') ∧ RC S w' ∧ OffM w w' := by
  refine loopE (R := fun o => ∃ w', o = some (fbX (sitX S s k j) N, w') ∧ RC S w' ∧ OffM w w') (I := fun i v w2 => v = (32, nI s, nI k, y, fbX (sitX S s k j) i, nI N, nI i) ∧ RC S w2 ∧ OffM w w2) N ?_ ?_ FU _ w (by show N < 1000; omega) ⟨rfl, h, OffM.rf⟩
  · intro i v w2 hi hI
    obtain ⟨rfl, i1, i2⟩ := hI
    obtain ⟨w3, a1, a2, a3⟩ := i1.think
    obtain ⟨t1, t2⟩ := a2.sit (j := j) (v := nI i) hk
    obtain ⟨w4, b1, b2, b3⟩ := other_c t1 hS hs (b := k) hk
    obtain ⟨e1, e2, e3, e4, e5, e6, e7, e8, e9⟩ := a2.bat hk
    refine ⟨(32, nI s, nI k, y, fbX (sitX S s k j) (i + 1), nI N, nI (i + 1)), w4, ⟨rfl, b2, i2.tr (jcM ((a3.tr t2).tr b3))⟩, fun kk => ?_⟩
    have b1' : f5_firstOtherwise 32 (nI s) (nI k) (sI w3 (50 + 2 + k) j (nI i)) = some (sitX S s k j i, w4) := b1
    have e93 : j5_kinds_93 kk 32 (nI s) (nI k) y (fbX (sitX S s k j) i) (nI N) (nI i) (sI w3 (50 + 2 + k) j (nI i)) = kk (32, nI s, nI k, y, fbX (sitX S s k j) (i + 1), nI N, nI (i + 1)) w4 := by
      unfold j5_kinds_93
      rw [ck_pos t1.1.t, b1', Option.bind_some]
      dsimp only
      unfold j5_kinds_112
      rw [i3_1, fbX]
      split <;> rfl
    unfold b5_kinds_47 lw
    dsimp only
    rw [if_neg (nI_ge hi (by omega)), ck_pos i1.t, a1, Option.bind_some]
    dsimp only
    rw [e8, ck_pos e9, ck_pos e9, e1, e3, ck_pos (And.intro e2 e6), ck_pos (And.intro e2 e6), e7, e4, ck_pos e5, ck_pos e5]
    rcases hj with ⟨hy, rfl⟩ | ⟨hy, rfl⟩
    · rw [if_pos hy, e93]
    · rw [if_neg hy, e93]
  · intro v w2 hI kk
    obtain ⟨rfl, i1, i2⟩ := hI
    refine ⟨w2, ?_, i1, i2⟩
    unfold b5_kinds_47
    dsimp only
    rw [if_pos (Int32.le_refl _)]
theorem kinds_r {S : SS} {w : Wd} {s k j N : Nat} {y : Int32} (hS : SI S) (h : RM S w) (hs : s < 4) (hk : k < S.1.2.1) (hj : (y = 0 ∧ j = 0 ∧ N = 6) ∨ (y = 1 ∧ j = 1 ∧ N = 10)) : ∃ w', loopF b6_kinds_50 FU (75, nI s, nI k, y, S.1.1.2 k 0, S.1.1.2 k 1, (0 : Int32), (0 : Int32)) w = some (fbX (sitX S s k j) N, w') ∧ RM S w' ∧ OffC w w' := by
  have hm6 := hS.1.1
  obtain ⟨cb, c0, c1, c2, vb, v0, v1, v2⟩ := idx6 (b := k) (by omega)
  have hN : N ≤ 10 := by omega
  have e63 : ∀ (kk : Nat × Int32 × Int32 × Int32 × Int32 × Int32 × Int32 × Int32 → Wd → Option (Int32 × Wd)) f i w2, b6_kinds_50 kk (75, nI s, nI k, y, S.1.1.2 k 0, S.1.1.2 k 1, f, nI i) w2 = j6_kinds_63 kk 75 (nI s) (nI k) y (S.1.1.2 k 0) (S.1.1.2 k 1) f (nI i) (nI N) (nI i) w2 := by
    intro kk f i w2
    unfold b6_kinds_50
    rcases hj with ⟨rfl, rfl, rfl⟩ | ⟨rfl, rfl, rfl⟩
    · exact if_pos rfl
    · exact if_neg (show ¬ (1 : Int32) = 0 by decide)
  refine loopE (R := fun o => ∃ w', o = some (fbX (sitX S s k j) N, w') ∧ RM S w' ∧ OffC w w') (I := fun i v w2 => v = (75, nI s, nI k, y, S.1.1.2 k 0, S.1.1.2 k 1, fbX (sitX S s k j) i, nI i) ∧ (∃ p q, RM (kmC S.1 k p q, S.2) w2) ∧ OffC w w2) N ?_ ?_ FU _ w (by show N < 1000; omega) ⟨rfl, ⟨S.1.1.2 k 0, S.1.1.2 k 1, by rw [kmC_back]; exact h⟩, OffC.rf⟩
  · intro i v w2 hi hI
    obtain ⟨rfl, ⟨p, q, i1⟩, i2⟩ := hI
    have a := i1.1.1
    -- the two writes
    have go : ∀ p' q', kmC S.1 k p' q' = sitC S.1 k j (nI i) → Rg S.1.2.1 (kmC S.1 k p' q').1 → ∃ w4, RM (kmC S.1 k p' q', S.2) w4 ∧ OffC w2 w4 ∧ tg (sI w2 76 k p') 75 = 6 ∧ ∀ (kk : Nat × Int32 × Int32 × Int32 × Int32 × Int32 × Int32 × Int32 → Wd → Option (Int32 × Wd)) f, j6_kinds_100 kk 75 (nI s) (nI k) y (S.1.1.2 k 0) (S.1.1.2 k 1) f (nI i) q' (nI k) 77 (sI w2 76 k p') = kk (75, nI s, nI k, y, S.1.1.2 k 0, S.1.1.2 k 1, (if sitX S s k j i = -1 then f ||| bitI i else f), nI (i + 1)) w4 := by
      intro p' q' he hg
      obtain ⟨m1, o1⟩ := RM.sitK (S := S) (v := p') i1 (b := k) hk (Or.inl ⟨rfl, rfl⟩)
      obtain ⟨m2, o2⟩ := RM.sitK (S := S) (v := q') m1 (b := k) hk (Or.inr ⟨rfl, rfl⟩)
      rw [kmC_2] at m2
      obtain ⟨w4, b1, b2, b3⟩ := other_r m2 hg (show (rowL S s).length ≤ 40 from rowL_40 hS hs) hs (b := k) hk
      have b1' : f6_unlike 75 (nI s) (nI k) (sI (sI w2 76 k p') 77 k q') = some (sitX S s k j i, w4) := by
        rw [b1]
        unfold sitX
        rw [← he]
        rfl
      refine ⟨w4, b2, (o1.tr o2).tr (kpC b3), a.t, fun kk f => ?_⟩
      unfold j6_kinds_100 lw
      dsimp only
      rw [m1.1.1.l2, ck_pos (And.intro m1.1.1.t2 vb), cb, ck_pos m2.1.1.t, b1', Option.bind_some]
      dsimp only
      unfold j6_kinds_121
      rw [i3_1, Int32.or_zero]
      show (if sitX S s k j i = -1 then _ else _) = _
      split <;> rfl
    have body : ∀ (kk : Nat × Int32 × Int32 × Int32 × Int32 × Int32 × Int32 × Int32 → Wd → Option (Int32 × Wd)) f, b6_kinds_50 kk (75, nI s, nI k, y, S.1.1.2 k 0, S.1.1.2 k 1, f, nI i) w2 = if y = 0 then (if y = 1 then j6_kinds_100 kk 75 (nI s) (nI k) y (S.1.1.2 k 0) (S.1.1.2 k 1) f (nI i) (nI i) (nI k) 77 (sI w2 76 k (nI i)) else j6_kinds_100 kk 75 (nI s) (nI k) y (S.1.1.2 k 0) (S.1.1.2 k 1) f (nI i) (S.1.1.2 k 1) (nI k) 77 (sI w2 76 k (nI i))) else (if y = 1 then j6_kinds_100 kk 75 (nI s) (nI k) y (S.1.1.2 k 0) (S.1.1.2 k 1) f (nI i) (nI i) (nI k) 77 (sI w2 76 k (S.1.1.2 k 0)) else j6_kinds_100 kk 75 (nI s) (nI k) y (S.1.1.2 k 0) (S.1.1.2 k 1) f (nI i) (S.1.1.2 k 1) (nI k) 77 (sI w2 76 k (S.1.1.2 k 0))) := by
      intro kk f
      rw [e63]
      unfold j6_kinds_63 j6_kinds_82 lw
      have t5 : ∀ z, tg (sI w2 76 k z) 75 = 6 := fun z => a.t
      have r5 : ∀ z, wr (sI w2 76 k z) 75 2 = 77 := fun z => a.r2
      rw [if_neg (nI_ge hi (by omega)), ck_pos a.t, a.r1, a.l1, ck_pos (And.intro a.t1 vb), ck_pos (And.intro a.t1 vb), cb]
      simp only [t5, r5, ck_true]
    rcases hj with ⟨rfl, rfl, rfl⟩ | ⟨rfl, rfl, rfl⟩
    · obtain ⟨w4, b1, b2, _, b3⟩ := go (nI i) (S.1.1.2 k 1) (kmC_0 _ _ _) (by rw [kmC_0]; exact sit_rgj hS.rg (Or.inl ⟨rfl, by unfold rng; rw [nI_int (by omega)]; omega⟩))
      refine ⟨(75, nI s, nI k, 0, S.1.1.2 k 0, S.1.1.2 k 1, fbX (sitX S s k 0) (i + 1), nI (i + 1)), w4, ⟨rfl, ⟨_, _, b1⟩, i2.tr b2⟩, fun kk => ?_⟩
      rw [body, if_pos rfl, if_neg (show ¬ (0 : Int32) = 1 by decide), b3, fbX]
    · obtain ⟨w4, b1, b2, _, b3⟩ := go (S.1.1.2 k 0) (nI i) (kmC_1 _ _ _) (by rw [kmC_1]; exact sit_rgj hS.rg (Or.inr (Or.inl ⟨rfl, by unfold rng; rw [nI_int (by omega)]; omega⟩)))
      refine ⟨(75, nI s, nI k, 1, S.1.1.2 k 0, S.1.1.2 k 1, fbX (sitX S s k 1) (i + 1), nI (i + 1)), w4, ⟨rfl, ⟨_, _, b1⟩, i2.tr b2⟩, fun kk => ?_⟩
      rw [body, if_neg (show ¬ (1 : Int32) = 0 by decide), if_pos rfl, b3, fbX]
  · intro v w2 hI kk
    obtain ⟨rfl, ⟨p, q, i1⟩, i2⟩ := hI
    have a := i1.1.1
    obtain ⟨m1, o1⟩ := RM.sitK (S := S) (v := S.1.1.2 k 0) i1 (b := k) hk (Or.inl ⟨rfl, rfl⟩)
    obtain ⟨m2, o2⟩ := RM.sitK (S := S) (v := S.1.1.2 k 1) m1 (b := k) hk (Or.inr ⟨rfl, rfl⟩)
    rw [kmC_2, kmC_back] at m2
    refine ⟨_, ?_, m2, i2.tr (o1.tr o2)⟩
    have m1' := m1.1.1
    rw [e63]
    unfold j6_kinds_63 lw
    dsimp only
    rw [if_pos (Int32.le_refl _), ck_pos a.t, a.r1, a.l1, ck_pos (And.intro a.t1 vb), cb, m1'.r2, m1'.l2, ck_pos (And.intro m1'.t2 vb)]
theorem kinds_pair (x b y : Int32) : Pair (f5_kinds 32 x b y) (f6_kinds 75 x b y) := pair_of fun S hS => by
  have hm6 := hS.1.1
  rcases told_ref hS x b with ⟨s, k, hs, rfl, hl, hk, rfl, hc, hr⟩ | ⟨z, hz, hc, hr⟩
  · rcases within2 y 0 1 with ⟨hy, ey⟩ | ⟨hy, ey⟩
    · obtain ⟨yk, hyk, rfl⟩ := two_k y hy
      obtain ⟨cb, c0, c1, c2, vb, v0, v1, v2⟩ := idx6 (b := k) (by omega)
      obtain ⟨j, N, hj⟩ : ∃ j N, (nI yk = 0 ∧ j = 0 ∧ N = 6) ∨ (nI yk = 1 ∧ j = 1 ∧ N = 10) := by
        rcases (by omega : yk = 0 ∨ yk = 1) with rfl | rfl
        · exact ⟨0, 6, Or.inl ⟨rfl, rfl, rfl⟩⟩
        · exact ⟨1, 10, Or.inr ⟨rfl, rfl, rfl⟩⟩
      refine ⟨(fbX (sitX S s k j) N, S), fun w h => ?_, fun w h => ?_, hS⟩
      · unfold f5_kinds
        rw [ck_pos h.t, hc w h, Option.bind_some, if_pos rfl]
        dsimp only
        rw [(ey w).2, Option.bind_some, if_neg (show ¬ (1 : Int32) = 0 by decide)]
        dsimp only
        unfold j5_kinds_42
        rcases hj with ⟨hy, rfl, rfl⟩ | ⟨hy, rfl, rfl⟩
        · rw [if_pos hy]
          exact kinds_c (N := 6) hS h hs hk (by decide) (Or.inl ⟨hy, rfl⟩)
        · have hy0 : ¬ nI yk = 0 := by rw [hy]; decide
          rw [if_neg hy0]
          exact kinds_c (N := 10) hS h hs hk (by decide) (Or.inr ⟨hy0, rfl⟩)
      · have a := h.1.1
        unfold f6_kinds
        rw [ck_pos h.1.1.t, hr w h, Option.bind_some, if_pos rfl]
        dsimp only
        rw [(ey w).1, Option.bind_some, if_neg (show ¬ (1 : Int32) = 0 by decide)]
        dsimp only
        rw [a.r1, a.l1, ck_pos (And.intro a.t1 vb), a.r2, a.l2, ck_pos (And.intro a.t2 vb), cb, (h.1.2.2.2.2.1 k hk).1, (h.1.2.2.2.2.1 k hk).2.1]
        exact kinds_r hS h hs hk hj
    · refine ⟨(-7, S), fun w h => ⟨w, ?_, h, OffM.rf⟩, fun w h => ⟨w, ?_, h, OffC.rf⟩, hS⟩
      · unfold f5_kinds
        rw [ck_pos h.t, hc w h, Option.bind_some, if_pos rfl]
        dsimp only
        rw [(ey w).2, Option.bind_some, if_pos rfl]
      · unfold f6_kinds
        rw [ck_pos h.1.1.t, hr w h, Option.bind_some, if_pos rfl]
        dsimp only
        rw [(ey w).1, Option.bind_some, if_pos rfl]
  · refine ⟨(z, S), fun w h => ⟨w, ?_, h, OffM.rf⟩, fun w h => ⟨w, ?_, h, OffC.rf⟩, hS⟩
    · unfold f5_kinds
      rw [ck_pos h.t, hc w h, Option.bind_some, if_neg hz]
    · unfold f6_kinds
      rw [ck_pos h.1.1.t, hr w h, Option.bind_some, if_neg hz]
