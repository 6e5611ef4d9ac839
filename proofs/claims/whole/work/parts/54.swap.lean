/-! swap -/
def chC (c : CO) (a b : Nat) : CO := sitC (sitC c a 2 (c.1.2 b 2)) b 2 (c.1.2 a 2)
def swJ (S : SS) (n a b : Nat) : Int32 := joyM (goC S.2.1 (chC S.1 a b) n)
def swI (S : SS) (n a : Nat) (p : Int32 × Int32) : Nat → Int32 × Int32
  | 0 => p
  | k + 1 => if S.1.1.2 a 2 = 3 then swI S n a p k else if S.1.1.2 (a + 1 + k) 2 = 3 then swI S n a p k else if swJ S n a (a + 1 + k) ≤ (swI S n a p k).1 then swI S n a p k else (swJ S n a (a + 1 + k), 10 * nI a + nI (a + 1 + k))
def swO (S : SS) (n : Nat) : Nat → Int32 × Int32
  | 0 => (joyM (goC S.2.1 S.1 n), -1)
  | a + 1 => swI S n a (swO S n a) (S.1.2.1 - (a + 1))
theorem ch_rg {c : CO} {a b : Nat} (h : Rg c.2.1 c.1) (ha : a < c.2.1) (hb : b < c.2.1) : Rg (chC c a b).2.1 (chC c a b).1 :=
  sit_rg (c := sitC c a 2 (c.1.2 b 2)) (sit_rg h (h.2.2 b hb).2.2.1) (h.2.2 a ha).2.2.1
theorem ch_kind (c : CO) (a b x i : Nat) (h : i ≠ 2) : (chC c a b).1.2 x i = c.1.2 x i := by
  show upR (sitC c a 2 (c.1.2 b 2)).1.2 b (setr ((sitC c a 2 (c.1.2 b 2)).1.2 b) 2 (c.1.2 a 2)) x i = _
  rw [upR_b, if_neg (fun z => h z.2)]
  show upR c.1.2 a (setr (c.1.2 a) 2 (c.1.2 b 2)) x i = _
  rw [upR_b, if_neg (fun z => h z.2)]
theorem swJ_nat {S : SS} {n a b : Nat} (hS : SI S) (ha : a < S.1.2.1) (hb : b < S.1.2.1) : ∃ j, j < 6000 ∧ swJ S n a b = nI j :=
  joyM_nat (c := goC S.2.1 (chC S.1 a b) n) (by rw [goC_2]; exact hS.1.1) (goC_rg (ch_rg hS.rg ha hb) n)
theorem swI_ge {S : SS} {n a : Nat} {p : Int32 × Int32} (hS : SI S) (hp : (-1 : Int32) ≤ p.1) (ha : a < S.1.2.1) : ∀ k, a + 1 + k ≤ S.1.2.1 → (-1 : Int32) ≤ (swI S n a p k).1
  | 0, _ => hp
  | k + 1, hk => by
    have ih := swI_ge (n := n) hS hp ha k (by omega)
    unfold swI
    split
    · exact ih
    · split
      · exact ih
      · split
        · exact ih
        · obtain ⟨j, h1, h2⟩ := swJ_nat (n := n) (b := a + 1 + k) hS ha (by omega)
          show (-1 : Int32) ≤ swJ S n a (a + 1 + k)
          rw [h2, ile, nI_int (by omega), show (-1 : Int32).toInt = -1 from rfl]
          omega
theorem swO_ge {S : SS} {n : Nat} (hS : SI S) : ∀ a, a ≤ S.1.2.1 → (-1 : Int32) ≤ (swO S n a).1
  | 0, _ => by
    obtain ⟨j, h1, h2⟩ := joyM_nat (c := goC S.2.1 S.1 n) (by rw [goC_2]; exact hS.1.1) (goC_rg hS.rg n)
    show (-1 : Int32) ≤ joyM (goC S.2.1 S.1 n)
    rw [h2, ile, nI_int (by omega), show (-1 : Int32).toInt = -1 from rfl]
    omega
  | a + 1, ha => swI_ge hS (swO_ge hS a (by omega)) (by omega) _ (by omega)
theorem TC.change {S : SS} {w : Wd} {a b : Nat} (h : TC S S.1 w) (ha : a < S.1.2.1) (hb : b < S.1.2.1) (hab : a ≠ b) : ∃ w', f5_changeBenches 32 (nI a) (nI b) w = some ((if S.1.1.2 a 2 = 3 then 0 else if S.1.1.2 b 2 = 3 then 0 else 1), w') ∧ (if S.1.1.2 a 2 = 3 then w' = w else if S.1.1.2 b 2 = 3 then w' = w else TC S (chC S.1 a b) w' ∧ Fr JC w w') := by
  obtain ⟨e1, e2, e3, e4, e5, e6, e7, e8, e9⟩ := h.bat ha
  obtain ⟨g1, g2, g3, g4, g5, g6, g7, g8, g9⟩ := h.bat hb
  have body : f5_changeBenches 32 (nI a) (nI b) w = if S.1.1.2 a 2 = 3 then some (0, w) else if S.1.1.2 b 2 = 3 then some (0, w) else some (1, sI (sI w (50 + 2 + a) 2 (S.1.1.2 b 2)) (50 + 2 + b) 2 (S.1.1.2 a 2)) := by
    unfold f5_changeBenches lw
    rw [ck_pos h.1.t, e8, ck_pos e9, e1, e3, ck_pos (And.intro e2 e6), ck_pos g6, e7, e4, ck_pos e5, g7, g4, ck_pos g5, h.2.1.row ha (by decide : 2 < 5), h.2.1.row hb (by decide : 2 < 5)]
  rw [body]
  by_cases h1 : S.1.1.2 a 2 = 3
  · exact ⟨w, by rw [if_pos h1, if_pos h1], by rw [if_pos h1]⟩
  by_cases h2 : S.1.1.2 b 2 = 3
  · exact ⟨w, by rw [if_neg h1, if_pos h2, if_neg h1, if_pos h2], by rw [if_neg h1, if_pos h2]⟩
  obtain ⟨s1, s2⟩ := h.sit (b := a) (j := 2) (v := S.1.1.2 b 2) ha
  obtain ⟨t1, t2⟩ := s1.sit (b := b) (j := 2) (v := S.1.1.2 a 2) hb
  refine ⟨_, by rw [if_neg h1, if_neg h2, if_neg h1, if_neg h2], ?_⟩
  rw [if_neg h1, if_neg h2]
  exact ⟨t1, s2.tr t2⟩
abbrev K6s : Type := Nat × Int32 × Int32 × Int32 × Int32 × Int32 → Wd → Option (Int32 × Wd)
theorem swap_in_c {S : SS} {w : Wd} {n a : Nat} {x : Int32} {p : Int32 × Int32} (h : RC S w) (hS : SI S) (hn : n ≤ 40) (ha : a < S.1.2.1) (hp : (-1 : Int32) ≤ p.1) : ∃ w', RC S w' ∧ OffM w w' ∧ ∀ k38 : K6s, loopF (b5_swap_56 k38) FU (32, nI n, x, p.1, p.2, nI a, nI (a + 1)) w = k38 (32, nI n, x, (swI S n a p (S.1.2.1 - (a + 1))).1, (swI S n a p (S.1.2.1 - (a + 1))).2, nI (a + 1)) w' := by
  have hm6 := hS.1.1
  obtain ⟨v, w2, ⟨rfl, i1, i2⟩, hk⟩ := loopS (B := b5_swap_56) (I := fun m v w2 => v = (32, nI n, x, (swI S n a p m).1, (swI S n a p m).2, nI a, nI (a + 1 + m)) ∧ RC S w2 ∧ OffM w w2) (S.1.2.1 - (a + 1)) (by
    intro m v w2 hm hI
    obtain ⟨rfl, i1, i2⟩ := hI
    obtain ⟨w3, a1, a2, a3⟩ := i1.think
    obtain ⟨w4, b1, b2⟩ := a2.change (a := a) (b := a + 1 + m) ha (by omega) (by omega)
    have e92 : ∀ (k38 : K6s) kk w5, j5_swap_92 k38 kk 32 (nI n) x (swI S n a p m).1 (swI S n a p m).2 (nI a) (nI (a + 1 + m)) (-1) w5 = kk (32, nI n, x, (swI S n a p m).1, (swI S n a p m).2, nI a, nI (a + 1 + (m + 1))) w5 := by
      intro k38 kk w5
      unfold j5_swap_92 j5_swap_113
      rw [if_pos (swI_ge hS hp ha m (by omega)), i3_1]
      rfl
    have pre : ∀ (k38 : K6s) kk, b5_swap_56 k38 kk (32, nI n, x, (swI S n a p m).1, (swI S n a p m).2, nI a, nI (a + 1 + m)) w2 = (if (if S.1.1.2 a 2 = 3 then (0 : Int32) else if S.1.1.2 (a + 1 + m) 2 = 3 then 0 else 1) = 0 then kk (32, nI n, x, (swI S n a p m).1, (swI S n a p m).2, nI a, nI (a + 1 + (m + 1))) w4 else ((f5_joyBehind 32 (nI n) w4).bind fun z31 => (j5_swap_92 k38 kk 32 (nI n) x (swI S n a p m).1 (swI S n a p m).2 (nI a) (nI (a + 1 + m)) z31.1 z31.2))) := by
      intro k38 kk
      unfold b5_swap_56
      dsimp only
      rw [ck_pos i1.t, i1.r3, ck_pos i1.t42, i1.hc.2.2.2.2.2.1, if_neg (nI_ge (by omega) (by omega)), a1, Option.bind_some]
      dsimp only
      rw [b1, Option.bind_some]
      dsimp only
      rw [e92]
    by_cases h1 : S.1.1.2 a 2 = 3
    · rw [if_pos h1] at b2
      refine ⟨(32, nI n, x, (swI S n a p (m + 1)).1, (swI S n a p (m + 1)).2, nI a, nI (a + 1 + (m + 1))), w4, ⟨rfl, by rw [b2]; exact a2.1, by rw [b2]; exact i2.tr (jcM a3)⟩, fun k38 kk => ?_⟩
      rw [pre, if_pos h1, if_pos rfl, swI, if_pos h1]
    by_cases h2 : S.1.1.2 (a + 1 + m) 2 = 3
    · rw [if_neg h1, if_pos h2] at b2
      refine ⟨(32, nI n, x, (swI S n a p (m + 1)).1, (swI S n a p (m + 1)).2, nI a, nI (a + 1 + (m + 1))), w4, ⟨rfl, by rw [b2]; exact a2.1, by rw [b2]; exact i2.tr (jcM a3)⟩, fun k38 kk => ?_⟩
      rw [pre, if_neg h1, if_pos h2, if_pos rfl, swI, if_neg h1, if_pos h2]
    rw [if_neg h1, if_neg h2] at b2
    obtain ⟨w5, c1, c2, c3⟩ := b2.1.behind (n := n) (by omega)
    refine ⟨(32, nI n, x, (swI S n a p (m + 1)).1, (swI S n a p (m + 1)).2, nI a, nI (a + 1 + (m + 1))), w5, ⟨rfl, c2.1, i2.tr (jcM ((a3.tr b2.2).tr c3))⟩, fun k38 kk => ?_⟩
    rw [pre, if_neg h1, if_neg h2, if_neg (show ¬ (1 : Int32) = 0 by decide), c1, Option.bind_some, swI, if_neg h1, if_neg h2]
    dsimp only
    unfold j5_swap_92 j5_swap_113
    rw [i3_1]
    show (if swJ S n a (a + 1 + m) ≤ _ then _ else kk (32, nI n, x, swJ S n a (a + 1 + m), _, _, _) w5) = _
    split <;> rfl) FU 0 (32, nI n, x, p.1, p.2, nI a, nI (a + 1)) w (by show S.1.2.1 - (a + 1) < 1000 + 0; omega) (Nat.zero_le _) ⟨rfl, h, OffM.rf⟩
  refine ⟨w2, i1, i2, fun k38 => ?_⟩
  obtain ⟨k, hk'⟩ := hk k38
  rw [hk']
  unfold b5_swap_56
  dsimp only
  rw [ck_pos i1.t, i1.r3, ck_pos i1.t42, i1.hc.2.2.2.2.2.1, show a + 1 + (S.1.2.1 - (a + 1)) = S.1.2.1 by omega, if_pos (Int32.le_refl _), i3_1]
theorem swap_in_r {S : SS} {w : Wd} {n a : Nat} {x : Int32} {p : Int32 × Int32} (h : RM S w) (hS : SI S) (hn : n ≤ 40) (ha : a < S.1.2.1) : ∃ w', RM S w' ∧ OffC w w' ∧ ∀ k42 : K6s, loopF (b6_swap_57 k42) FU (75, nI n, x, p.2, p.1, nI a, nI (a + 1)) w = k42 (75, nI n, x, (swI S n a p (S.1.2.1 - (a + 1))).2, (swI S n a p (S.1.2.1 - (a + 1))).1, nI (a + 1)) w' := by
  have hm6 := hS.1.1
  have hr := hS.rg
  obtain ⟨v, w2, ⟨rfl, i1, i2⟩, hk⟩ := loopS (B := b6_swap_57) (I := fun m v w2 => v = (75, nI n, x, (swI S n a p m).2, (swI S n a p m).1, nI a, nI (a + 1 + m)) ∧ RM S w2 ∧ OffC w w2) (S.1.2.1 - (a + 1)) (by
    intro m v w2 hm hI
    obtain ⟨rfl, i1, i2⟩ := hI
    have hb : a + 1 + m < S.1.2.1 := by omega
    have aa := i1.1.1
    have e175 : ∀ (k42 : K6s) kk bb mm w5, j6_swap_175 k42 kk 75 (nI n) x bb mm (nI a) (nI (a + 1 + m)) w5 = kk (75, nI n, x, bb, mm, nI a, nI (a + 1 + (m + 1))) w5 := by
      intro k42 kk bb mm w5
      unfold j6_swap_175
      rw [i3_1]
      rfl
    by_cases h1 : S.1.1.2 a 2 = 3
    · refine ⟨(75, nI n, x, (swI S n a p (m + 1)).2, (swI S n a p (m + 1)).1, nI a, nI (a + 1 + (m + 1))), w2, ⟨rfl, i1, i2⟩, fun k42 kk => ?_⟩
      unfold b6_swap_57
      dsimp only
      rw [ck_pos aa.t, i1.1.2.1, if_neg (nI_ge (by omega) (by omega)), isIn_ref i1.1 hr ha, Option.bind_some, if_pos h1, if_pos rfl, e175, swI, if_pos h1]
    by_cases h2 : S.1.1.2 (a + 1 + m) 2 = 3
    · refine ⟨(75, nI n, x, (swI S n a p (m + 1)).2, (swI S n a p (m + 1)).1, nI a, nI (a + 1 + (m + 1))), w2, ⟨rfl, i1, i2⟩, fun k42 kk => ?_⟩
      unfold b6_swap_57
      dsimp only
      rw [ck_pos aa.t, i1.1.2.1, if_neg (nI_ge (by omega) (by omega)), isIn_ref i1.1 hr ha, Option.bind_some, if_neg h1, if_neg (show ¬ (1 : Int32) = 0 by decide)]
      dsimp only
      rw [isIn_ref i1.1 hr hb, Option.bind_some, if_pos h2, if_pos rfl, e175, swI, if_neg h1, if_pos h2]
    obtain ⟨w3, a1, a2, a3, a4⟩ := i1.keeps
    obtain ⟨s1, s2⟩ := RM.sit (S := S) (c := S.1) (b := a) (v := S.1.1.2 (a + 1 + m) 2) a2 ha
    obtain ⟨t1, t2⟩ := RM.sit (S := S) (b := a + 1 + m) (v := S.1.1.2 a 2) s1 hb
    have t1' : RM (chC S.1 a (a + 1 + m), S.2) (sI (sI w3 78 (3 * a) (S.1.1.2 (a + 1 + m) 2)) 78 (3 * (a + 1 + m)) (S.1.1.2 a 2)) := t1
    obtain ⟨w4, b1, b2, b3⟩ := RM.jb (S := S) t1' (ch_rg hr ha hb) (n := n) (by omega)
    obtain ⟨w5, c1, c2, c3⟩ := b2.lays (S := S) (((a3.tp s2).tp t2).tp b3) (go_2 _ _ _ rfl n) fun y => ⟨(goC_kind _ _ _ y).1.trans (ch_kind _ _ _ _ _ (by decide)), (goC_kind _ _ _ y).2.trans (ch_kind _ _ _ _ _ (by decide))⟩
    refine ⟨(75, nI n, x, (swI S n a p (m + 1)).2, (swI S n a p (m + 1)).1, nI a, nI (a + 1 + (m + 1))), w5, ⟨rfl, c2, i2.tr (kpC ((a4.tr (((s2.tr t2).tr b3).mono fun _ => Or.inl)).tr c3))⟩, fun k42 kk => ?_⟩
    obtain ⟨cb, c0, g1, g2, vb, v0, v1, v2⟩ := idx6 (b := a) (by omega)
    obtain ⟨cb', c0', g1', g2', vb', v0', v1', v2'⟩ := idx6 (b := a + 1 + m) (by omega)
    have a3' := a2.1.1
    have s1' := s1.1.1
    unfold b6_swap_57 lw
    dsimp only
    rw [ck_pos aa.t, i1.1.2.1, if_neg (nI_ge (by omega) (by omega)), isIn_ref i1.1 hr ha, Option.bind_some, if_neg h1, if_neg (show ¬ (1 : Int32) = 0 by decide)]
    dsimp only
    rw [isIn_ref i1.1 hr hb, Option.bind_some, if_neg h2, if_neg (show ¬ (1 : Int32) = 0 by decide)]
    dsimp only
    rw [a1, Option.bind_some]
    dsimp only
    rw [a3'.r3, a3'.l3, i3, i3, ck_pos (And.intro a3'.t3 v0), ck_pos v0', ck_pos v0, c0, c0', (a2.1.2.2.2.2.1 a ha).2.2.1, (a2.1.2.2.2.2.1 _ hb).2.2.1]
    rw [s1'.r3, s1'.l3, ck_pos (And.intro s1'.t3 v0'), b1, Option.bind_some]
    dsimp only
    rw [c1, Option.bind_some, swI, if_neg h1, if_neg h2]
    dsimp only
    unfold j6_swap_158 j6_swap_173
    simp only [e175]
    show (if swJ S n a (a + 1 + m) ≤ _ then (if swJ S n a (a + 1 + m) ≤ _ then _ else _) else (if swJ S n a (a + 1 + m) ≤ _ then _ else kk (75, nI n, x, _, swJ S n a (a + 1 + m), _, _) w5)) = _
    split <;> rfl) FU 0 (75, nI n, x, p.2, p.1, nI a, nI (a + 1)) w (by show S.1.2.1 - (a + 1) < 1000 + 0; omega) (Nat.zero_le _) ⟨rfl, h, OffC.rf⟩
  refine ⟨w2, i1, i2, fun k42 => ?_⟩
  obtain ⟨k, hk'⟩ := hk k42
  rw [hk']
  unfold b6_swap_57
  dsimp only
  rw [ck_pos i1.1.1.t, i1.1.2.1, show a + 1 + (S.1.2.1 - (a + 1)) = S.1.2.1 by omega, if_pos (Int32.le_refl _), i3_1]
theorem swap_pair (n x : Int32) : Pair (f5_swap 32 n x) (f6_swap 75 n x) := pair_of fun S hS => by
  have hm6 := hS.1.1
  rcases within2 n 0 40 with ⟨hn, en⟩ | ⟨hn, en⟩
  · obtain ⟨m, hm, rfl⟩ := upto40 n hn
    rcases within2 x 0 1 with ⟨hx, ex⟩ | ⟨hx, ex⟩
    · refine ⟨(bstA (swO S m S.1.2.1) x, S), fun w h => ?_, fun w h => ?_, hS⟩
      · obtain ⟨w1, a1, a2, a3⟩ := h.think
        obtain ⟨w2, b1, b2, b3⟩ := a2.behind (n := m) (by omega)
        have key : ∃ w', loopF b5_swap_38 FU (32, nI m, x, joyM (goC S.2.1 S.1 m), (-1 : Int32), (0 : Int32)) w2 = some (bstA (swO S m S.1.2.1) x, w') ∧ RC S w' ∧ OffM w w' := by
          refine loopE (R := fun o => ∃ w', o = some (bstA (swO S m S.1.2.1) x, w') ∧ RC S w' ∧ OffM w w') (I := fun i v w3 => v = (32, nI m, x, (swO S m i).1, (swO S m i).2, nI i) ∧ RC S w3 ∧ OffM w w3) S.1.2.1 ?_ ?_ FU _ w2 (by show S.1.2.1 < 1000; omega) ⟨rfl, b2.1, jcM (a3.tr b3)⟩
          · intro i v w3 hi hI
            obtain ⟨rfl, i1, i2⟩ := hI
            obtain ⟨w', c1, c2, c3⟩ := swap_in_c (n := m) (a := i) (x := x) (p := swO S m i) i1 hS hm hi (swO_ge hS i (by omega))
            refine ⟨_, w', ⟨rfl, c1, i2.tr c2⟩, fun k => ?_⟩
            unfold b5_swap_38
            dsimp only
            rw [ck_pos i1.t, i1.r3, ck_pos i1.t42, i1.hc.2.2.2.2.2.1, if_neg (nI_ge hi (by omega)), i3_1, c3]
            rfl
          · intro v w3 hI k
            obtain ⟨rfl, i1, i2⟩ := hI
            refine ⟨w3, ?_, i1, i2⟩
            unfold b5_swap_38 bstA
            dsimp only
            rw [ck_pos i1.t, i1.r3, ck_pos i1.t42, i1.hc.2.2.2.2.2.1, if_pos (Int32.le_refl _)]
            split <;> rfl
        unfold f5_swap
        rw [(en w).2, Option.bind_some, if_neg (show ¬ (1 : Int32) = 0 by decide)]
        dsimp only
        rw [(ex w).2, Option.bind_some, if_neg (show ¬ (1 : Int32) = 0 by decide)]
        dsimp only
        rw [ck_pos h.t, a1, Option.bind_some]
        dsimp only
        rw [b1, Option.bind_some]
        exact key
      · obtain ⟨w1, a1, a2, a3, a4⟩ := h.keeps
        obtain ⟨w2, b1, b2, b3⟩ := RM.jb (S := S) (c := S.1) (n := m) a2 hS.rg (by omega)
        obtain ⟨w3, c1, c2, c3⟩ := b2.laysGo (a3.tp b3)
        have key : ∃ w', loopF b6_swap_42 FU (75, nI m, x, (-1 : Int32), joyM (goC S.2.1 S.1 m), (0 : Int32)) w3 = some (bstA (swO S m S.1.2.1) x, w') ∧ RM S w' ∧ OffC w w' := by
          refine loopE (R := fun o => ∃ w', o = some (bstA (swO S m S.1.2.1) x, w') ∧ RM S w' ∧ OffC w w') (I := fun i v w3 => v = (75, nI m, x, (swO S m i).2, (swO S m i).1, nI i) ∧ RM S w3 ∧ OffC w w3) S.1.2.1 ?_ ?_ FU _ w3 (by show S.1.2.1 < 1000; omega) ⟨rfl, c2, kpC ((a4.tr (b3.mono fun _ => Or.inl)).tr c3)⟩
          · intro i v w3 hi hI
            obtain ⟨rfl, i1, i2⟩ := hI
            obtain ⟨w', c1, c2, c3⟩ := swap_in_r (n := m) (a := i) (x := x) (p := swO S m i) i1 hS hm hi
            refine ⟨_, w', ⟨rfl, c1, i2.tr c2⟩, fun k => ?_⟩
            unfold b6_swap_42
            dsimp only
            rw [ck_pos i1.1.1.t, i1.1.2.1, if_neg (nI_ge hi (by omega)), i3_1, c3]
            rfl
          · intro v w3 hI k
            obtain ⟨rfl, i1, i2⟩ := hI
            refine ⟨w3, ?_, i1, i2⟩
            unfold b6_swap_42 bstA
            dsimp only
            rw [ck_pos i1.1.1.t, i1.1.2.1, if_pos (Int32.le_refl _)]
            split <;> rfl
        unfold f6_swap
        rw [(en w).1, Option.bind_some, if_neg (show ¬ (1 : Int32) = 0 by decide)]
        dsimp only
        rw [(ex w).1, Option.bind_some, if_neg (show ¬ (1 : Int32) = 0 by decide)]
        dsimp only
        rw [ck_pos h.1.1.t, a1, Option.bind_some]
        dsimp only
        rw [b1, Option.bind_some]
        dsimp only
        rw [c1, Option.bind_some]
        exact key
    · refine ⟨(-2, S), fun w h => ⟨w, ?_, h, OffM.rf⟩, fun w h => ⟨w, ?_, h, OffC.rf⟩, hS⟩
      · unfold f5_swap
        rw [(en w).2, Option.bind_some, if_neg (show ¬ (1 : Int32) = 0 by decide)]
        dsimp only
        rw [(ex w).2, Option.bind_some, if_pos rfl]
      · unfold f6_swap
        rw [(en w).1, Option.bind_some, if_neg (show ¬ (1 : Int32) = 0 by decide)]
        dsimp only
        rw [(ex w).1, Option.bind_some, if_pos rfl]
  · refine ⟨(-2, S), fun w h => ⟨w, ?_, h, OffM.rf⟩, fun w h => ⟨w, ?_, h, OffC.rf⟩, hS⟩
    · unfold f5_swap
      rw [(en w).2, Option.bind_some, if_pos rfl]
    · unfold f6_swap
      rw [(en w).1, Option.bind_some, if_pos rfl]
