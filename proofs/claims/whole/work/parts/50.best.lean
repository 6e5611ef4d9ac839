/-! the best of several; pouring in thought; when -/
def bst (J D : Nat → Int32) : Nat → Int32 × Int32
  | 0 => (-1, 0)
  | i + 1 => if J i ≤ (bst J D i).1 then bst J D i else (J i, D i)
theorem bst_ne {J D : Nat → Int32} {N : Nat} (hD : ∀ i, i < N → ¬ D i = -1) : ∀ i, i ≤ N → ¬ (bst J D i).2 = -1
  | 0, _ => (by decide : ¬ (0 : Int32) = -1)
  | i + 1, hi => by
    unfold bst
    split
    · exact bst_ne hD i (by omega)
    · exact hD i (by omega)
/-- as the reference keeps it -/
def bsm (J D : Nat → Int32) (i : Nat) : Int32 × Int32 := if i = 0 then (-1, 0) else ((bst J D i).2, (bst J D i).1)
theorem bsm_st {J D : Nat → Int32} {N i : Nat} (hD : ∀ i, i < N → ¬ D i = -1) (h0 : ¬ J 0 ≤ -1) (hi : i < N) : bsm J D (i + 1) = if (bsm J D i).1 = -1 then (D i, J i) else if J i ≤ (bsm J D i).2 then bsm J D i else (D i, J i) := by
  unfold bsm
  rw [if_neg (Nat.succ_ne_zero i)]
  by_cases e : i = 0
  · subst e
    rw [if_pos rfl, if_pos rfl]
    show ((bst J D 1).2, (bst J D 1).1) = _
    unfold bst
    rw [if_neg (show ¬ J 0 ≤ (bst J D 0).1 from h0)]
  · rw [if_neg e, if_neg (show ¬ (bst J D i).2 = -1 from bst_ne hD i (by omega))]
    rw [bst]
    dsimp only
    split <;> rfl
/-- ladles in thought -/
def pouC (c : CO) (l : Int32) : CO := if l ≤ 0 then c else if 20 * l ≤ c.1.1 1 then (pourM c.1 l, c.2) else c
def pwC (T : List PG) (l : Nat → Int32) (c : CO) : Nat → CO
  | 0 => c
  | m + 1 => minC T (pouC (pwC T l c m) (l m))
theorem pouC_2 (c : CO) (l : Int32) : (pouC c l).2 = c.2 := by
  unfold pouC
  split
  · rfl
  · split <;> rfl
theorem pouC_k (c : CO) (l : Int32) (b j : Nat) : (pouC c l).1.2 b j = c.1.2 b j := by
  unfold pouC
  split
  · rfl
  · split <;> rfl
theorem pouC_rg {c : CO} {l : Int32} (hl : ¬ l ≤ 0 → rng l 1 3) (h : Rg c.2.1 c.1) : Rg (pouC c l).2.1 (pouC c l).1 := by
  unfold pouC
  split
  · exact h
  · rename_i h1
    split
    · rename_i h2
      exact (pour_rng h (hl h1) h2).1
    · exact h
theorem pwC_2 (T : List PG) (l : Nat → Int32) (c : CO) : ∀ m, (pwC T l c m).2 = c.2
  | 0 => rfl
  | m + 1 => (pouC_2 (pwC T l c m) (l m)).trans (pwC_2 T l c m)
theorem pwC_rg {T : List PG} {l : Nat → Int32} {c : CO} (hl : ∀ i, ¬ l i ≤ 0 → rng (l i) 1 3) (h : Rg c.2.1 c.1) : ∀ m, Rg (pwC T l c m).2.1 (pwC T l c m).1
  | 0 => h
  | m + 1 => minC_rg (pouC_rg (hl m) (pwC_rg hl h m))
theorem pwC_kind (T : List PG) (l : Nat → Int32) (c : CO) : ∀ n b, (pwC T l c n).1.2 b 0 = c.1.2 b 0 ∧ (pwC T l c n).1.2 b 1 = c.1.2 b 1
  | 0, _ => ⟨rfl, rfl⟩
  | n + 1, b => ⟨((min_same _ _ _).2.2 b).1.trans ((pouC_k _ _ b 0).trans (pwC_kind T l c n b).1), ((min_same _ _ _).2.2 b).2.trans ((pouC_k _ _ b 1).trans (pwC_kind T l c n b).2)⟩
theorem TC.pour {S : SS} {c : CO} {w : Wd} {l : Int32} (h : TC S c w) (hl : ¬ l ≤ 0) : ∃ z w', f1_pourLadles 50 l w = some (z, w') ∧ TC S (pouC c l) w' ∧ Fr JC w w' := by
  rw [pour_c h.2.1]
  unfold pouC
  rw [if_neg hl]
  have j : JC 50 := Or.inl ⟨by decide, by decide⟩
  split
  · have hF : Fr JC w (sI (sI w 50 1 (pour1 c.1 l)) 50 2 (pour2 c.1 l)) := (Fr.sI j).tr (Fr.sI j)
    exact ⟨_, _, rfl, h.upd (c' := (pourM c.1 l, c.2)) hF ⟨pour_hut h.2.1, h.2.2⟩, hF⟩
  · exact ⟨_, _, rfl, h, Fr.rf⟩
theorem RM.pours {S : SS} {c : CO} {w : Wd} {l : Int32} (h : RM (c, S.2) w) (hr : Rg c.2.1 c.1) (hl : ¬ l ≤ 0) (h3 : rng l 1 3) : ∃ z w', f6_pours 75 l w = some (z, w') ∧ RM (pouC c l, S.2) w' ∧ Fr TP w w' := by
  rw [pour_r h.1 hr h3]
  unfold pouC
  rw [if_neg hl]
  have j : TP 79 := Or.inr (Or.inl rfl)
  split
  · have hF : Fr TP w (sI (sI w 79 1 (pour1 c.1 l)) 79 2 (pour2 c.1 l)) := (Fr.sI j).tr (Fr.sI j)
    exact ⟨_, _, rfl, RM.fr (S := (c, S.2)) (c' := (pourM c.1 l, c.2)) h (pour_mod h.1) hF (fun _ => Or.inl), hF⟩
  · exact ⟨_, _, rfl, h, Fr.rf⟩
/-- which minutes' bits are set -/
def bitL (bits : Int32) (m : Nat) : Int32 := if bits >>> (nI m &&& 31) &&& 1 = 1 then 1 else 0
theorem bitL_3 (bits : Int32) (m : Nat) : ¬ bitL bits m ≤ 0 → rng (bitL bits m) 1 3 := by
  unfold bitL
  split
  · exact fun _ => ⟨by decide, by decide⟩
  · exact fun h => absurd (by decide) h
def whenJ (S : SS) (n : Nat) (i : Nat) : Int32 := joyM (pwC S.2.1 (bitL (nI i)) S.1 n)
theorem pouring_c {S : SS} {w : Wd} {n i : Nat} (h : RC S w) (hn : n ≤ 8) : ∃ w', f5_joyPouring 32 (nI n) (nI i) w = some (whenJ S n i, w') ∧ RC S w' ∧ Fr JC w w' := by
  obtain ⟨w1, a1, a2, a3⟩ := h.think
  have key : ∃ w', loopF b5_joyPouring_6 FU (32, nI n, nI i, (0 : Int32)) w1 = some (whenJ S n i, w') ∧ RC S w' ∧ Fr JC w1 w' := by
    refine loopE (R := fun o => ∃ w', o = some (whenJ S n i, w') ∧ RC S w' ∧ Fr JC w1 w') (I := fun m v w2 => v = (32, nI n, nI i, nI m) ∧ TC S (pwC S.2.1 (bitL (nI i)) S.1 m) w2 ∧ Fr JC w1 w2) n ?_ ?_ FU _ w1 (by show n < 1000; omega) ⟨rfl, a2, Fr.rf⟩
    · intro m v w2 hm hI
      obtain ⟨rfl, i1, i2⟩ := hI
      have e29 : ∀ {c w3}, TC S c w3 → Fr JC w1 w3 → ∃ w4, TC S (minC S.2.1 c) w4 ∧ Fr JC w1 w4 ∧ ∀ k, j5_joyPouring_29 k 32 (nI n) (nI i) (nI m) w3 = k (32, nI n, nI i, nI (m + 1)) w4 := by
        intro c w3 h3 hF
        obtain ⟨w4, b1, b2, b3⟩ := h3.min
        refine ⟨w4, b2, hF.tr b3, fun k => ?_⟩
        unfold j5_joyPouring_29
        rw [ck_pos h3.1.t, h3.1.1.1.2.2.2.2.1, ck_pos h3.2.1.tgA, b1, Option.bind_some, i3_1]
      unfold b5_joyPouring_6
      dsimp only
      by_cases hb : nI i >>> (nI m &&& 31) &&& 1 = 1
      · have el : bitL (nI i) m = 1 := if_pos hb
        obtain ⟨z, w3, b1, b2, b3⟩ := i1.pour (l := bitL (nI i) m) (by rw [el]; decide)
        obtain ⟨w4, c1, c2, c3⟩ := e29 b2 (i2.tr b3)
        refine ⟨_, w4, ⟨rfl, c1, c2⟩, fun k => ?_⟩
        rw [el] at b1
        rw [if_neg (nI_ge hm (by omega)), if_pos hb, ck_pos i1.1.t, i1.1.1.1.2.2.2.2.1, ck_pos i1.2.1.tgA, b1, Option.bind_some]
        exact c3 k
      · have el : bitL (nI i) m = 0 := if_neg hb
        obtain ⟨w4, c1, c2, c3⟩ := e29 i1 i2
        refine ⟨_, w4, ⟨rfl, ?_, c2⟩, fun k => ?_⟩
        · show TC S (minC S.2.1 (pouC (pwC S.2.1 (bitL (nI i)) S.1 m) (bitL (nI i) m))) w4
          rw [el]
          unfold pouC
          rw [if_pos (by decide)]
          exact c1
        · rw [if_neg (nI_ge hm (by omega)), if_neg hb]
          exact c3 k
    · intro v w2 hI k
      obtain ⟨rfl, i1, i2⟩ := hI
      refine ⟨w2, ?_, i1.1, i2⟩
      unfold b5_joyPouring_6
      dsimp only
      rw [if_pos (Int32.le_refl _), ck_pos i1.1.t, i1.1.1.1.2.2.2.2.1, ck_pos i1.2.1.tgA, joy_cls i1.2.1]
      rfl
  obtain ⟨w', k1, k2, k3⟩ := key
  refine ⟨w', ?_, k2, a3.tr k3⟩
  unfold f5_joyPouring
  rw [ck_pos h.t, a1]
  exact k1
theorem RM.laysPw {S : SS} {w : Wd} {l : Nat → Int32} {n : Nat} (h : RM (pwC S.2.1 l S.1 n, S.2) w) (hK : KM w S.1.2.1 S.1.1) : ∃ w', f6_lays 75 w = some ((), w') ∧ RM S w' ∧ Fr KP w w' := h.lays hK (pwC_2 _ _ _ _) (pwC_kind _ _ _ _)
theorem pow2_8 : ∀ n, n ≤ 8 → (1 : Int32) <<< (nI n &&& 31) = nI (2 ^ n) := by decide
def bstA (p : Int32 × Int32) (x : Int32) : Int32 := if x = 0 then p.2 else p.1
theorem when_c {S : SS} {w : Wd} {n : Nat} {x : Int32} (h : RC S w) (hn : n ≤ 8) : ∃ w', loopF b5_when_30 FU (32, nI n, x, (-1 : Int32), (0 : Int32), (0 : Int32)) w = some (bstA (bst (whenJ S n) nI (2 ^ n)) x, w') ∧ RC S w' ∧ OffM w w' := by
  have hp : 2 ^ n ≤ 2 ^ 8 := Nat.pow_le_pow_right (by decide) hn
  refine loopE (R := fun o => ∃ w', o = some (bstA (bst (whenJ S n) nI (2 ^ n)) x, w') ∧ RC S w' ∧ OffM w w') (I := fun i v w2 => v = (32, nI n, x, (bst (whenJ S n) nI i).1, (bst (whenJ S n) nI i).2, nI i) ∧ RC S w2 ∧ OffM w w2) (2 ^ n) ?_ ?_ FU _ w (by show 2 ^ n < 1000; omega) ⟨rfl, h, OffM.rf⟩
  · intro i v w2 hi hI
    obtain ⟨rfl, i1, i2⟩ := hI
    obtain ⟨w3, b1, b2, b3⟩ := pouring_c (n := n) (i := i) i1 hn
    refine ⟨_, w3, ⟨rfl, b2, i2.tr (jcM b3)⟩, fun k => ?_⟩
    unfold b5_when_30
    dsimp only
    rw [pow2_8 n hn, if_neg (nI_ge hi (by omega)), ck_pos i1.t, b1, Option.bind_some]
    dsimp only
    unfold j5_when_60
    rw [i3_1, bst]
    split <;> rfl
  · intro v w2 hI k
    obtain ⟨rfl, i1, i2⟩ := hI
    refine ⟨w2, ?_, i1, i2⟩
    unfold b5_when_30 bstA
    dsimp only
    rw [pow2_8 n hn, if_pos (Int32.le_refl _)]
    split <;> rfl
/-- a loop inside a loop: what goes on behind it is left open -/
theorem loopS {κ σ α : Type} {B : κ → (σ → Wd → Option α) → σ → Wd → Option α} (I : Nat → σ → Wd → Prop) (m : Nat) (hs : ∀ i v w, i < m → I i v w → ∃ v' w', I (i + 1) v' w' ∧ ∀ c k, B c k v w = k v' w') : ∀ (n i : Nat) (v : σ) (w : Wd), m < n + i → i ≤ m → I i v w → ∃ v' w', I m v' w' ∧ ∀ c, ∃ k, loopF (B c) n v w = B c k v' w' := by
  intro n
  induction n with
  | zero => intro i v w h1 h2; omega
  | succ n ih =>
    intro i v w h1 h2 hI
    rcases Nat.lt_or_eq_of_le h2 with h3 | h3
    · obtain ⟨v1, w1, a1, a2⟩ := hs i v w h3 hI
      obtain ⟨v', w', b1, b2⟩ := ih (i + 1) v1 w1 (by omega) (by omega) a1
      refine ⟨v', w', b1, fun c => ?_⟩
      obtain ⟨k, hk⟩ := b2 c
      refine ⟨k, ?_⟩
      show B c (loopF (B c) n) v w = _
      rw [a2]
      exact hk
    · subst h3
      exact ⟨v, w, hI, fun c => ⟨loopF (B c) n, rfl⟩⟩
abbrev K6 : Type := Nat × Int32 × Int32 × Int32 × Int32 × Int32 → Wd → Option (Int32 × Wd)
theorem when_in {S : SS} {w : Wd} {n i : Nat} {x best most : Int32} (h : RM S w) (hr : Rg S.1.2.1 S.1.1) (hn : n ≤ 8) : ∃ w1 w', f6_keeps 75 w = some ((), w1) ∧ RM S w' ∧ Fr KP w w' ∧ ∀ k30 : K6, loopF (b6_when_45 k30) FU (75, nI n, x, best, most, nI i, (0 : Int32)) w1 = if best = -1 then k30 (75, nI n, x, nI i, whenJ S n i, nI (i + 1)) w' else if whenJ S n i ≤ most then k30 (75, nI n, x, best, most, nI (i + 1)) w' else k30 (75, nI n, x, nI i, whenJ S n i, nI (i + 1)) w' := by
  obtain ⟨w1, a1, a2, a3, a4⟩ := h.keeps
  obtain ⟨v, w2, ⟨rfl, i1, i2⟩, hk⟩ := loopS (B := b6_when_45) (I := fun m v w2 => v = (75, nI n, x, best, most, nI i, nI m) ∧ RM (pwC S.2.1 (bitL (nI i)) S.1 m, S.2) w2 ∧ Fr TP w1 w2) n (by
    intro m v w2 hm hI
    obtain ⟨rfl, i1, i2⟩ := hI
    have hr2 := pwC_rg (T := S.2.1) (bitL_3 (nI i)) hr m
    have e68 : ∀ {c : CO} {w3}, RM (c, S.2) w3 → Rg c.2.1 c.1 → Fr TP w1 w3 → ∃ w4, RM (minC S.2.1 c, S.2) w4 ∧ Fr TP w1 w4 ∧ ∀ k30 k, j6_when_68 k30 k 75 (nI n) x best most (nI i) (nI m) w3 = k (75, nI n, x, best, most, nI i, nI (m + 1)) w4 := by
      intro c w3 h3 hr3 hF
      obtain ⟨w4, b1, b2, b3⟩ := RM.min (S := S) h3 hr3
      refine ⟨w4, b2, hF.tr b3, fun k30 k => ?_⟩
      unfold j6_when_68
      rw [ck_pos h3.1.1.t, b1, Option.bind_some, i3_1]
    by_cases hb : nI i >>> (nI m &&& 31) &&& 1 = 1
    · have el : bitL (nI i) m = 1 := if_pos hb
      obtain ⟨z, w3, b1, b2, b3⟩ := RM.pours (S := S) (l := bitL (nI i) m) i1 hr2 (by rw [el]; decide) (bitL_3 _ _ (by rw [el]; decide))
      obtain ⟨w4, c1, c2, c3⟩ := e68 b2 (pouC_rg (bitL_3 _ _) hr2) (i2.tr b3)
      refine ⟨_, w4, ⟨rfl, c1, c2⟩, fun k30 k => ?_⟩
      rw [el] at b1
      unfold b6_when_45
      dsimp only
      rw [if_neg (nI_ge hm (by omega)), if_pos hb, ck_pos i1.1.1.t, b1, Option.bind_some]
      exact c3 k30 k
    · have el : bitL (nI i) m = 0 := if_neg hb
      obtain ⟨w4, c1, c2, c3⟩ := e68 i1 hr2 i2
      refine ⟨_, w4, ⟨rfl, ?_, c2⟩, fun k30 k => ?_⟩
      · show RM (minC S.2.1 (pouC (pwC S.2.1 (bitL (nI i)) S.1 m) (bitL (nI i) m)), S.2) w4
        rw [el]
        unfold pouC
        rw [if_pos (by decide)]
        exact c1
      · unfold b6_when_45
        dsimp only
        rw [if_neg (nI_ge hm (by omega)), if_neg hb]
        exact c3 k30 k) FU 0 (75, nI n, x, best, most, nI i, (0 : Int32)) w1 (by show n < 1000 + 0; omega) (Nat.zero_le n) ⟨rfl, a2, Fr.rf⟩
  obtain ⟨w', c1, c2, c3⟩ := i1.laysPw (a3.tp i2)
  refine ⟨w1, w', a1, c2, (a4.tr (i2.mono fun _ => Or.inl)).tr c3, fun k30 => ?_⟩
  have hj : f6_joyAll 75 w2 = some (whenJ S n i, w2) := joy_ref i1.1
  obtain ⟨k, hk'⟩ := hk k30
  rw [hk']
  unfold b6_when_45
  dsimp only
  rw [if_pos (Int32.le_refl _), ck_pos i1.1.1.t, hj, Option.bind_some]
  dsimp only
  rw [c1, Option.bind_some]
  dsimp only
  unfold j6_when_101 j6_when_106 j6_when_119 j6_when_132
  rw [if_neg (show ¬ (1 : Int32) = 0 by decide), if_pos (show (0 : Int32) = 0 from rfl), if_neg (show ¬ (1 : Int32) = 0 by decide), if_pos (show (0 : Int32) = 0 from rfl), i3_1]
theorem whenJ_0 {S : SS} {n i : Nat} (hS : SI S) : ¬ whenJ S n i ≤ -1 := by
  obtain ⟨j, h1, h2⟩ := joyM_nat (c := pwC S.2.1 (bitL (nI i)) S.1 n) (by rw [pwC_2]; exact hS.1.1) (pwC_rg (bitL_3 _) hS.rg n)
  unfold whenJ
  rw [h2, ile, nI_int (by omega), show (-1 : Int32).toInt = -1 from rfl]
  omega
theorem nI_m1 {i : Nat} (h : i < 2 ^ 31) : ¬ nI i = -1 := by
  rw [ieq, nI_int h, show (-1 : Int32).toInt = -1 from rfl]
  omega
theorem when_r {S : SS} {w : Wd} {n : Nat} {x : Int32} (h : RM S w) (hS : SI S) (hn : n ≤ 8) : ∃ w', loopF b6_when_30 FU (75, nI n, x, (-1 : Int32), (0 : Int32), (0 : Int32)) w = some (bstA (bst (whenJ S n) nI (2 ^ n)) x, w') ∧ RM S w' ∧ OffC w w' := by
  have hp : 2 ^ n ≤ 2 ^ 8 := Nat.pow_le_pow_right (by decide) hn
  have hp0 : 0 < 2 ^ n := Nat.pow_pos (by decide)
  have hD : ∀ i, i < 2 ^ n → ¬ nI i = -1 := fun i hi => nI_m1 (by omega)
  refine loopE (R := fun o => ∃ w', o = some (bstA (bst (whenJ S n) nI (2 ^ n)) x, w') ∧ RM S w' ∧ OffC w w') (I := fun i v w2 => v = (75, nI n, x, (bsm (whenJ S n) nI i).1, (bsm (whenJ S n) nI i).2, nI i) ∧ RM S w2 ∧ OffC w w2) (2 ^ n) ?_ ?_ FU _ w (by show 2 ^ n < 1000; omega) ⟨rfl, h, OffC.rf⟩
  · intro i v w2 hi hI
    obtain ⟨rfl, i1, i2⟩ := hI
    obtain ⟨w1, w', a1, b1, b2, b3⟩ := when_in (n := n) (i := i) (x := x) (best := (bsm (whenJ S n) nI i).1) (most := (bsm (whenJ S n) nI i).2) i1 hS.rg hn
    refine ⟨_, w', ⟨rfl, b1, i2.tr (kpC b2)⟩, fun k => ?_⟩
    unfold b6_when_30
    dsimp only
    rw [pow2_8 n hn, if_neg (nI_ge hi (by omega)), ck_pos i1.1.1.t, a1, Option.bind_some]
    dsimp only
    rw [b3, bsm_st hD (whenJ_0 hS) hi]
    split
    · rfl
    · split <;> rfl
  · intro v w2 hI k
    obtain ⟨rfl, i1, i2⟩ := hI
    refine ⟨w2, ?_, i1, i2⟩
    unfold b6_when_30 bstA bsm
    dsimp only
    rw [pow2_8 n hn, if_pos (Int32.le_refl _), if_neg (show ¬ 2 ^ n = 0 by omega)]
    split <;> rfl
theorem upto (x : Int32) {m : Nat} {y : Int32} (hy : y = nI m) (hm : m < 1000) (h : 0 ≤ x ∧ x ≤ y) : ∃ k, k ≤ m ∧ x = nI k := by
  have := h.2
  rw [ile, hy, nI_int (by omega)] at this
  obtain ⟨k, h1, h2⟩ := inum (n := m + 1) h.1 (by rw [ilt, nI_int (by omega)]; omega) (by omega)
  exact ⟨k, by omega, h2⟩
theorem pos_le {x y : Int32} (h : 1 ≤ x ∧ x ≤ y) : 0 ≤ x ∧ x ≤ y := ⟨by have := h.1; rw [ile, show (1 : Int32).toInt = 1 from rfl] at this; rw [ile, show (0 : Int32).toInt = 0 from rfl]; omega, h.2⟩
theorem when_pair (n x : Int32) : Pair (f5_when 32 n x) (f6_when 75 n x) := pair_of fun S hS => by
  rcases within2 n 1 8 with ⟨hn, en⟩ | ⟨hn, en⟩
  · obtain ⟨m, hm, rfl⟩ := upto n (m := 8) rfl (by decide) (pos_le hn)
    rcases within2 x 0 1 with ⟨hx, ex⟩ | ⟨hx, ex⟩
    · refine ⟨(bstA (bst (whenJ S m) nI (2 ^ m)) x, S), fun w h => ?_, fun w h => ?_, hS⟩
      · unfold f5_when
        rw [(en w).2, Option.bind_some, if_neg (show ¬ (1 : Int32) = 0 by decide)]
        dsimp only
        rw [(ex w).2, Option.bind_some, if_neg (show ¬ (1 : Int32) = 0 by decide)]
        exact when_c h hm
      · unfold f6_when
        rw [(en w).1, Option.bind_some, if_neg (show ¬ (1 : Int32) = 0 by decide)]
        dsimp only
        rw [(ex w).1, Option.bind_some, if_neg (show ¬ (1 : Int32) = 0 by decide)]
        exact when_r h hS hm
    · refine ⟨(-2, S), fun w h => ⟨w, ?_, h, OffM.rf⟩, fun w h => ⟨w, ?_, h, OffC.rf⟩, hS⟩
      · unfold f5_when
        rw [(en w).2, Option.bind_some, if_neg (show ¬ (1 : Int32) = 0 by decide)]
        dsimp only
        rw [(ex w).2, Option.bind_some, if_pos rfl]
      · unfold f6_when
        rw [(en w).1, Option.bind_some, if_neg (show ¬ (1 : Int32) = 0 by decide)]
        dsimp only
        rw [(ex w).1, Option.bind_some, if_pos rfl]
  · refine ⟨(-2, S), fun w h => ⟨w, ?_, h, OffM.rf⟩, fun w h => ⟨w, ?_, h, OffC.rf⟩, hS⟩
    · unfold f5_when
      rw [(en w).2, Option.bind_some, if_pos rfl]
    · unfold f6_when
      rw [(en w).1, Option.bind_some, if_pos rfl]
