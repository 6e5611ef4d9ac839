/-! fractions in lowest terms -/
abbrev nL (n : Nat) : Int64 := Int64.ofNat n
theorem nL_int {n : Nat} (h : n < 2 ^ 31) : (nL n).toInt = n := lg_ofNat_toInt (by omega)
theorem natdiv (a b : Nat) : (a : Int) / (b : Int) = ((a / b : Nat) : Int) := (Int.natCast_ediv a b).symm
theorem idivn {a b : Nat} (ha : a < 2 ^ 31) (hb : b < 2 ^ 31) (h0 : 0 < b) : nI a / nI b = nI (a / b) := by
  have hd := Nat.div_le_self a b
  rw [ieq, lg_idiv_nonneg (by rw [nI_int ha]; omega) (by rw [nI_int hb]; omega), nI_int ha, nI_int hb, nI_int (by omega), natdiv]
theorem ldivn {a b : Nat} (ha : a < 2 ^ 31) (hb : b < 2 ^ 31) (h0 : 0 < b) : nL a / nL b = nL (a / b) := by
  have hd := Nat.div_le_self a b
  rw [← Int64.toInt_inj, lg_ldiv_nonneg (by rw [nL_int ha]; omega) (by rw [nL_int hb]; omega), nL_int ha, nL_int hb, nL_int (by omega), natdiv]
theorem modn (a b : Nat) : a - a / b * b = a % b := by
  have := Nat.div_add_mod a b
  rw [Nat.mul_comm] at this
  omega
theorem irem {a b : Nat} (ha : a < 2 ^ 31) (hb : b < 2 ^ 31) (h0 : 0 < b) : nI a - nI a / nI b * nI b = nI (a % b) := by
  have hd := Nat.div_mul_le_self a b
  have hm := modn a b
  rw [idivn ha hb h0, nI_mul, ieq, isub (by rw [nI_int ha, nI_int (by omega)]; omega) (by rw [nI_int ha, nI_int (by omega)]; omega), nI_int ha, nI_int (by omega), nI_int (by omega)]
  omega
theorem lrem {a b : Nat} (ha : a < 2 ^ 31) (hb : b < 2 ^ 31) (h0 : 0 < b) : nL a - nL a / nL b * nL b = nL (a % b) := by
  have hd := Nat.div_mul_le_self a b
  have hm := modn a b
  have em : (nL (a / b) * nL b).toInt = ((a / b * b : Nat) : Int) := by
    have h1 := Nat.div_le_self a b
    have e : (nL (a / b)).toInt * (nL b).toInt = ((a / b * b : Nat) : Int) := by rw [nL_int (by omega), nL_int hb, Int.natCast_mul]
    rw [Jvm.Kit.i64_mul (by rw [e]; omega) (by rw [e]; omega), e]
  rw [ldivn ha hb h0, ← Int64.toInt_inj, Jvm.Kit.i64_sub (by rw [nL_int ha, em]; omega) (by rw [nL_int ha, em]; omega), nL_int ha, em, nL_int (by omega)]
  omega
theorem half {c r : Nat} (h0 : 0 < r) (h : 0 < c % r) : 2 * (r % (c % r)) < r := by
  have h1 := Nat.mod_lt c h0
  have h2 := Nat.mod_lt r h
  have h3 := Nat.div_add_mod r (c % r)
  have h4 : 0 < r / (c % r) := Nat.div_pos (Nat.le_of_lt h1) h
  have h5 : c % r ≤ (c % r) * (r / (c % r)) := Nat.le_mul_of_pos_right _ h4
  omega
theorem gcd_st (c r : Nat) : Nat.gcd r c = Nat.gcd (c % r) r := Nat.gcd_rec r c
theorem nI_eq0 {n : Nat} (h : n < 2 ^ 31) : nI n = 0 ↔ n = 0 := by
  rw [ieq, nI_int h, show (0 : Int32).toInt = 0 from rfl]
  omega
theorem low_cl {A B pt : Int32} {w : Wd} : ∀ (k c r i n : Nat), r < 2 ^ k → i + 2 * k ≤ 64 → c < 2 ^ 31 → r < 2 ^ 31 → loopF b5_lowest_16 (n + 2 * k + 1) (A, B, pt, nI c, nI r, nI i) w = j5_lowest_47 A B pt (nI (Nat.gcd r c)) w := by
  have ends : ∀ (c i n : Nat), i ≤ 64 → loopF b5_lowest_16 (n + 1) (A, B, pt, nI c, nI 0, nI i) w = j5_lowest_47 A B pt (nI (Nat.gcd 0 c)) w := by
    intro c i n hi
    show b5_lowest_16 (loopF b5_lowest_16 n) (A, B, pt, nI c, nI 0, nI i) w = _
    unfold b5_lowest_16
    dsimp only
    rw [Nat.gcd_zero_left, if_pos (show nI 0 = 0 from rfl), ite_self]
  have step : ∀ (c r i n : Nat), i < 64 → 0 < r → c < 2 ^ 31 → r < 2 ^ 31 → loopF b5_lowest_16 (n + 1) (A, B, pt, nI c, nI r, nI i) w = loopF b5_lowest_16 n (A, B, pt, nI r, nI (c % r), nI (i + 1)) w := by
    intro c r i n hi hr hc hr2
    have h0 : ¬ nI r = 0 := fun z => by rw [nI_eq0 hr2] at z; omega
    show b5_lowest_16 (loopF b5_lowest_16 n) (A, B, pt, nI c, nI r, nI i) w = _
    unfold b5_lowest_16
    dsimp only
    rw [if_neg (show ¬ (64 : Int32) ≤ nI i from nI_ge (b := 64) hi (by omega)), if_neg h0, ck_pos h0, irem hc hr2 hr, i3_1]
  intro k
  induction k with
  | zero =>
    intro c r i n h1 h2 h3 h4
    have : r = 0 := by simp at h1; omega
    subst this
    exact ends c i n (by omega)
  | succ k ih =>
    intro c r i n h1 h2 h3 h4
    by_cases hr : r = 0
    · subst hr
      exact ends c i _ (by omega)
    · have hl := Nat.mod_lt c (show 0 < r by omega)
      rw [step c r i _ (by omega) (by omega) h3 h4, gcd_st]
      by_cases hr2 : c % r = 0
      · rw [hr2]
        exact ends r (i + 1) _ (by omega)
      · have hh := half (show 0 < r by omega) (show 0 < c % r by omega)
        rw [Nat.pow_succ] at h1
        show loopF b5_lowest_16 (n + 2 * k + 1 + 1) _ w = _
        rw [step r (c % r) (i + 1) _ (by omega) (by omega) h4 (by omega), gcd_st]
        exact ih (c % r) (r % (c % r)) (i + 2) n (by omega) (by omega) (by omega) (by omega)
theorem low_ml {A B : Int64} {pt : Int32} {w : Wd} : ∀ (k x y n : Nat), y < 2 ^ k → x < 2 ^ 31 → y < 2 ^ 31 → loopF b6_lowest_16 (n + 2 * k + 1) (A, B, pt, nL x, nL y) w = if pt = 0 then ck (¬ nL (Nat.gcd y x) = 0) (some (A / nL (Nat.gcd y x), w)) else ck (¬ nL (Nat.gcd y x) = 0) (some (B / nL (Nat.gcd y x), w)) := by
  have ends : ∀ (x n : Nat), loopF b6_lowest_16 (n + 1) (A, B, pt, nL x, nL 0) w = if pt = 0 then ck (¬ nL (Nat.gcd 0 x) = 0) (some (A / nL (Nat.gcd 0 x), w)) else ck (¬ nL (Nat.gcd 0 x) = 0) (some (B / nL (Nat.gcd 0 x), w)) := by
    intro x n
    show b6_lowest_16 (loopF b6_lowest_16 n) (A, B, pt, nL x, nL 0) w = _
    unfold b6_lowest_16
    dsimp only
    rw [Nat.gcd_zero_left, if_pos (show lg_cmp (nL 0) 0 = 0 from (lg_cmp_eq _ _).mpr rfl)]
  have step : ∀ (x y n : Nat), 0 < y → x < 2 ^ 31 → y < 2 ^ 31 → loopF b6_lowest_16 (n + 1) (A, B, pt, nL x, nL y) w = loopF b6_lowest_16 n (A, B, pt, nL y, nL (x % y)) w := by
    intro x y n hy hx hy2
    have h0 : ¬ nL y = 0 := fun z => by
      rw [← Int64.toInt_inj, nL_int hy2, show (0 : Int64).toInt = 0 from rfl] at z
      omega
    show b6_lowest_16 (loopF b6_lowest_16 n) (A, B, pt, nL x, nL y) w = _
    unfold b6_lowest_16
    dsimp only
    rw [if_neg (fun z => h0 ((lg_cmp_eq _ _).mp z)), ck_pos h0, lrem hx hy2 hy]
  intro k
  induction k with
  | zero =>
    intro x y n h1 h3 h4
    have : y = 0 := by simp at h1; omega
    subst this
    exact ends x n
  | succ k ih =>
    intro x y n h1 h3 h4
    by_cases hr : y = 0
    · subst hr
      exact ends x _
    · have hl := Nat.mod_lt x (show 0 < y by omega)
      rw [step x y _ (by omega) h3 h4, gcd_st]
      by_cases hr2 : x % y = 0
      · rw [hr2]
        exact ends y _
      · have hh := half (show 0 < y by omega) (show 0 < x % y by omega)
        rw [Nat.pow_succ] at h1
        show loopF b6_lowest_16 (n + 2 * k + 1 + 1) _ w = _
        rw [step y (x % y) _ (by omega) h4 (by omega), gcd_st]
        exact ih (x % y) (y % (x % y)) n (by omega) (by omega) (by omega)
def lowA (a b pt : Nat) : Int64 := if pt = 0 then nL (a / Nat.gcd a b) else nL (b / Nat.gcd a b)
theorem nI_long {a : Nat} (h : a < 2 ^ 31) : (nI a).toInt64 = nL a := by
  rw [← Int64.toInt_inj, Jvm.Kit.i64_of_i32, nI_int h, nL_int h]
theorem low_c {a b pt : Nat} (ha : a < 2 ^ 14) (hb : b < 2 ^ 14) (h0 : 0 < b) (hp : pt < 2) (w : Wd) : f5_lowest (nI a) (nI b) (nI pt) w = some (lowA a b pt, w) := by
  have hg0 : 0 < Nat.gcd a b := Nat.gcd_pos_of_pos_right a h0
  have hg1 : Nat.gcd a b ≤ b := Nat.gcd_le_right a h0
  have hd1 := Nat.div_le_self a (Nat.gcd a b)
  have hd2 := Nat.div_le_self b (Nat.gcd a b)
  have n0 : ¬ nI (Nat.gcd a b) = 0 := fun z => by rw [nI_eq0 (by omega)] at z; omega
  unfold f5_lowest
  rw [if_neg (fun z => by rw [nI_eq0 (by omega)] at z; omega)]
  have := low_cl (A := nI a) (B := nI b) (pt := nI pt) (w := w) 14 b a 0 971 ha (by decide) (by omega) (by omega)
  rw [show (971 + 2 * 14 + 1 : Nat) = FU from rfl] at this
  rw [show (0 : Int32) = nI 0 from rfl, this]
  unfold j5_lowest_47 lowA
  rw [if_neg n0, ck_pos n0, ck_pos n0, idivn (by omega) (by omega) hg0, idivn (by omega) (by omega) hg0, nI_long (by omega), nI_long (by omega)]
  rcases (by omega : pt = 0 ∨ pt = 1) with rfl | rfl
  · rw [if_pos (show nI 0 = 0 from rfl), if_pos rfl]
  · rw [if_neg (show ¬ nI 1 = 0 by decide), if_neg (by decide)]
theorem low_m {a b pt : Nat} (ha : a < 2 ^ 14) (hb : b < 2 ^ 14) (h0 : 0 < b) (hp : pt < 2) (w : Wd) : f6_lowest (nL a) (nL b) (nI pt) w = some (lowA a b pt, w) := by
  have hg0 : 0 < Nat.gcd a b := Nat.gcd_pos_of_pos_right a h0
  have hg1 : Nat.gcd a b ≤ b := Nat.gcd_le_right a h0
  have hd1 := Nat.div_le_self a (Nat.gcd a b)
  have hd2 := Nat.div_le_self b (Nat.gcd a b)
  unfold f6_lowest
  by_cases ha0 : a = 0
  · subst ha0
    rw [if_pos (show lg_cmp (nL 0) 0 = 0 from (lg_cmp_eq _ _).mpr rfl)]
    unfold lowA
    rw [Nat.gcd_zero_left, Nat.zero_div, Nat.div_self h0]
    rcases (by omega : pt = 0 ∨ pt = 1) with rfl | rfl <;> rfl
  · have hz : ¬ nL a = 0 := fun z => by
      rw [← Int64.toInt_inj, nL_int (by omega), show (0 : Int64).toInt = 0 from rfl] at z
      omega
    have n0 : ¬ nL (Nat.gcd a b) = 0 := fun z => by
      rw [← Int64.toInt_inj, nL_int (by omega), show (0 : Int64).toInt = 0 from rfl] at z
      omega
    rw [if_neg (fun z => hz ((lg_cmp_eq _ _).mp z))]
    have := low_ml (A := nL a) (B := nL b) (pt := nI pt) (w := w) 14 a b 971 hb (by omega) (by omega)
    rw [show (971 + 2 * 14 + 1 : Nat) = FU from rfl] at this
    rw [this, Nat.gcd_comm b a, ck_pos n0, ck_pos n0, ldivn (by omega) (by omega) hg0, ldivn (by omega) (by omega) hg0]
    unfold lowA
    rcases (by omega : pt = 0 ∨ pt = 1) with rfl | rfl
    · rw [if_pos (show nI 0 = 0 from rfl), if_pos rfl]
    · rw [if_neg (show ¬ nI 1 = 0 by decide), if_neg (by decide)]
/-- joy of all is no large number -/
theorem joy_nat {ba : Nat → Nat → Int32} : ∀ m, m ≤ 6 → (∀ b, b < m → RowR (ba b)) → ∃ j, j ≤ 999 * m ∧ joyF ba m = nI j
  | 0, _, _ => ⟨0, by decide, rfl⟩
  | m + 1, hm, h => by
    obtain ⟨j, h1, h2⟩ := joy_nat m (by omega) fun b hb => h b (by omega)
    obtain ⟨r0, r1, r2, r3, r4⟩ := h m (by omega)
    unfold rng at r4
    refine ⟨j + (ba m 4).toInt.toNat, by omega, ?_⟩
    unfold joyF
    rw [h2, ieq, iadd (by rw [nI_int (by omega)]; omega) (by rw [nI_int (by omega)]; omega), nI_int (by omega), nI_int (by omega)]
    omega
theorem joyM_nat {c : CO} (hm : c.2.1 ≤ 6) (h : Rg c.2.1 c.1) : ∃ j, j < 6000 ∧ joyM c = nI j := by
  obtain ⟨j, h1, h2⟩ := joy_nat c.2.1 hm h.2.2
  exact ⟨j, by omega, h2⟩
theorem row_nat {c : CO} {b : Nat} (hb : b < c.2.1) (h : Rg c.2.1 c.1) : ∃ j, j < 1000 ∧ c.1.2 b 4 = nI j := by
  obtain ⟨r0, r1, r2, r3, r4⟩ := h.2.2 b hb
  unfold rng at r4
  refine ⟨(c.1.2 b 4).toInt.toNat, by omega, ?_⟩
  rw [ieq, nI_int (by omega)]
  omega
theorem RM.jb {S : SS} {c : CO} {w : Wd} {n : Nat} (h : RM (c, S.2) w) (hr : Rg c.2.1 c.1) (hn : n < 1000) : ∃ w', f6_joyBehind 75 (nI n) w = some (joyM (goC S.2.1 c n), w') ∧ RM (goC S.2.1 c n, S.2) w' ∧ Fr TP w w' := by
  obtain ⟨w', a1, a2, a3⟩ := h.goes hr hn
  refine ⟨w', ?_, a2, a3⟩
  unfold f6_joyBehind
  rw [ck_pos h.1.1.t, a1, Option.bind_some]
  dsimp only
  rw [joy_ref a2.1]
  rfl
/-! share -/
theorem two_k (x : Int32) (h : 0 ≤ x ∧ x ≤ 1) : ∃ k, k < 2 ∧ x = nI k := by
  refine inum h.1 ?_ (by decide)
  have := h.2
  rw [ile, show (1 : Int32).toInt = 1 from rfl] at this
  rw [ilt, show (nI 2).toInt = 2 from rfl]
  omega
def shareA (S : SS) (b n pt : Nat) : Int64 := if joyM (goC S.2.1 S.1 n) = 0 then -4611686018427387904 else lowA ((goC S.2.1 S.1 n).1.2 b 4).toInt.toNat (joyM (goC S.2.1 S.1 n)).toInt.toNat pt
theorem toNat_nI {j : Nat} (h : j < 2 ^ 31) : (nI j).toInt.toNat = j := by rw [nI_int h]; rfl
theorem share_pair (b n p : Int32) : Pair (f5_share 32 b n p) (f6_share 75 b n p) := pair_of fun S hS => by
  have hm := hS.1.1
  rcases bcase b hm with ⟨k, hk, rfl⟩ | hb
  · rcases within2 n 0 40 with ⟨hn, en⟩ | ⟨hn, en⟩
    · rcases within2 p 0 1 with ⟨hp, ep⟩ | ⟨hp, ep⟩
      · obtain ⟨m, hm40, rfl⟩ := upto40 n hn
        obtain ⟨pt, hpt, rfl⟩ := two_k p hp
        have hk' : k < (goC S.2.1 S.1 m).2.1 := by rw [goC_2]; exact hk
        have hrg := goC_rg (T := S.2.1) hS.rg m
        obtain ⟨j, hj, ej⟩ := joyM_nat (by rw [goC_2]; exact hm) hrg
        obtain ⟨o, ho, eo⟩ := row_nat hk' hrg
        have eA : shareA S k m pt = if j = 0 then -4611686018427387904 else lowA o j pt := by
          unfold shareA
          rw [ej, eo, toNat_nI (by omega), toNat_nI (by omega)]
          by_cases j0 : j = 0
          · rw [if_pos (by rw [j0]; rfl), if_pos j0]
          · rw [if_neg (fun z => j0 ((nI_eq0 (by omega)).mp z)), if_neg j0]
        refine ⟨(shareA S k m pt, S), fun w h => ?_, fun w h => ?_, hS⟩
        · obtain ⟨w1, a1, a2, a3⟩ := h.think
          obtain ⟨w2, b1, b2, b3⟩ := a2.behind (n := m) (by omega)
          obtain ⟨e1, e2, e3, e4, e5, e6, e7, e8, e9⟩ := b2.bat hk'
          refine ⟨w2, ?_, b2.1, jcM (a3.tr b3)⟩
          unfold f5_share
          rw [ck_pos h.t, h.r3, ck_pos h.t42, has_1 h.hc hk, Option.bind_some, if_neg (show ¬ (1 : Int32) = 0 by decide)]
          dsimp only
          rw [(en w).2, Option.bind_some, if_neg (show ¬ (1 : Int32) = 0 by decide)]
          dsimp only
          rw [(ep w).2, Option.bind_some, if_neg (show ¬ (1 : Int32) = 0 by decide)]
          dsimp only
          rw [a1, Option.bind_some]
          dsimp only
          rw [b1, Option.bind_some]
          dsimp only
          rw [e8, ck_pos e9, e1, e3, ck_pos (And.intro e2 e6), e7, e4, ck_pos e5, b2.2.1.row hk' (by decide : 4 < 5), eo, ej, eA]
          by_cases j0 : j = 0
          · rw [if_pos j0, j0]
            rfl
          · rw [if_neg j0, low_c (by omega) (by omega) (by omega) hpt]
            rfl
        · obtain ⟨w1, a1, a2, a3, a4⟩ := h.keeps
          obtain ⟨w2, b1, b2, b3⟩ := RM.jb (S := S) (c := S.1) (n := m) a2 hS.rg (by omega)
          obtain ⟨w3, c1, c2, c3⟩ := b2.laysGo (a3.tp b3)
          obtain ⟨cb, c0, i1, i2, vb, v0, v1, v2⟩ := idx6 (b := k) (by omega)
          have a := b2.1.1
          refine ⟨w3, ?_, c2, kpC ((a4.tr (b3.mono fun _ => Or.inl)).tr c3)⟩
          unfold f6_share
          rw [ck_pos h.1.1.t, one_1 h.1 hk, Option.bind_some, if_neg (show ¬ (1 : Int32) = 0 by decide)]
          dsimp only
          rw [(en w).1, Option.bind_some, if_neg (show ¬ (1 : Int32) = 0 by decide)]
          dsimp only
          rw [(ep w).1, Option.bind_some, if_neg (show ¬ (1 : Int32) = 0 by decide)]
          dsimp only
          rw [a1, Option.bind_some]
          dsimp only
          rw [b1, Option.bind_some]
          dsimp only
          rw [a.r3, a.l3, i3, i3_2, ck_pos (And.intro a.t3 v2), i2, c1, Option.bind_some, (b2.1.2.2.2.2.1 k hk').2.2.2.2]
          dsimp only
          rw [ej, eo, eA]
          by_cases j0 : j = 0
          · rw [if_pos (by rw [j0]; rfl), if_pos j0]
          · rw [if_neg (fun z => j0 ((nI_eq0 (by omega)).mp z)), if_neg j0, nI_long (by omega), nI_long (by omega), low_m (by omega) (by omega) (by omega) hpt]
            rfl
      · refine ⟨(-4611686018427387904, S), fun w h => ⟨w, ?_, h, OffM.rf⟩, fun w h => ⟨w, ?_, h, OffC.rf⟩, hS⟩
        · unfold f5_share
          rw [ck_pos h.t, h.r3, ck_pos h.t42, has_1 h.hc hk, Option.bind_some, if_neg (show ¬ (1 : Int32) = 0 by decide)]
          dsimp only
          rw [(en w).2, Option.bind_some, if_neg (show ¬ (1 : Int32) = 0 by decide)]
          dsimp only
          rw [(ep w).2, Option.bind_some, if_pos rfl]
        · unfold f6_share
          rw [ck_pos h.1.1.t, one_1 h.1 hk, Option.bind_some, if_neg (show ¬ (1 : Int32) = 0 by decide)]
          dsimp only
          rw [(en w).1, Option.bind_some, if_neg (show ¬ (1 : Int32) = 0 by decide)]
          dsimp only
          rw [(ep w).1, Option.bind_some, if_pos rfl]
    · refine ⟨(-4611686018427387904, S), fun w h => ⟨w, ?_, h, OffM.rf⟩, fun w h => ⟨w, ?_, h, OffC.rf⟩, hS⟩
      · unfold f5_share
        rw [ck_pos h.t, h.r3, ck_pos h.t42, has_1 h.hc hk, Option.bind_some, if_neg (show ¬ (1 : Int32) = 0 by decide)]
        dsimp only
        rw [(en w).2, Option.bind_some, if_pos rfl]
      · unfold f6_share
        rw [ck_pos h.1.1.t, one_1 h.1 hk, Option.bind_some, if_neg (show ¬ (1 : Int32) = 0 by decide)]
        dsimp only
        rw [(en w).1, Option.bind_some, if_pos rfl]
  · refine ⟨(-4611686018427387904, S), fun w h => ⟨w, ?_, h, OffM.rf⟩, fun w h => ⟨w, ?_, h, OffC.rf⟩, hS⟩
    · unfold f5_share
      rw [ck_pos h.t, h.r3, ck_pos h.t42, has_0 h.hc hb]
      rfl
    · unfold f6_share
      rw [ck_pos h.1.1.t, one_0 h.1 hb]
      rfl
