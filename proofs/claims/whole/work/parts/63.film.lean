/-! film -/
theorem shS_in (S : SS) (s : Nat) (c : CO) (p q : Int32 × List Int32) : shS (c, (shS S s p).2) s q = (c, (shS S s q).2) := by
  unfold shS
  dsimp only
  have : (fun t => if t = s then q else if t = s then p else S.2.2.2.2 t) = fun t => if t = s then q else S.2.2.2.2 t := by
    funext t
    split
    · rfl
    · rfl
  rw [this]
theorem shS_s40 {S : SS} (hS : SI S) (s : Nat) (c : CO) {p : Int32 × List Int32} (h : p.2.length ≤ 40) : ∀ t, t < 4 → ((c, (shS S s p).2).2.2.2.2 t).2.length ≤ 40 := by
  intro t ht
  show ((shS S s p).2.2.2.2 t).2.length ≤ 40
  by_cases e : t = s
  · rw [e, shS_at]; exact h
  · rw [shS_ne S p e]; exact hS.s40 t ht
theorem cell_r {S : SS} {w : Wd} {s i : Nat} {v : Int32} (h : RM S w) (h40 : ∀ t, t < 4 → (S.2.2.2.2 t).2.length ≤ 40) (hs : s < 4) (hi : i < 40) : RM (shS S s ((S.2.2.2.2 s).1, setL (rowL S s) i v)) (sI w 87 (40 * s + i) v) := by
  obtain ⟨s1, s2, s3, s4, s5, s6⟩ := h.sh hs
  have hF : Fr CP w (sI w 87 (40 * s + i) v) := Fr.sI (Or.inr (Or.inr rfl))
  refine rmSheet h h40 hF (fun _ => rfl) ?_ ?_ (fun k x hx => ?_) (fun t ht e => ⟨wi_sI_ne (by decide) _, wi_sI_ne (by decide) _, fun k hk => ?_⟩)
  · rw [wi_sI_ne (by decide)]; exact s4
  · rw [wi_sI_ne (by decide), setL_len]; exact s5
  · rw [wi_sI]
    rcases setL_at hx with ⟨e1, e2⟩ | ⟨e1, e2⟩
    · rw [if_pos ⟨rfl, by rw [e1]⟩, e2]
    · rw [if_neg (fun z => e1 (by omega))]
      exact s6 k x e2
  · rw [wi_sI, if_neg (fun z => by omega)]
def wmF (S : SS) (b k : Nat) : Int32 := (goC S.2.1 S.1 k).1.2 b 3
def flF (S : SS) (b n : Nat) : Nat → List Int32
  | 0 => rowZ n
  | i + 1 => setL (flF S b n i) i (wmF S b (i + 1))
theorem flF_len (S : SS) (b n : Nat) : ∀ i, (flF S b n i).length = n
  | 0 => List.length_replicate
  | i + 1 => (setL_len _ _ _).trans (flF_len S b n i)
theorem setL_get {l : List Int32} {i : Nat} {v : Int32} (h : i < l.length) : (setL l i v)[i]? = some v := by
  unfold setL
  rw [List.getElem?_set_self h]
theorem setL_get_ne {l : List Int32} {i k : Nat} {v : Int32} (h : k ≠ i) : (setL l i v)[k]? = l[k]? := by
  unfold setL
  rw [List.getElem?_set_ne (fun z => h z.symm)]
theorem flF_at (S : SS) (b n : Nat) : ∀ i j, j < i → j < n → (flF S b n i)[j]? = some (wmF S b (j + 1))
  | 0, _, h, _ => absurd h (Nat.not_lt_zero _)
  | i + 1, j, h, hn => by
    unfold flF
    by_cases e : j = i
    · rw [e]
      exact setL_get (by rw [flF_len]; omega)
    · rw [setL_get_ne e]
      exact flF_at S b n i j (by omega) hn
theorem wm_16 {S : SS} {b k : Nat} (hS : SI S) (hb : b < S.1.2.1) : (wmF S b k).toInt16.toInt32 = wmF S b k := by
  have := (goC_rg (T := S.2.1) hS.rg k).2.2 b (by rw [goC_2]; exact hb)
  have h3 := this.2.2.2.1
  unfold rng at h3
  unfold wmF
  exact lg_i2s_small (by omega) (by omega)
theorem film_c {S : SS} {w : Wd} {s b n : Nat} (h : RC S w) (hS : SI S) (hs : s < 4) (hb : b < S.1.2.1) (hn : n ≤ 20) : ∃ w1 w2 w', f2_becomeRow (67 + 2 * s) 1 (nI n) w = some ((), w1) ∧ f5_think 32 w1 = some ((), w2) ∧ loopF b5_film_59 FU (32, nI b, nI n, 67 + 2 * s, (0 : Int32)) w2 = some (nI n, w') ∧ RC (shS S s (1, flF S b n n)) w' ∧ OffM w w' := by
  obtain ⟨w1, a1, a2, a3⟩ := row_c (so := 1) (n := n) h hs (by omega)
  obtain ⟨w2, b1, b2, b3⟩ := a2.think
  have key : ∃ w', loopF b5_film_59 FU (32, nI b, nI n, 67 + 2 * s, (0 : Int32)) w2 = some (nI n, w') ∧ RC (shS S s (1, flF S b n n)) w' ∧ OffM w w' := by
    refine loopE (R := fun o => ∃ w', o = some (nI n, w') ∧ RC (shS S s (1, flF S b n n)) w' ∧ OffM w w') (I := fun i v w3 => v = (32, nI b, nI n, 67 + 2 * s, nI i) ∧ TC (shS S s (1, flF S b n i)) (goC S.2.1 S.1 i) w3 ∧ OffM w w3) n ?_ ?_ FU _ w2 (by show n < 1000; omega) ⟨rfl, b2, (spM hs a3).tr (jcM b3)⟩
    · intro i v w3 hi hI
      obtain ⟨rfl, i1, i2⟩ := hI
      obtain ⟨w4, c1, c2, c3⟩ := i1.min
      have hb' : b < (goC S.2.1 S.1 (i + 1)).2.1 := by rw [goC_2]; exact hb
      have c2' : TC (shS S s (1, flF S b n i)) (goC S.2.1 S.1 (i + 1)) w4 := c2
      obtain ⟨e1, e2, e3, e4, e5, e6, e7, e8, e9⟩ := c2'.bat hb'
      obtain ⟨t1, t2, t3, t4, t5, t6, t7, t8, t9, t10, t11, t12, t13⟩ := c2.1.sh hs
      have hrow : rowL (shS S s (1, flF S b n i)) s = flF S b n i := by unfold rowL; rw [shS_at]
      have hso : ((shS S s (1, flF S b n i)).2.2.2.2 s).1 = 1 := by rw [shS_at]
      obtain ⟨w5, d1, d2, d3, d4⟩ := write_c (i := i) (v := wmF S b (i + 1)) c2.1 hs (by rw [hrow, flF_len]; omega) (by rw [hrow, flF_len]; exact hi)
      rw [hso, hrow, shS_2] at d2
      have hcv : cvS 1 (wmF S b (i + 1)) = wmF S b (i + 1) := by
        unfold cvS
        rw [if_neg (by decide), if_pos rfl, wm_16 hS hb]
      rw [hcv] at d2
      have hA : HutA w5 50 (goC S.2.1 S.1 (i + 1)) S.2.1 := HutA.frP c2'.2 c2.1.2.2.1 d3 (fun q x y z => by unfold SP at z; omega) (sp_tx hs)
      refine ⟨(32, nI b, nI n, 67 + 2 * s, nI (i + 1)), w5, ⟨rfl, ⟨d2, hA⟩, i2.tr ((jcM c3).tr (spM hs d3))⟩, fun k => ?_⟩
      have hrw : wi w4 (50 + 2 + b) 3 = wmF S b (i + 1) := c2'.2.1.row hb' (by decide : 3 < 5)
      unfold b5_film_59
      dsimp only
      rw [if_neg (nI_ge hi (by omega)), ck_pos i1.1.t, i1.1.1.1.2.2.2.2.1, ck_pos i1.2.1.tgA, c1, Option.bind_some]
      dsimp only
      rw [e8, ck_pos e9, e1, e3, ck_pos (And.intro e2 e6), e7, e4, ck_pos e5, ck_pos t5, hrw, d1, Option.bind_some, i3_1]
    · intro v w3 hI k
      obtain ⟨rfl, i1, i2⟩ := hI
      refine ⟨w3, ?_, i1.1, i2⟩
      unfold b5_film_59
      dsimp only
      rw [if_pos (Int32.le_refl _)]
  obtain ⟨w', k1, k2, k3⟩ := key
  exact ⟨w1, w2, w', a1, b1, k1, k2, k3⟩
theorem film_r {S : SS} {w : Wd} {s b n : Nat} (h : RM S w) (hS : SI S) (hs : s < 4) (hb : b < S.1.2.1) (hn : n ≤ 20) : ∃ w1 w', f6_keeps 75 (sI (sI w 85 s 1) 86 s (nI n)) = some ((), w1) ∧ loopF b6_film_57 FU (75, nI s, nI b, nI n, (0 : Int32)) w1 = some (nI n, w') ∧ RM (shS S s (1, flF S b n n)) w' ∧ OffC w w' := by
  have hm6 := hS.1.1
  have hr := hS.rg
  obtain ⟨cb, c0, c1, c2, vb, v0, v1, v2⟩ := idx6 (b := b) (by omega)
  obtain ⟨l0, hl0, hg0⟩ : ∃ l : List Int32, l.length = n ∧ ∀ k x, l[k]? = some x → wi w 87 (40 * s + k) = x := by
    refine ⟨(List.range n).map fun k => wi w 87 (40 * s + k), by rw [List.length_map, List.length_range], fun k x hx => ?_⟩
    have hk := (List.getElem?_eq_some_iff.mp hx).1
    rw [List.length_map, List.length_range] at hk
    rw [List.getElem?_map, List.getElem?_range hk] at hx
    exact Option.some.inj hx
  have F0 : Fr CP w (sI (sI w 85 s 1) 86 s (nI n)) := (Fr.sI (Or.inl rfl)).tr (Fr.sI (Or.inr (Or.inl rfl)))
  have R0 : RM (shS S s (1, l0)) (sI (sI w 85 s 1) 86 s (nI n)) := by
    refine rmSheet h hS.s40 F0 (fun _ => rfl) ?_ ?_ (fun k x hx => ?_) (fun t ht e => ⟨?_, ?_, fun k hk => ?_⟩)
    · rw [wi_sI_ne (by decide), wi_at]
    · rw [wi_at, hl0]
    · rw [wi_sI_ne (by decide), wi_sI_ne (by decide)]; exact hg0 k x hx
    · rw [wi_sI_ne (by decide), wi_sI, if_neg (fun z => e z.2)]
    · rw [wi_sI, if_neg (fun z => e z.2), wi_sI_ne (by decide)]
    · rw [wi_sI_ne (by decide), wi_sI_ne (by decide)]
  obtain ⟨w1, a1, a2, a3, a4⟩ := R0.keeps
  have key : ∃ w', loopF b6_film_57 FU (75, nI s, nI b, nI n, (0 : Int32)) w1 = some (nI n, w') ∧ RM (shS S s (1, flF S b n n)) w' ∧ OffC w w' := by
    refine loopE (R := fun o => ∃ w', o = some (nI n, w') ∧ RM (shS S s (1, flF S b n n)) w' ∧ OffC w w') (I := fun k v w2 => v = (75, nI s, nI b, nI n, nI k) ∧ (∃ l, (l.length = n ∧ ∀ j, j < k → j < n → l[j]? = some (wmF S b (j + 1))) ∧ RM (goC S.2.1 S.1 (min k n), (shS S s (1, l)).2) w2) ∧ KM w2 S.1.2.1 S.1.1 ∧ OffC w w2) 40 ?_ ?_ FU _ w1 (by decide) ⟨rfl, ⟨l0, ⟨hl0, fun j hj => absurd hj (Nat.not_lt_zero j)⟩, by rw [Nat.zero_min]; exact a2⟩, a3, (cpC F0).tr (kpC a4)⟩
    · intro k v w2 hk hI
      obtain ⟨rfl, ⟨l, ⟨hl, hg⟩, i1⟩, i2, i3'⟩ := hI
      have aa := i1.1.1
      have z1 := cell_r (v := 0) i1 (shS_s40 hS s _ (by rw [hl]; omega)) hs hk
      have e1 : ((goC S.2.1 S.1 (min k n), (shS S s (1, l)).2).2.2.2.2 s).1 = 1 := by
        show ((shS S s (1, l)).2.2.2.2 s).1 = 1
        rw [shS_at]
      have e2 : rowL (goC S.2.1 S.1 (min k n), (shS S s (1, l)).2) s = l := by
        show ((shS S s (1, l)).2.2.2.2 s).2 = l
        rw [shS_at]
      rw [e1, e2, shS_in] at z1
      have o1 : OffC w2 (sI w2 87 (40 * s + k) 0) := cpC (Fr.sI (Or.inr (Or.inr rfl)))
      have K1 : KM (sI w2 87 (40 * s + k) 0) S.1.2.1 S.1.1 := i2.fr (P := fun q => q = 87) (Fr.sI rfl) (by decide)
      have v87 : vp_in (nI (40 * s + k)) 160 := vin (by omega) (by decide)
      have c87 : (nI (40 * s + k)).toNatClampNeg = 40 * s + k := nI_clamp (by omega)
      have e110 : ∀ (kk : Nat × Int32 × Int32 × Int32 × Int32 → Wd → Option (Int32 × Wd)) w3, j6_film_110 kk 75 (nI s) (nI b) (nI n) (nI k) w3 = kk (75, nI s, nI b, nI n, nI (k + 1)) w3 := by
        intro kk w3
        unfold j6_film_110
        rw [i3_1]
      by_cases hkn : k < n
      · obtain ⟨w3, b1, b2, b3⟩ := RM.min (S := shS S s (1, setL l k 0)) z1 (goC_rg hr _)
        have hmin : minC S.2.1 (goC S.2.1 S.1 (min k n)) = goC S.2.1 S.1 (k + 1) := by rw [Nat.min_eq_left (by omega)]; rfl
        have b2' : RM (goC S.2.1 S.1 (k + 1), (shS S s (1, setL l k 0)).2) w3 := by
          rw [← hmin]
          exact b2
        have z2 := cell_r (i := k) (v := wmF S b (k + 1)) b2' (shS_s40 hS s _ (by rw [setL_len, hl]; omega)) hs hk
        have e3 : ((goC S.2.1 S.1 (k + 1), (shS S s (1, setL l k 0)).2).2.2.2.2 s).1 = 1 := by
          show ((shS S s (1, setL l k 0)).2.2.2.2 s).1 = 1
          rw [shS_at]
        have e4 : rowL (goC S.2.1 S.1 (k + 1), (shS S s (1, setL l k 0)).2) s = setL l k 0 := by
          show ((shS S s (1, setL l k 0)).2.2.2.2 s).2 = setL l k 0
          rw [shS_at]
        rw [e3, e4, shS_in] at z2
        have hb' : b < (goC S.2.1 S.1 (k + 1)).2.1 := by rw [goC_2]; exact hb
        have bb := b2'.1.1
        have o2 : OffC w3 (sI w3 87 (40 * s + k) (wmF S b (k + 1))) := cpC (Fr.sI (Or.inr (Or.inr rfl)))
        refine ⟨(75, nI s, nI b, nI n, nI (k + 1)), sI w3 87 (40 * s + k) (wmF S b (k + 1)), ⟨rfl, ⟨setL (setL l k 0) k (wmF S b (k + 1)), ⟨by rw [setL_len, setL_len]; exact hl, fun j hj hjn => ?_⟩, by rw [Nat.min_eq_left (by omega)]; exact z2⟩, (K1.tp b3).fr (P := fun q => q = 87) (Fr.sI rfl) (by decide), i3'.tr (o1.tr ((tpC b3).tr o2))⟩, fun kk => ?_⟩
        · by_cases e : j = k
          · rw [e]
            exact setL_get (l := setL l k 0) (by rw [setL_len, hl]; exact hkn)
          · rw [setL_get_ne e, setL_get_ne e]
            exact hg j (by omega) hjn
        · have hwm : wi w3 78 (3 * b + 1) = wmF S b (k + 1) := (b2'.1.2.2.2.2.1 b hb').2.2.2.1
          unfold b6_film_57 lw
          dsimp only
          rw [if_neg (show ¬ (40 : Int32) ≤ nI k from nI_ge (b := 40) hk (by omega)), ck_pos aa.t, aa.r16, aa.l16, i40, nI_add, ck_pos (And.intro aa.t16 v87), c87, if_neg (nI_ge hkn (by omega)), b1, Option.bind_some]
          dsimp only
          rw [bb.r3, bb.l3, i3, i3_1, ck_pos (And.intro bb.t3 v1), c1, bb.r16, bb.l16, ck_pos (And.intro bb.t16 v87), hwm, e110]
      · have hset : setL l k 0 = l := by unfold setL; exact List.set_eq_of_length_le (by omega)
        rw [hset] at z1
        refine ⟨(75, nI s, nI b, nI n, nI (k + 1)), sI w2 87 (40 * s + k) 0, ⟨rfl, ⟨l, ⟨hl, fun j hj hjn => hg j (by omega) hjn⟩, ?_⟩, K1, i3'.tr o1⟩, fun kk => ?_⟩
        · rw [Nat.min_eq_right (by omega)]
          rw [Nat.min_eq_right (by omega)] at z1
          exact z1
        · unfold b6_film_57 lw
          dsimp only
          rw [if_neg (show ¬ (40 : Int32) ≤ nI k from nI_ge (b := 40) hk (by omega)), ck_pos aa.t, aa.r16, aa.l16, i40, nI_add, ck_pos (And.intro aa.t16 v87), c87, if_pos (by rw [ile, nI_int (by omega), nI_int (by omega)]; omega), e110]
    · intro v w2 hI k
      obtain ⟨rfl, ⟨l, ⟨hl, hg⟩, i1⟩, i2, i3'⟩ := hI
      have hlf : l = flF S b n n := by
        apply List.ext_getElem?
        intro j
        by_cases hj : j < n
        · rw [hg j (by omega) hj, flF_at S b n n j hj hj]
        · rw [List.getElem?_eq_none (by omega), List.getElem?_eq_none (by rw [flF_len]; omega)]
      rw [hlf] at i1
      obtain ⟨w', d1, d2, d3⟩ := RM.lays (S := shS S s (1, flF S b n n)) i1 i2 (goC_2 _ _ _) (goC_kind _ _ _)
      refine ⟨w', ?_, d2, i3'.tr (kpC d3)⟩
      unfold b6_film_57
      dsimp only
      rw [if_pos (show (40 : Int32) ≤ nI 40 by decide), ck_pos i1.1.1.t, d1]
      rfl
  obtain ⟨w', k1, k2, k3⟩ := key
  exact ⟨w1, w', a1, k1, k2, k3⟩
theorem film_pair (x b n : Int32) : Pair (f5_film 32 x b n) (f6_film 75 x b n) := pair_of fun S hS => by
  rcases sheet_case x with ⟨s, hs, rfl, e⟩ | e
  · rcases bcase b hS.1.1 with ⟨k, hk, rfl⟩ | hb
    · rcases within2 n 0 20 with ⟨hn, en⟩ | ⟨hn, en⟩
      · obtain ⟨N, hN, rfl⟩ := upto n (m := 20) rfl (by decide) hn
        refine ⟨(nI N, shS S s (1, flF S k N N)), fun w h => ?_, fun w h => ?_, hS.sheet (show rng (1 : Int32) (-1) 2 from ⟨by decide, by decide⟩) (by rw [flF_len]; omega) fun z => absurd (show (1 : Int32) = -1 from z) (by decide)⟩
        · obtain ⟨w1, w2, w', a1, a2, a3, a4, a5⟩ := film_c h hS hs hk hN
          obtain ⟨s1, s2, s3, s4, s5, s6, s7, s8, s9, s10, s11, s12, s13⟩ := h.sh hs
          refine ⟨w', ?_, a4, a5⟩
          unfold f5_film
          rw [(e w).1, Option.bind_some, if_neg (show ¬ (1 : Int32) = 0 by decide)]
          dsimp only
          rw [ck_pos h.t, h.r3, ck_pos h.t42, has_1 h.hc hk, Option.bind_some, if_neg (show ¬ (1 : Int32) = 0 by decide)]
          dsimp only
          rw [(en w).2, Option.bind_some, if_neg (show ¬ (1 : Int32) = 0 by decide)]
          dsimp only
          rw [s1, s3, ck_pos (And.intro s2 s9), s10, s4, ck_pos s5, a1, Option.bind_some]
          dsimp only
          rw [a2, Option.bind_some]
          exact a3
        · obtain ⟨w1, w', a1, a2, a3, a4⟩ := film_r h hS hs hk hN
          obtain ⟨s1, s2, s3, s4, s5, s6⟩ := h.sh hs
          have t2 : tg (sI w 85 s 1) 86 = 20 ∧ vp_in (nI s) (ln (sI w 85 s 1) 86) := s2
          refine ⟨w', ?_, a3, a4⟩
          unfold f6_film lw
          rw [(e w).2, Option.bind_some, if_neg (show ¬ (1 : Int32) = 0 by decide)]
          dsimp only
          rw [ck_pos h.1.1.t, one_1 h.1 hk, Option.bind_some, if_neg (show ¬ (1 : Int32) = 0 by decide)]
          dsimp only
          rw [(en w).1, Option.bind_some, if_neg (show ¬ (1 : Int32) = 0 by decide)]
          dsimp only
          rw [h.1.1.r14, ck_pos s1, s3, wr_sI, h.1.1.r15, ck_pos t2, a1, Option.bind_some]
          exact a2
      · refine ⟨(-7, S), fun w h => ⟨w, ?_, h, OffM.rf⟩, fun w h => ⟨w, ?_, h, OffC.rf⟩, hS⟩
        · unfold f5_film
          rw [(e w).1, Option.bind_some, if_neg (show ¬ (1 : Int32) = 0 by decide)]
          dsimp only
          rw [ck_pos h.t, h.r3, ck_pos h.t42, has_1 h.hc hk, Option.bind_some, if_neg (show ¬ (1 : Int32) = 0 by decide)]
          dsimp only
          rw [(en w).2, Option.bind_some, if_pos rfl]
        · unfold f6_film
          rw [(e w).2, Option.bind_some, if_neg (show ¬ (1 : Int32) = 0 by decide)]
          dsimp only
          rw [ck_pos h.1.1.t, one_1 h.1 hk, Option.bind_some, if_neg (show ¬ (1 : Int32) = 0 by decide)]
          dsimp only
          rw [(en w).1, Option.bind_some, if_pos rfl]
    · refine ⟨(-5, S), fun w h => ⟨w, ?_, h, OffM.rf⟩, fun w h => ⟨w, ?_, h, OffC.rf⟩, hS⟩
      · unfold f5_film
        rw [(e w).1, Option.bind_some, if_neg (show ¬ (1 : Int32) = 0 by decide)]
        dsimp only
        rw [ck_pos h.t, h.r3, ck_pos h.t42, has_0 h.hc hb]
        rfl
      · unfold f6_film
        rw [(e w).2, Option.bind_some, if_neg (show ¬ (1 : Int32) = 0 by decide)]
        dsimp only
        rw [ck_pos h.1.1.t, one_0 h.1 hb]
        rfl
  · refine ⟨(-2, S), fun w h => ⟨w, ?_, h, OffM.rf⟩, fun w h => ⟨w, ?_, h, OffC.rf⟩, hS⟩
    · unfold f5_film
      rw [(e w).1, Option.bind_some, if_pos rfl]
    · unfold f6_film
      rw [(e w).2, Option.bind_some, if_pos rfl]
