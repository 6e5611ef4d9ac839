/-! sheets -/
def shS (S : SS) (s : Nat) (p : Int32 × List Int32) : SS := (S.1, S.2.1, S.2.2.1, S.2.2.2.1, fun t => if t = s then p else S.2.2.2.2 t)
theorem shS_at (S : SS) (s : Nat) (p : Int32 × List Int32) : (shS S s p).2.2.2.2 s = p := if_pos rfl
theorem shS_ne (S : SS) {s t : Nat} (p : Int32 × List Int32) (h : t ≠ s) : (shS S s p).2.2.2.2 t = S.2.2.2.2 t := if_neg h
theorem shS_2 (S : SS) (s : Nat) (p q : Int32 × List Int32) : shS (shS S s p) s q = shS S s q := by
  unfold shS
  dsimp only
  have : (fun t => if t = s then q else if t = s then p else S.2.2.2.2 t) = fun t => if t = s then q else S.2.2.2.2 t := by
    funext t
    split
    · rfl
    · rfl
  rw [this]
theorem SI.sheet {S : SS} {s : Nat} {p : Int32 × List Int32} (h : SI S) (h1 : rng p.1 (-1) 2) (h2 : p.2.length ≤ 40) (h3 : p.1 = -1 → p.2 = []) : SI (shS S s p) := by
  obtain ⟨a1, a2, a3, a4, a5⟩ := h
  refine ⟨a1, a2, a3, a4, fun t ht => ?_⟩
  by_cases e : t = s
  · rw [e, shS_at]; exact ⟨h1, h2, h3⟩
  · rw [shS_ne S p e]; exact a5 t ht
theorem SI.sort {S : SS} (h : SI S) {s : Nat} (hs : s < 4) : rng (S.2.2.2.2 s).1 (-1) 2 := (h.2.2.2.2 s hs).1
def SP (s q : Nat) : Prop := q = 67 + 2 * s ∨ q = 68 + 2 * s
theorem spM {s : Nat} (hs : s < 4) {w w' : Wd} (h : Fr (SP s) w w') : OffM w w' := h.offM fun q a b z => by unfold SP at z; omega
theorem sp_tx {s : Nat} (hs : s < 4) (t j : Nat) (hj : j < 2) : ¬ SP s (txL t + j) := by
  unfold SP txL
  split <;> omega
theorem rcSheet {S : SS} {w w' : Wd} {s : Nat} {p : Int32 × List Int32} (h : RC S w) (hs : s < 4) (hF : Fr (SP s) w w') (hw : ∀ q, wr w' q = wr w q) (h1 : wi w' (67 + 2 * s) 0 = p.1) (h2 : wi w' (67 + 2 * s) 1 = nI p.2.length) (h3 : ∀ k x, p.2[k]? = some x → wi w' (68 + 2 * s) k = x) : RC (shS S s p) w' := by
  obtain ⟨L, a1, t1, ⟨p1, p2⟩, ⟨i1, i2⟩, c1⟩ := h
  have g : ∀ q, ¬ SP s q → ∀ k, wi w' q k = wi w q k := fun q hq => (hF.2.2 q hq).1
  refine ⟨L.same hF.1 hw, a1.frP t1 hF (fun q a b z => by unfold SP at z; omega) (sp_tx hs), t1.frP hF (sp_tx hs) (g 32 (by unfold SP; omega) 2) (fun k => by rw [hw]), ⟨?_, fun j b hb => ?_⟩, ⟨?_, fun c hc => (i2 c hc).frP t1 hF (fun q a b z => by unfold SP at z; omega) (sp_tx hs)⟩, fun t ht => ?_⟩
  · rw [g 33 (by unfold SP; omega)]; exact p1
  · rw [g 34 (by unfold SP; omega)]; exact p2 j b hb
  · rw [g 32 (by unfold SP; omega)]; exact i1
  · by_cases e : t = s
    · subst e
      rw [shS_at]
      exact ⟨h1, h2, h3⟩
    · rw [shS_ne S p e, g (67 + 2 * t) (by unfold SP; omega), g (67 + 2 * t) (by unfold SP; omega)]
      exact ⟨(c1 t ht).1, (c1 t ht).2.1, fun k x hx => by rw [g (68 + 2 * t) (by unfold SP; omega)]; exact (c1 t ht).2.2 k x hx⟩
def CP (q : Nat) : Prop := q = 85 ∨ q = 86 ∨ q = 87
theorem cpC {w w' : Wd} (h : Fr CP w w') : OffC w w' := h.offC fun q z => by unfold CP at z; omega
theorem rmSheet {S : SS} {w w' : Wd} {s : Nat} {p : Int32 × List Int32} (h : RM S w) (h40 : ∀ t, t < 4 → (S.2.2.2.2 t).2.length ≤ 40) (hF : Fr CP w w') (hw : ∀ q, wr w' q = wr w q) (h1 : wi w' 85 s = p.1) (h2 : wi w' 86 s = nI p.2.length) (h3 : ∀ k x, p.2[k]? = some x → wi w' 87 (40 * s + k) = x) (ho : ∀ t, t < 4 → t ≠ s → wi w' 85 t = wi w 85 t ∧ wi w' 86 t = wi w 86 t ∧ ∀ k, k < 40 → wi w' 87 (40 * t + k) = wi w 87 (40 * t + k)) : RM (shS S s p) w' := by
  obtain ⟨⟨⟨l1, l2⟩, a2, a3, a4, a5, a6, a7, a8, a9⟩, ⟨b1, b2⟩, ⟨c1, c2⟩, ⟨d1, d2⟩, e1⟩ := h
  have n : ∀ q, ¬ CP q → ∀ k, wi w' q k = wi w q k := fun q hq => (hF.2.2 q hq).1
  have pm : ∀ {t F B G}, ProgM w t F B G → ProgM w' t F B G := by
    intro t F B G hp
    unfold ProgM at hp ⊢
    simp only [n 82 (by unfold CP; decide), n 81 (by unfold CP; decide)]
    exact hp
  refine ⟨⟨⟨by rw [hF.1]; exact l1, fun x hx => ⟨by rw [hw]; exact (l2 x hx).1, by rw [hF.1]; exact (l2 x hx).2⟩⟩, by rw [n 75 (by unfold CP; decide)]; exact a2, a3, fun k hk => by rw [n 79 (by unfold CP; decide)]; exact a4 k hk, fun b hb => by simp only [n 76 (by unfold CP; decide), n 77 (by unfold CP; decide), n 78 (by unfold CP; decide)]; exact a5 b hb, by rw [n 75 (by unfold CP; decide)]; exact a6, pm a7, a8, a9⟩, ⟨by rw [n 75 (by unfold CP; decide)]; exact b1, fun t ht => pm (b2 t ht)⟩, ⟨by rw [n 75 (by unfold CP; decide)]; exact c1, fun j b hb => by rw [n 80 (by unfold CP; decide)]; exact c2 j b hb⟩, ⟨by rw [n 75 (by unfold CP; decide)]; exact d1, fun c hc => by simp only [n 83 (by unfold CP; decide), n 84 (by unfold CP; decide)]; exact d2 c hc⟩, fun t ht => ?_⟩
  by_cases e : t = s
  · subst e
    rw [shS_at]
    exact ⟨h1, h2, h3⟩
  · rw [shS_ne S p e]
    obtain ⟨o1, o2, o3⟩ := ho t ht e
    rw [o1, o2]
    refine ⟨(e1 t ht).1, (e1 t ht).2.1, fun k x hx => ?_⟩
    have hk : k < (S.2.2.2.2 t).2.length := (List.getElem?_eq_some_iff.mp hx).1
    rw [o3 k (by have := h40 t ht; omega)]
    exact (e1 t ht).2.2 k x hx
theorem SI.s40 {S : SS} (h : SI S) : ∀ t, t < 4 → (S.2.2.2.2 t).2.length ≤ 40 := fun t ht => (h.2.2.2.2 t ht).2.1
theorem fill_c {w : Wd} {q n : Nat} {x : Int32} (hq : tg w q = 20) (hn : ln w q = n) (h : n < 1000) : ∃ w', fJ7_fill_53178 q x w = some ((), w') ∧ Fr (· = q) w w' ∧ (∀ a, wr w' a = wr w a) ∧ ∀ k, k < n → wi w' q k = x := by
  unfold fJ7_fill_53178
  rw [ck_pos hq, hn]
  refine loopE (R := fun o => ∃ w', o = some ((), w') ∧ Fr (· = q) w w' ∧ (∀ a, wr w' a = wr w a) ∧ ∀ k, k < n → wi w' q k = x) (I := fun i v w1 => v = (q, x, nI i, nI n) ∧ Fr (· = q) w w1 ∧ (∀ a, wr w1 a = wr w a) ∧ ∀ k, k < i → wi w1 q k = x) n ?_ ?_ FU _ w h ⟨rfl, Fr.rf, fun _ => rfl, fun k hk => absurd hk (Nat.not_lt_zero k)⟩
  · intro i v w1 hi hI
    obtain ⟨rfl, i1, i2, i3'⟩ := hI
    have t1 : tg w1 q = 20 := by unfold tg; rw [i1.1]; exact hq
    have l1 : ln w1 q = n := by unfold ln; rw [i1.1]; exact hn
    refine ⟨(q, x, nI (i + 1), nI n), sI w1 q i x, ⟨rfl, i1.tr frE, fun a => i2 a, fun k hk => ?_⟩, fun k => ?_⟩
    · rw [wi_sI]
      split
      · rfl
      · rename_i e
        exact i3' k (by omega)
    · unfold bJ7_fill_53178_5 lw
      dsimp only
      rw [if_neg (nI_ge hi (by omega)), l1, ck_pos (And.intro t1 (vin hi (by omega))), nI_clamp (by omega), i3_1]
  · intro v w1 hI k
    obtain ⟨rfl, i1, i2, i3'⟩ := hI
    refine ⟨w1, ?_, i1, i2, i3'⟩
    unfold bJ7_fill_53178_5
    dsimp only
    rw [if_pos (Int32.le_refl _)]
/-- a row of n, all 0 -/
def rowZ (n : Nat) : List Int32 := List.replicate n 0
theorem row_c {S : SS} {w : Wd} {s n : Nat} {so : Int32} (h : RC S w) (hs : s < 4) (hn : n ≤ 40) : ∃ w', f2_becomeRow (67 + 2 * s) so (nI n) w = some ((), w') ∧ RC (shS S s (so, rowZ n)) w' ∧ Fr (SP s) w w' := by
  obtain ⟨s1, s2, s3, s4, s5, s6, s7, s8, s9, s10, s11, s12, s13⟩ := h.sh hs
  generalize hw1 : sI (sI w (67 + 2 * s) 0 so) (67 + 2 * s) 1 (nI n) = w1
  have F1 : Fr (SP s) w w1 := by rw [← hw1]; exact (Fr.sI (Or.inl rfl)).tr (Fr.sI (Or.inl rfl))
  have r1 : ∀ q, wr w1 q = wr w q := fun q => by rw [← hw1]; rfl
  obtain ⟨w', b1, b2, b3, b4⟩ := fill_c (w := w1) (q := 68 + 2 * s) (n := 40) (x := 0) (by unfold tg; rw [F1.1]; exact s7) (by unfold ln; rw [F1.1]; exact s8) (by decide)
  have F2 : Fr (SP s) w w' := F1.tr (b2.mono fun q z => Or.inr z)
  refine ⟨w', ?_, rcSheet h hs F2 (fun q => (b3 q).trans (r1 q)) ?_ ?_ fun k x hx => ?_, F2⟩
  · unfold f2_becomeRow lw
    dsimp only
    rw [ck_pos s5, hw1, r1, s6, b1]
    rfl
  · rw [(b2.2.2 (67 + 2 * s) (by omega)).1, ← hw1, wi_sI, if_neg (fun z => absurd z.2 (by decide)), wi_at]
  · rw [(b2.2.2 (67 + 2 * s) (by omega)).1, ← hw1, wi_at]
    unfold rowZ
    rw [List.length_replicate]
  · unfold rowZ at hx
    obtain ⟨h1, h2⟩ := List.getElem?_eq_some_iff.mp hx
    rw [List.length_replicate] at h1
    rw [List.getElem_replicate] at h2
    rw [b4 k (by omega), h2]
theorem row_r {S : SS} {w : Wd} {s n : Nat} {so : Int32} (h : RM S w) (hS : SI S) (hs : s < 4) (hn : n ≤ 40) : ∃ w', loopF b6_sheet_70 FU (75, nI s, (0 : Int32)) (sI (sI w 85 s so) 86 s (nI n)) = some (1, w') ∧ RM (shS S s (so, rowZ n)) w' ∧ Fr CP w w' := by
  generalize hw1 : sI (sI w 85 s so) 86 s (nI n) = w1
  have F1 : Fr CP w w1 := by rw [← hw1]; exact (Fr.sI (Or.inl rfl)).tr (Fr.sI (Or.inr (Or.inl rfl)))
  have r1 : ∀ q, wr w1 q = wr w q := fun q => by rw [← hw1]; rfl
  have a1 := h.1.1
  have L1 : LayM w1 := ⟨by rw [F1.1]; exact a1.1, fun x hx => ⟨by rw [r1]; exact (a1.2 x hx).1, by rw [F1.1]; exact (a1.2 x hx).2⟩⟩
  have key : ∃ w', loopF b6_sheet_70 FU (75, nI s, (0 : Int32)) w1 = some (1, w') ∧ Fr (fun q => q = 87) w1 w' ∧ (∀ q, wr w' q = wr w1 q) ∧ (∀ k, k < 40 → wi w' 87 (40 * s + k) = 0) ∧ ∀ k, (k < 40 * s ∨ 40 * s + 40 ≤ k) → wi w' 87 k = wi w1 87 k := by
    refine loopE (R := fun o => ∃ w', o = some (1, w') ∧ Fr (fun q => q = 87) w1 w' ∧ (∀ q, wr w' q = wr w1 q) ∧ (∀ k, k < 40 → wi w' 87 (40 * s + k) = 0) ∧ ∀ k, (k < 40 * s ∨ 40 * s + 40 ≤ k) → wi w' 87 k = wi w1 87 k) (I := fun i v w2 => v = (75, nI s, nI i) ∧ Fr (fun q => q = 87) w1 w2 ∧ (∀ q, wr w2 q = wr w1 q) ∧ (∀ k, k < i → wi w2 87 (40 * s + k) = 0) ∧ ∀ k, (k < 40 * s ∨ 40 * s + 40 ≤ k) → wi w2 87 k = wi w1 87 k) 40 ?_ ?_ FU _ w1 (by decide) ⟨rfl, Fr.rf, fun _ => rfl, fun k hk => absurd hk (Nat.not_lt_zero k), fun _ _ => rfl⟩
    · intro i v w2 hi hI
      obtain ⟨rfl, i1, i2, i3', i4'⟩ := hI
      have b1 := L1.fr i1 (by decide)
      refine ⟨(75, nI s, nI (i + 1)), sI w2 87 (40 * s + i) 0, ⟨rfl, i1.tr (Fr.sI rfl), fun q => i2 q, fun k hk => ?_, fun k hk => ?_⟩, fun k => ?_⟩
      · rw [wi_sI]
        split
        · rfl
        · exact i3' k (by omega)
      · rw [wi_sI, if_neg (fun z => by omega)]
        exact i4' k hk
      · unfold b6_sheet_70 lw
        dsimp only
        rw [if_neg (show ¬ (40 : Int32) ≤ nI i from nI_ge (b := 40) hi (by omega)), ck_pos b1.t, b1.r16, b1.l16, i40, nI_add, ck_pos (And.intro b1.t16 (vin (show 40 * s + i < 160 by omega) (by decide))), nI_clamp (by omega), i3_1]
    · intro v w2 hI k
      obtain ⟨rfl, i1, i2, i3', i4'⟩ := hI
      refine ⟨w2, ?_, i1, i2, i3', i4'⟩
      unfold b6_sheet_70
      dsimp only
      rw [if_pos (by decide)]
  obtain ⟨w', k1, k2, k3, k4, k5⟩ := key
  have F2 : Fr CP w w' := F1.tr (k2.mono fun q z => Or.inr (Or.inr z))
  refine ⟨w', k1, rmSheet h hS.s40 F2 (fun q => (k3 q).trans (r1 q)) ?_ ?_ (fun k x hx => ?_) (fun t ht e => ⟨?_, ?_, fun k hk => ?_⟩), F2⟩
  · rw [(k2.2.2 85 (by decide)).1, ← hw1, wi_sI_ne (by decide), wi_at]
  · rw [(k2.2.2 86 (by decide)).1, ← hw1, wi_at]
    unfold rowZ
    rw [List.length_replicate]
  · unfold rowZ at hx
    obtain ⟨h1, h2⟩ := List.getElem?_eq_some_iff.mp hx
    rw [List.length_replicate] at h1
    rw [List.getElem_replicate] at h2
    rw [k4 k (by omega), h2]
  · rw [(k2.2.2 85 (by decide)).1, ← hw1, wi_sI_ne (by decide), wi_sI, if_neg (fun z => e z.2)]
  · rw [(k2.2.2 86 (by decide)).1, ← hw1, wi_sI, if_neg (fun z => e z.2), wi_sI_ne (by decide)]
  · rw [k5 _ (by omega), ← hw1, wi_sI_ne (by decide), wi_sI_ne (by decide)]
theorem rowZ_0 : rowZ 0 = [] := rfl
theorem sheet_pair (x so n : Int32) : Pair (f5_sheet 32 x so n) (f6_sheet 75 x so n) := pair_of fun S hS => by
  rcases sheet_case x with ⟨s, hs, rfl, e⟩ | e
  · rcases within2 so (-1) 2 with ⟨ho, eo⟩ | ⟨ho, eo⟩
    · have hso : rng so (-1) 2 := by
        rw [ile, ile, show (-1 : Int32).toInt = -1 from rfl, show (2 : Int32).toInt = 2 from rfl] at ho
        exact ho
      have cc : ∀ {w} n', RC S w → ck (tg w 32 = 5) (ck (tg w (wr w 32 7) = 23 ∧ vp_in (nI s) (ln w (wr w 32 7))) (ck (tg w (wr w (wr w 32 7) (nI s).toNatClampNeg) = 2) ((f2_becomeRow (wr w (wr w 32 7) (nI s).toNatClampNeg) so n' w).bind fun z => some ((1 : Int32), z.2)))) = (f2_becomeRow (67 + 2 * s) so n' w).bind fun z => some ((1 : Int32), z.2) := by
        intro w n' h
        obtain ⟨s1, s2, s3, s4, s5, s6, s7, s8, s9, s10, s11, s12, s13⟩ := h.sh hs
        rw [ck_pos h.t, s1, s3, ck_pos (And.intro s2 s9), s10, s4, ck_pos s5]
      have mm : ∀ {w}, RM S w → j6_sheet_44 75 (nI s) so n w = if so = -1 then loopF b6_sheet_70 FU (75, nI s, (0 : Int32)) (sI (sI w 85 s so) 86 s 0) else loopF b6_sheet_70 FU (75, nI s, (0 : Int32)) (sI (sI w 85 s so) 86 s n) := by
        intro w h
        obtain ⟨s1, s2, s3, s4, s5, s6⟩ := h.sh hs
        have t2 : tg (sI w 85 s so) 86 = 20 ∧ vp_in (nI s) (ln (sI w 85 s so) 86) := s2
        unfold j6_sheet_44 j6_sheet_66 lw
        dsimp only
        rw [ck_pos h.1.1.t, h.1.1.r14, ck_pos s1, s3, wr_sI, h.1.1.r15, ck_pos t2, ck_pos t2]
      by_cases hm : so = -1
      · refine ⟨(1, shS S s (so, rowZ 0)), fun w h => ?_, fun w h => ?_, hS.sheet hso (Nat.zero_le _) fun _ => rfl⟩
        · obtain ⟨w', b1, b2, b3⟩ := row_c (so := so) (n := 0) h hs (by decide)
          refine ⟨w', ?_, b2, spM hs b3⟩
          unfold f5_sheet
          rw [(e w).1, Option.bind_some, if_neg (show ¬ (1 : Int32) = 0 by decide)]
          dsimp only
          rw [(eo w).2, Option.bind_some, if_neg (show ¬ (1 : Int32) = 0 by decide), if_pos hm]
          dsimp only
          rw [← hm, cc 0 h]
          rw [show (0 : Int32) = nI 0 from rfl, b1]
          rfl
        · obtain ⟨w', b1, b2, b3⟩ := row_r (so := so) (n := 0) h hS hs (by decide)
          refine ⟨w', ?_, b2, cpC b3⟩
          unfold f6_sheet j6_sheet_32
          rw [(e w).2, Option.bind_some, if_neg (show ¬ (1 : Int32) = 0 by decide)]
          dsimp only
          rw [(eo w).1, Option.bind_some, if_neg (show ¬ (1 : Int32) = 0 by decide), if_pos hm, if_pos hm]
          dsimp only
          rw [mm h, if_pos hm]
          exact b1
      · by_cases h40 : n ≤ 40
        · by_cases h0 : 0 ≤ n
          · obtain ⟨k, hk, rfl⟩ := upto40 n ⟨h0, h40⟩
            refine ⟨(1, shS S s (so, rowZ k)), fun w h => ?_, fun w h => ?_, hS.sheet hso (by unfold rowZ; rw [List.length_replicate]; exact hk) fun z => absurd z hm⟩
            · obtain ⟨w', b1, b2, b3⟩ := row_c (so := so) (n := k) h hs hk
              refine ⟨w', ?_, b2, spM hs b3⟩
              unfold f5_sheet
              rw [(e w).1, Option.bind_some, if_neg (show ¬ (1 : Int32) = 0 by decide)]
              dsimp only
              rw [(eo w).2, Option.bind_some, if_neg (show ¬ (1 : Int32) = 0 by decide), if_neg hm, if_pos h40, if_pos h0]
              dsimp only
              rw [cc (nI k) h, b1]
              rfl
            · obtain ⟨w', b1, b2, b3⟩ := row_r (so := so) (n := k) h hS hs hk
              refine ⟨w', ?_, b2, cpC b3⟩
              unfold f6_sheet j6_sheet_32
              rw [(e w).2, Option.bind_some, if_neg (show ¬ (1 : Int32) = 0 by decide)]
              dsimp only
              rw [(eo w).1, Option.bind_some, if_neg (show ¬ (1 : Int32) = 0 by decide), if_neg hm, if_pos h40, if_neg hm, if_pos h0]
              dsimp only
              rw [mm h, if_neg hm]
              exact b1
          · refine ⟨(-14, S), fun w h => ⟨w, ?_, h, OffM.rf⟩, fun w h => ⟨w, ?_, h, OffC.rf⟩, hS⟩
            · unfold f5_sheet
              rw [(e w).1, Option.bind_some, if_neg (show ¬ (1 : Int32) = 0 by decide)]
              dsimp only
              rw [(eo w).2, Option.bind_some, if_neg (show ¬ (1 : Int32) = 0 by decide), if_neg hm, if_pos h40, if_neg h0]
            · unfold f6_sheet j6_sheet_32
              rw [(e w).2, Option.bind_some, if_neg (show ¬ (1 : Int32) = 0 by decide)]
              dsimp only
              rw [(eo w).1, Option.bind_some, if_neg (show ¬ (1 : Int32) = 0 by decide), if_neg hm, if_pos h40, if_neg hm, if_neg h0]
        · refine ⟨(-2, S), fun w h => ⟨w, ?_, h, OffM.rf⟩, fun w h => ⟨w, ?_, h, OffC.rf⟩, hS⟩
          · unfold f5_sheet
            rw [(e w).1, Option.bind_some, if_neg (show ¬ (1 : Int32) = 0 by decide)]
            dsimp only
            rw [(eo w).2, Option.bind_some, if_neg (show ¬ (1 : Int32) = 0 by decide), if_neg hm, if_neg h40]
          · unfold f6_sheet
            rw [(e w).2, Option.bind_some, if_neg (show ¬ (1 : Int32) = 0 by decide)]
            dsimp only
            rw [(eo w).1, Option.bind_some, if_neg (show ¬ (1 : Int32) = 0 by decide), if_neg hm, if_neg h40]
    · refine ⟨(-2, S), fun w h => ⟨w, ?_, h, OffM.rf⟩, fun w h => ⟨w, ?_, h, OffC.rf⟩, hS⟩
      · unfold f5_sheet
        rw [(e w).1, Option.bind_some, if_neg (show ¬ (1 : Int32) = 0 by decide)]
        dsimp only
        rw [(eo w).2, Option.bind_some, if_pos rfl]
      · unfold f6_sheet
        rw [(e w).2, Option.bind_some, if_neg (show ¬ (1 : Int32) = 0 by decide)]
        dsimp only
        rw [(eo w).1, Option.bind_some, if_pos rfl]
  · refine ⟨(-2, S), fun w h => ⟨w, ?_, h, OffM.rf⟩, fun w h => ⟨w, ?_, h, OffC.rf⟩, hS⟩
    · unfold f5_sheet
      rw [(e w).1, Option.bind_some, if_pos rfl]
    · unfold f6_sheet
      rw [(e w).2, Option.bind_some, if_pos rfl]
