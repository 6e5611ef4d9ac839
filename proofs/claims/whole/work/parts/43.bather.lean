/-! bather -/
theorem div10 {x : Int32} (h : 0 ≤ x) : (x / 10).toInt = x.toInt / 10 ∧ (x - x / 10 * 10).toInt = x.toInt % 10 := by
  rw [ile, show (0 : Int32).toInt = 0 from rfl] at h
  have hr := (irange x).2
  have e1 : (x / 10).toInt = x.toInt / 10 := by
    rw [Int32.toInt_div, show (10 : Int32).toInt = 10 from rfl, Int.tdiv_eq_ediv_of_nonneg h]
    exact Int.bmod_eq_of_le (by simp; omega) (by simp; omega)
  have e2 : (x / 10 * 10).toInt = x.toInt / 10 * 10 := by
    rw [Int32.toInt_mul, e1, show (10 : Int32).toInt = 10 from rfl]
    exact Int.bmod_eq_of_le (by simp; omega) (by simp; omega)
  refine ⟨e1, ?_⟩
  rw [isub] <;> rw [e2] <;> omega
def rowN (a b : Int32) : Nat → Int32 := fun j => if j = 0 then a / 10 else if j = 1 then a - a / 10 * 10 else if j = 2 then b - b / 10 * 10 else if j = 3 then b / 10 else 0
def newS (S : SS) (a b : Int32) : SS := (((S.1.1.1, upR S.1.1.2 S.1.2.1 (rowN a b)), S.1.2.1 + 1, S.1.2.2), S.2)
def okN (a b : Int32) : Prop := (0 ≤ a ∧ a ≤ 59) ∧ (0 ≤ b ∧ b ≤ 9999) ∧ b - b / 10 * 10 ≤ 3
theorem rowN_ok {a b : Int32} (h : okN a b) : RowR (rowN a b) := by
  obtain ⟨⟨h1, h2⟩, ⟨h3, h4⟩, h5⟩ := h
  obtain ⟨d1, d2⟩ := div10 h1
  obtain ⟨d3, d4⟩ := div10 h3
  rw [ile] at h1 h2 h3 h4 h5
  rw [d4] at h5
  rw [show (0 : Int32).toInt = 0 from rfl] at h1 h3
  rw [show (59 : Int32).toInt = 59 from rfl] at h2
  rw [show (9999 : Int32).toInt = 9999 from rfl] at h4
  rw [show (3 : Int32).toInt = 3 from rfl] at h5
  refine ⟨?_, ?_, ?_, ?_, ?_⟩
  · show rng (a / 10) 0 5
    unfold rng; rw [d1]; omega
  · show rng (a - a / 10 * 10) 0 9
    unfold rng; rw [d2]; omega
  · show rng (b - b / 10 * 10) 0 3
    unfold rng; rw [d4]; omega
  · show rng (b / 10) 0 999
    unfold rng; rw [d3]; omega
  · show rng 0 0 999
    exact ⟨by decide, by decide⟩
theorem SI.new {S : SS} {a b : Int32} (h : SI S) (hn : okN a b) (hm : S.1.2.1 < 6) : SI (newS S a b) := by
  obtain ⟨⟨a1, a2, ⟨a3, a4, a5⟩, a6, a7⟩, b1, b2, b3, b4⟩ := h
  refine ⟨⟨by show S.1.2.1 + 1 ≤ 6; omega, a2, ⟨a3, a4, fun x hx => ?_⟩, a6, a7⟩, b1, b2, fun c e => ?_, b4⟩
  · show RowR (upR S.1.1.2 S.1.2.1 (rowN a b) x)
    have hx' : x < S.1.2.1 + 1 := hx
    unfold upR
    split
    · exact rowN_ok hn
    · exact a5 x (by omega)
  · obtain ⟨c1, c2, c3⟩ := b3 c e
    refine ⟨c1, by show c.2.1 ≤ S.1.2.1 + 1; omega, fun x hx => ?_⟩
    show c.1.2 x 0 = upR S.1.1.2 S.1.2.1 (rowN a b) x 0 ∧ c.1.2 x 1 = upR S.1.1.2 S.1.2.1 (rowN a b) x 1
    have e : upR S.1.1.2 S.1.2.1 (rowN a b) x = S.1.1.2 x := if_neg (by omega)
    rw [e]
    exact c3 x hx
def newC (w : Wd) (m : Nat) (a b : Int32) : Wd := sI (sI (sI (sI (sI (sI w (42 + 2 + m) 0 (a / 10)) (42 + 2 + m) 1 (a - a / 10 * 10)) (42 + 2 + m) 3 (b / 10)) (42 + 2 + m) 2 (b - b / 10 * 10)) (42 + 2 + m) 4 0) 42 4 (nI (m + 1))
theorem newC_fr {w : Wd} {m : Nat} {a b : Int32} (hm : m < 6) : Fr NC w (newC w m a b) := by
  have h0 : NC (42 + 2 + m) := nc42 (by omega) (by omega)
  have h1 : NC 42 := nc42 (by decide) (by decide)
  exact ((((((Fr.sI h0).tr (Fr.sI h0)).tr (Fr.sI h0)).tr (Fr.sI h0)).tr (Fr.sI h0)).tr (Fr.sI h1))
theorem newC_at {w : Wd} {m : Nat} {a b : Int32} {j : Nat} (hj : j < 5) : wi (newC w m a b) (42 + 2 + m) j = rowN a b j := by
  unfold newC rowN
  rw [wi_sI_ne (by omega)]
  rcases (by omega : j = 0 ∨ j = 1 ∨ j = 2 ∨ j = 3 ∨ j = 4) with rfl | rfl | rfl | rfl | rfl <;> simp [wi_sI]
theorem newC_ne {w : Wd} {m q j : Nat} {a b : Int32} (h : q ≠ 42 + 2 + m) (h2 : ¬ (q = 42 ∧ j = 4)) : wi (newC w m a b) q j = wi w q j := by
  unfold newC
  rw [wi_sI, if_neg h2, wi_sI_ne h, wi_sI_ne h, wi_sI_ne h, wi_sI_ne h, wi_sI_ne h]
theorem RC.new {S : SS} {w : Wd} {a b : Int32} (h : RC S w) (hm : S.1.2.1 < 6) : RC (newS S a b) (newC w S.1.2.1 a b) := by
  obtain ⟨a1, a2, a3, a4, a5, a6, a7, a8, a9, a10⟩ := h.hc
  have t' := h.2.2.1.2.2 S.1.2.2 h.2.1.2.2
  refine h.upd (c' := ((S.1.1.1, upR S.1.1.2 S.1.2.1 (rowN a b)), S.1.2.1 + 1, S.1.2.2)) (newC_fr hm) ⟨⟨a1, a2, a3, a4, fun k hk => ?_, ?_, by show S.1.2.1 + 1 ≤ 6; omega, fun x hx j hj => ?_, ?_, a10⟩, h.2.1.2.1, h.2.1.2.2⟩ h.h50
  · rw [newC_ne (by omega) (by omega)]; exact a5 k hk
  · unfold newC
    rw [wi_sI, if_pos ⟨rfl, rfl⟩]
  · show _ = upR S.1.1.2 S.1.2.1 (rowN a b) x j
    have hx' : x < S.1.2.1 + 1 := hx
    unfold upR
    by_cases e : x = S.1.2.1
    · rw [if_pos e, e]
      exact newC_at hj
    · rw [if_neg e, newC_ne (by omega) (by omega)]
      exact a8 x (by omega) j hj
  · have e5 : wr (newC w S.1.2.1 a b) 42 5 = wr w 42 5 := rfl
    rw [e5, h.2.1.2.1]
    exact t'.2.2.1.nc t'.2.2.2.1 (newC_fr hm)
def newM (w : Wd) (m : Nat) (a b : Int32) : Wd := sI (sI (sI (sI (sI (sI w 76 m (a / 10)) 77 m (a - a / 10 * 10)) 78 (3 * m) (b - b / 10 * 10)) 78 (3 * m + 1) (b / 10)) 78 (3 * m + 2) 0) 75 0 (nI (m + 1))
theorem newM_fr {w : Wd} {m : Nat} {a b : Int32} : Fr (fun q => 75 ≤ q ∧ q < 79) w (newM w m a b) :=
  ((((((Fr.sI (by decide)).tr (Fr.sI (by decide))).tr (Fr.sI (by decide))).tr (Fr.sI (by decide))).tr (Fr.sI (by decide))).tr (Fr.sI (by decide)))
theorem newM_75 {w : Wd} {m j : Nat} {a b : Int32} (hj : j ≠ 0) : wi (newM w m a b) 75 j = wi w 75 j := by
  unfold newM
  rw [wi_sI, if_neg (fun z => hj z.2), wi_sI_ne (by decide), wi_sI_ne (by decide), wi_sI_ne (by decide), wi_sI_ne (by decide), wi_sI_ne (by decide)]
theorem RM.new {S : SS} {w : Wd} {a b : Int32} (h : RM S w) (hm : S.1.2.1 < 6) : RM (newS S a b) (newM w S.1.2.1 a b) := by
  obtain ⟨a1, a2, a3, a4, a5, a6, a7, a8, a9⟩ := h.1
  have n := fun q (hq : ¬ (75 ≤ q ∧ q < 79)) => ((newM_fr (w := w) (m := S.1.2.1) (a := a) (b := b)).2.2 q hq).1
  refine h.upd (c' := ((S.1.1.1, upR S.1.1.2 S.1.2.1 (rowN a b)), S.1.2.1 + 1, S.1.2.2)) ⟨a1, ?_, by show S.1.2.1 + 1 ≤ 6; omega, fun k hk => by rw [n 79 (by decide)]; exact a4 k hk, fun x hx => ?_, by rw [newM_75 (by decide)]; exact a6, ?_, a8, a9⟩ (fun q h1 h2 => n q (by omega)) (fun k hk => newM_75 (by omega))
  · unfold newM
    rw [wi_sI, if_pos ⟨rfl, rfl⟩]
  · have hx' : x < S.1.2.1 + 1 := hx
    dsimp only
    unfold upR
    by_cases e : x = S.1.2.1
    · rw [if_pos e, e]
      unfold newM rowN
      simp [wi_sI]
    · rw [if_neg e]
      have := a5 x (by omega)
      unfold newM
      simp only [wi_sI]
      rw [if_neg (by omega), if_neg (by omega), if_neg (by omega), if_neg (by omega), if_neg (by omega), if_neg (by omega)]
      rw [if_neg (by omega), if_neg (by omega), if_neg (by omega), if_neg (by omega), if_neg (by omega), if_neg (by omega)]
      rw [if_neg (by omega), if_neg (by omega), if_neg (by omega), if_neg (by omega), if_neg (by omega), if_neg (by omega)]
      rw [if_neg (by omega), if_neg (by omega), if_neg (by omega), if_neg (by omega), if_neg (by omega), if_neg (by omega)]
      rw [if_neg (by omega), if_neg (by omega), if_neg (by omega), if_neg (by omega), if_neg (by omega), if_neg (by omega)]
      exact this
  · unfold ProgM at a7 ⊢
    simp only [n 81 (by decide), n 82 (by decide)]
    exact a7
/-- what a new bather is answered -/
def newA (S : SS) (a b : Int32) : Int32 × SS := if 0 ≤ a ∧ a ≤ 59 then (if 0 ≤ b ∧ b ≤ 9999 then (if b - b / 10 * 10 ≤ 3 then (if S.1.2.1 < 6 then (nI S.1.2.1, newS S a b) else (-4, S)) else (-2, S)) else (-2, S)) else (-2, S)
theorem letIn_c {S : SS} {w : Wd} (a b : Int32) (h : RC S w) (hS : S.1.2.1 ≤ 6) : ∃ w', f1_letIn 42 a b w = some ((newA S a b).1, w') ∧ RC (newA S a b).2 w' ∧ OffM w w' := by
  unfold f1_letIn newA lw
  by_cases ha0 : a < 0
  · rw [if_pos ha0, if_neg (by rw [ile]; rw [ilt] at ha0; omega)]
    exact ⟨w, rfl, h, OffM.rf⟩
  rw [if_neg ha0]
  by_cases ha : a < 60
  · rw [if_pos ha]
    have h1 : 0 ≤ a ∧ a ≤ 59 := by
      rw [ilt] at ha0 ha
      rw [show (60 : Int32).toInt = 60 from rfl] at ha
      rw [ile, ile, show (59 : Int32).toInt = 59 from rfl]
      omega
    rw [if_pos h1]
    by_cases hb0 : b < 0
    · rw [if_pos hb0, if_neg (by rw [ile]; rw [ilt] at hb0; omega)]
      exact ⟨w, rfl, h, OffM.rf⟩
    rw [if_neg hb0]
    have hb0' : 0 ≤ b := by rw [ilt] at hb0; rw [ile]; omega
    obtain ⟨d3, d4⟩ := div10 hb0'
    by_cases hb : 999 < b / 10
    · rw [if_pos hb, if_neg (by rw [ilt, d3, show (999 : Int32).toInt = 999 from rfl] at hb; rw [ile, ile, show (9999 : Int32).toInt = 9999 from rfl]; omega)]
      exact ⟨w, rfl, h, OffM.rf⟩
    rw [if_neg hb]
    have h2 : 0 ≤ b ∧ b ≤ 9999 := by
      rw [ilt, d3, show (999 : Int32).toInt = 999 from rfl] at hb
      refine ⟨hb0', ?_⟩
      rw [ile, show (9999 : Int32).toInt = 9999 from rfl]
      omega
    rw [if_pos h2]
    by_cases hb3 : b - b / 10 * 10 ≤ 3
    · rw [if_pos hb3, if_pos hb3, ck_pos h.t42, h.hc.2.1, ck_pos (tg_eq h.hc.2.2.1), ln_eq h.hc.2.2.1, h.hc.2.2.2.2.2.1]
      by_cases hm : S.1.2.1 < 6
      · have hl : nI S.1.2.1 < Int32.ofNat 6 := by rw [ilt, nI_int (by omega)]; show (S.1.2.1 : Int) < 6; omega
        rw [if_pos hl, if_pos hm, ck_pos (vin hm (by decide)), nI_clamp (by omega), (h.hc.2.2.2.1 _ hm).1, ck_pos (tg_eq (h.hc.2.2.2.1 _ hm).2)]
        dsimp only
        refine ⟨newC w S.1.2.1 a b, ?_, h.new hm, ncM (newC_fr hm)⟩
        have e4 : ∀ (w : Wd) (j : Nat) (x : Int32), wi (sI w (42 + 2 + S.1.2.1) j x) 42 4 = wi w 42 4 := fun w j x => wi_sI_ne (by omega) 4
        have e5 : ∀ (w : Wd) (x : Int32), wi (sI w 42 4 x) 42 4 = x := fun w x => by rw [wi_sI, if_pos ⟨rfl, rfl⟩]
        simp only [e4, e5, h.hc.2.2.2.2.2.1, i3_1]
        rw [ni1]
        rfl
      · have hl : ¬ nI S.1.2.1 < Int32.ofNat 6 := by rw [ilt, nI_int (by omega)]; show ¬ (S.1.2.1 : Int) < 6; omega
        rw [if_neg hl, if_neg hm]
        exact ⟨w, rfl, h, OffM.rf⟩
    · rw [if_neg hb3, if_neg hb3]
      exact ⟨w, rfl, h, OffM.rf⟩
  · rw [if_neg ha, if_neg (by rw [ilt, show (60 : Int32).toInt = 60 from rfl] at ha; rw [ile, ile, show (59 : Int32).toInt = 59 from rfl]; omega)]
    exact ⟨w, rfl, h, OffM.rf⟩
