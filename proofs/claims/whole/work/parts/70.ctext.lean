/-! text(): the class -/
theorem numF : ∀ (ds : List Int32) (a m : Nat), (∀ d ∈ ds, digB d = true) → a < 10 ^ m → m + ds.length ≤ 4 → ∃ v, v < 10 ^ (m + ds.length) ∧ ds.foldl (fun v d => v * 10 + d - 48) (nI a) = nI v
  | [], a, m, _, ha, _ => ⟨a, ha, rfl⟩
  | d :: ds, a, m, hd, ha, hl => by
    have h1 := hd d List.mem_cons_self
    unfold digB at h1
    simp only [decide_eq_true_eq] at h1
    rw [ile, ile, show (48 : Int32).toInt = 48 from rfl, show (57 : Int32).toInt = 57 from rfl] at h1
    rw [List.length_cons] at hl
    have hp : 10 ^ m ≤ 10 ^ 3 := Nat.pow_le_pow_right (by decide) (by omega)
    have e : nI a * 10 + d - 48 = nI (a * 10 + (d.toInt.toNat - 48)) := by
      rw [show (10 : Int32) = nI 10 from rfl, nI_mul, ieq, isub (by rw [iadd (by rw [nI_int (by omega)]; omega) (by rw [nI_int (by omega)]; omega), nI_int (by omega), show (48 : Int32).toInt = 48 from rfl]; omega) (by rw [iadd (by rw [nI_int (by omega)]; omega) (by rw [nI_int (by omega)]; omega), nI_int (by omega), show (48 : Int32).toInt = 48 from rfl]; omega), iadd (by rw [nI_int (by omega)]; omega) (by rw [nI_int (by omega)]; omega), nI_int (by omega), nI_int (by omega), show (48 : Int32).toInt = 48 from rfl]
      omega
    obtain ⟨v, hv, ev⟩ := numF ds (a * 10 + (d.toInt.toNat - 48)) (m + 1) (fun x hx => hd x (List.mem_cons_of_mem _ hx)) (by rw [Nat.pow_succ]; omega) (by omega)
    refine ⟨v, ?_, ?_⟩
    · rw [List.length_cons, show m + (ds.length + 1) = m + 1 + ds.length by omega]
      exact hv
    · rw [List.foldl_cons, e]
      exact ev
theorem tkT_ok {l : List Int32} {p : Nat} (hp : p < l.length) : tkT l p ≠ 10040 ∧ 0 ≤ tkT l p := by
  unfold tkT
  split
  · rw [tkW_eq]
    repeat' split
    all_goals exact ⟨by decide, by decide⟩
  · split
    · rename_i h1 h2
      unfold tkN
      split
      · rename_i h4
        have he : endT l p = runE digB l p := by
          unfold endT
          rw [if_neg h1, if_pos h2]
        have hle := run_le (P := digB) (l := l) _ p rfl (by omega)
        rw [he] at h4
        rw [he]
        obtain ⟨v, hv, ev⟩ := numF (slc l p (runE digB l p)) 0 0 (fun d hd => by
          obtain ⟨t, ht1, ht2⟩ := List.mem_iff_getElem.mp hd
          rw [slc_len hle.2] at ht1
          have := slc_at (l := l) (a := p) hle.2 ht1
          rw [List.getElem?_eq_getElem (by rw [slc_len hle.2]; exact ht1), ht2] at this
          rw [Option.some.inj this]
          exact run_in _ p rfl _ (by omega) (by omega)) (by decide) (by omega)
        have hv4 : v < 10 ^ 4 := Nat.lt_of_lt_of_le hv (Nat.pow_le_pow_right (by decide) (by omega))
        have e : numV (slc l p (runE digB l p)) = nI v := ev
        rw [e]
        refine ⟨fun z => ?_, ?_⟩
        · rw [ieq, nI_int (by omega), show (10040 : Int32).toInt = 10040 from rfl] at z
          omega
        · rw [ile, nI_int (by omega), show (0 : Int32).toInt = 0 from rfl]
          omega
      · exact ⟨by decide, by decide⟩
    · unfold tkS
      repeat' split
      all_goals exact ⟨by decide, by decide⟩
theorem tkQ_ok (l : List Int32) : ∀ n, n ≤ l.length → ∀ x ∈ tkQ l n, x.1 ≠ 10040 ∧ 0 ≤ x.1
  | 0, _ => fun x hx => absurd hx List.not_mem_nil
  | n + 1, hn => by
    intro x hx
    unfold tkQ at hx
    split at hx
    · rcases List.mem_cons.mp hx with e | e
      · rw [e]
        exact tkT_ok (by omega)
      · exact tkQ_ok l n (by omega) x e
    · exact tkQ_ok l n (by omega) x hx
def tkV (l : List Int32) : List Int32 := (tkF l 0).map fun x => x.1
theorem tkV_ok (l : List Int32) : noEnd (tkV l) := by
  intro t ht
  unfold tkV at ht
  obtain ⟨x, hx, e⟩ := List.mem_map.mp ht
  rw [← e]
  exact tkQ_ok l _ (Nat.sub_le _ _) x hx
theorem tkV_len (l : List Int32) : (tkV l).length = (tkF l 0).length := by unfold tkV; rw [List.length_map]
/-- the place of the fault -/
def plR (l rest : List Int32) : Nat := match (tkF l 0)[(tkF l 0).length - rest.length]? with
  | some x => x.2
  | none => l.length
theorem RC.ts {S : SS} {w : Wd} (h : RC S w) (hS : SI S) : TS S.2.2.1 w ∧ (wr w 33 2 = 35 ∧ wr w 33 3 = 36 ∧ tg w 35 = 20 ∧ ln w 35 = 160 ∧ tg w 36 = 20 ∧ ln w 36 = 160) ∧ (wr w 33 6 = 37 ∧ tg w 37 = 20 ∧ ln w 37 = 160) := by
  obtain ⟨t1, t2, t3, t4, t5, t6⟩ := h.tape
  obtain ⟨m1, m2, m3, m4, m5, m6, m7, m8, m9⟩ := h.1.2.1
  exact ⟨⟨⟨t2, t3, t4, t5⟩, t6, hS.2.2.1.1, h.2.2.2.1.2⟩, ⟨m3, m4, tg_eq m7, ln_eq m7, tg_eq m8, ln_eq m8⟩, m5, tg_eq m9, ln_eq m9⟩
def TXP (q : Nat) : Prop := q = 33 ∨ q = 35 ∨ q = 36 ∨ q = 37
theorem fault_g {l : List Int32} {w : Wd} (h : TS l w ∧ (wr w 33 2 = 35 ∧ wr w 33 3 = 36 ∧ tg w 35 = 20 ∧ ln w 35 = 160 ∧ tg w 36 = 20 ∧ ln w 36 = 160) ∧ (wr w 33 6 = 37 ∧ tg w 37 = 20 ∧ ln w 37 = 160)) : ∃ r i' c' w', f3_faultPlace 33 w = some ((if r = true then -1 else nI (plR l (mT (tkV l)).2.1)), w') ∧ (Fr TXP w w' ∧ (∀ q, wr w' q = wr w q)) ∧ CS (tkV l) w' i' c' ∧ GoodT (tkV l) w' r i' c' ∧ r = (mT (tkV l)).1 := by
  obtain ⟨t1, t2, t3, t4, t5⟩ := h
  have hl := t1.2.2.1
  obtain ⟨w1, a1, a2, a3, a4, a5⟩ := scan_c t1 t2
  obtain ⟨b1, ⟨b2, b3, b4, b5, b6, b7⟩, b8, b9⟩ := a2
  have hKl := tkF_len l 0
  have C0 : CS (tkV l) (sI (sI w1 33 5 0) 33 7 0) 0 [] := by
    refine ⟨⟨b1.1.1, b2, by show wr w1 33 6 = 37; rw [a4]; exact t3, b4, b5, by show tg w1 37 = 20; unfold tg; rw [a3.1]; exact t4, by show ln w1 37 = 160; unfold ln; rw [a3.1]; exact t5⟩, ⟨?_, by rw [tkV_len]; omega, fun j x hx => ?_⟩, ⟨?_, Nat.zero_le _⟩, wi_at _ _ _ _, fun j x hx => by simp at hx, by decide⟩
    · rw [wi_sI, if_neg (fun z => absurd z.2 (by decide)), wi_sI, if_neg (fun z => absurd z.2 (by decide)), b8, tkV_len]
    · rw [wi_sI_ne (by decide), wi_sI_ne (by decide)]
      unfold tkV at hx
      rw [List.getElem?_map] at hx
      cases hk : (tkF l 0)[j]? with
      | none => rw [hk] at hx; cases hx
      | some y =>
        rw [hk] at hx
        have e : y.1 = x := Option.some.inj hx
        rw [← e]
        exact (b9 j y hk).1
    · rw [wi_sI, if_neg (fun z => absurd z.2 (by decide)), wi_at]
      rfl
  obtain ⟨r, i', c', w', e1, e2, e3, g⟩ := readText_c (tkV_ok l) C0
  have F1 : Fr TXP w w' := ((a3.mono fun q z => (by unfold SQ at z; unfold TXP; omega : TXP q)).tr ((Fr.sI (Or.inl rfl)).tr (Fr.sI (Or.inl rfl)))).tr (e3.1.mono fun q z => by unfold TXP; omega)
  have W1 : ∀ q, wr w' q = wr w q := fun q => (e3.2.1 q).trans (a4 q)
  have hr : r = (mT (tkV l)).1 := by
    unfold GoodT at g
    cases r with
    | true =>
      rw [if_pos rfl] at g
      obtain ⟨c1, c2, g1, _⟩ := g
      rw [g1]
    | false =>
      rw [if_neg (by decide)] at g
      exact g.1.symm
  refine ⟨r, i', c', w', ?_, ⟨F1, W1⟩, e2, g, hr⟩
  unfold f3_faultPlace lw
  rw [ck_pos t1.1.1, a1, Option.bind_some]
  dsimp only
  rw [e1, Option.bind_some]
  dsimp only
  cases r with
  | true => rw [if_pos rfl, if_neg n10, if_pos rfl]
  | false =>
    rw [ff01, if_pos rfl, if_neg (show ¬ false = true by decide)]
    unfold GoodT at g
    rw [if_neg (by decide)] at g
    obtain ⟨u1, u2, u3, u4, u5⟩ := e2
    have hi' := u3.2
    have n1 : wi w' 33 1 = nI l.length := by
      rw [e3.2.2 1 (by decide), wi_sI, if_neg (fun z => absurd z.2 (by decide)), wi_sI, if_neg (fun z => absurd z.2 (by decide))]
      exact b1.2.1
    have epl : plR l (mT (tkV l)).2.1 = match (tkF l 0)[i']? with
      | some x => x.2
      | none => l.length := by
      unfold plR
      rw [g.2, List.length_drop, tkV_len]
      rw [tkV_len] at hi'
      rw [show (tkF l 0).length - ((tkF l 0).length - i') = i' by omega]
    rw [epl, u2.1, u3.1, n1, tkV_len]
    rw [tkV_len] at hi'
    by_cases hlt : i' < (tkF l 0).length
    · have hg := List.getElem?_eq_getElem hlt
      rw [if_neg (nI_ge hlt (by omega)), W1, t2.2.1]
      have T6 : tg w' 36 = 20 := by unfold tg; rw [F1.1]; exact t2.2.2.2.2.1
      have L6 : ln w' 36 = 160 := by unfold ln; rw [F1.1]; exact t2.2.2.2.2.2
      have e36 : wi w' 36 i' = nI ((tkF l 0)[i']).2 := by
        rw [(e3.1.2.2 36 (by decide)).1, wi_sI_ne (by decide), wi_sI_ne (by decide)]
        exact (b9 i' _ hg).2
      rw [L6, ck_pos (And.intro T6 (vin (by omega) (by decide))), nI_clamp (by omega), e36, hg]
    · rw [if_pos (by rw [ile, nI_int (by omega), nI_int (by omega)]; omega), List.getElem?_eq_none (by omega)]
theorem fault_c {S : SS} {w : Wd} (h : RC S w) (hS : SI S) : ∃ r i' c' w', f3_faultPlace 33 w = some ((if r = true then -1 else nI (plR S.2.2.1 (mT (tkV S.2.2.1)).2.1)), w') ∧ (Fr TXP w w' ∧ (∀ q, wr w' q = wr w q)) ∧ CS (tkV S.2.2.1) w' i' c' ∧ GoodT (tkV S.2.2.1) w' r i' c' ∧ r = (mT (tkV S.2.2.1)).1 := fault_g (h.ts hS)
def RP (q : Nat) : Prop := 33 ≤ q ∧ q ≤ 37
theorem rp_tx (t j : Nat) (hj : j < 2) : ¬ RP (txL t + j) := by
  unfold RP txL
  split <;> omega
theorem rcTape7 {S : SS} {w w' : Wd} {tp : List Int32} (h : RC S w) (hF : Fr RP w w') (hw : ∀ q, wr w' q = wr w q) (h1 : wi w' 33 1 = nI tp.length) (h2 : ∀ j b, tp[j]? = some b → wi w' 34 j = b) : RC (tpS S tp) w' := by
  obtain ⟨L, a1, t1, ⟨p1, p2⟩, ⟨i1, i2⟩, c1⟩ := h
  have g : ∀ q, ¬ RP q → ∀ k, wi w' q k = wi w q k := fun q hq => (hF.2.2 q hq).1
  refine ⟨L.same hF.1 hw, a1.frP t1 hF (fun q a b z => by unfold RP at z; omega) rp_tx, t1.frP hF rp_tx (g 32 (by unfold RP; omega) 2) (fun k => by rw [hw]), ⟨h1, h2⟩, ⟨?_, fun c hc => (i2 c hc).frP t1 hF (fun q a b z => by unfold RP at z; omega) rp_tx⟩, fun t ht => ?_⟩
  · rw [g 32 (by unfold RP; omega)]; exact i1
  · rw [g (67 + 2 * t) (by unfold RP; omega), g (67 + 2 * t) (by unfold RP; omega)]
    exact ⟨(c1 t ht).1, (c1 t ht).2.1, fun k x hx => by rw [g (68 + 2 * t) (by unfold RP; omega)]; exact (c1 t ht).2.2 k x hx⟩
/-! a new Text -/
theorem sh_wN (w : Wd) (t n a : Nat) : sh (wN w t n) a = if a = nx w then (t, n) else sh w a := rfl
theorem wi_wN (w : Wd) (t n a k : Nat) : wi (wN w t n) a k = if a = nx w then 0 else wi w a k := by
  show (if a = nx w then (0 : Int32) else w.2.1 a k) = _
  rfl
theorem wr_wN (w : Wd) (t n a k : Nat) : wr (wN w t n) a k = if a = nx w then 0 else wr w a k := rfl
theorem nx_wN (w : Wd) (t n : Nat) : nx (wN w t n) = nx w + 1 := rfl
theorem sh_wC (w : Wd) (a b c d n q : Nat) : sh (wC w a b c d n) q = sh w q := rfl
theorem wr_wC (w : Wd) (a b c d n q k : Nat) : wr (wC w a b c d n) q k = wr w q k := rfl
theorem nx_wC (w : Wd) (a b c d n : Nat) : nx (wC w a b c d n) = nx w := rfl
/-- what a new text leaves of the old cells -/
def OldW (w w' : Wd) (Q : Nat) : Prop := ∀ a, a < Q → sh w' a = sh w a ∧ (∀ k, wi w' a k = wi w a k) ∧ ∀ k, wr w' a k = wr w a k
theorem textRead_c {w : Wd} {c : List Int32} {n b g : Int32} (hq : 37 < nx w) (h33 : tg w 33 = 3) (h6 : wr w 33 6 = 37) (ht : tg w 37 = 20) (hl : ln w 37 = 160) (h7 : wi w 33 7 = nI c.length) (hc : ∀ j x, c[j]? = some x → wi w 37 j = x) (hlen : c.length < 160) (h8 : wi w 33 8 = b) (h9 : wi w 33 9 = g) :
    ∃ w', f3_textRead 33 n w = some (nx w, w') ∧ OldW w w' (nx w) ∧ nx w' = nx w + 3 ∧ sh w' (nx w) = (4, 0) ∧ wr w' (nx w) 1 = nx w + 1 ∧ wr w' (nx w) 4 = nx w + 2 ∧ wi w' (nx w) 0 = n ∧ wi w' (nx w) 2 = b ∧ wi w' (nx w) 3 = g ∧ sh w' (nx w + 1) = (20, c.length) ∧ (∀ j x, c[j]? = some x → wi w' (nx w + 1) j = x) ∧ sh w' (nx w + 2) = (20, 40) := by
  generalize hq0 : nx w = q at hq ⊢
  generalize hw2 : wN w 4 0 = w2
  have s2 : ∀ a, sh w2 a = if a = q then (4, 0) else sh w a := fun a => by rw [← hw2, sh_wN, hq0]
  have i2 : ∀ a k, wi w2 a k = if a = q then 0 else wi w a k := fun a k => by rw [← hw2, wi_wN, hq0]
  have r2 : ∀ a k, wr w2 a k = if a = q then 0 else wr w a k := fun a k => by rw [← hw2, wr_wN, hq0]
  have x2 : nx w2 = q + 1 := by rw [← hw2, nx_wN, hq0]
  generalize hw8 : wC (wN w2 20 c.length) 37 0 (q + 1) 0 c.length = w8
  have s8 : ∀ a, sh w8 a = if a = q + 1 then (20, c.length) else sh w2 a := fun a => by rw [← hw8, sh_wC, sh_wN, x2]
  have i8 : ∀ a k, wi w8 a k = if a = q + 1 then (if k < c.length then wi w2 37 k else 0) else wi w2 a k := fun a k => by
    rw [← hw8, wiC, wi_wN, wi_wN, x2, if_neg (show ¬ 37 = q + 1 by omega)]
    by_cases ha : a = q + 1
    · rw [if_pos ha, if_pos ha]
      by_cases hk : k < c.length
      · rw [if_pos ⟨ha, Nat.zero_le _, by omega⟩, if_pos hk, Nat.sub_zero, Nat.zero_add]
      · rw [if_neg (fun z => by omega), if_neg hk]
    · rw [if_neg (fun z => ha z.1), if_neg ha, if_neg ha]
  have r8 : ∀ a k, wr w8 a k = if a = q + 1 then 0 else wr w2 a k := fun a k => by rw [← hw8, wr_wC, wr_wN, x2]
  have x8 : nx w8 = q + 2 := by rw [← hw8, nx_wC, nx_wN, x2]
  generalize hw9 : wN w8 20 40 = w9
  have s9 : ∀ a, sh w9 a = if a = q + 2 then (20, 40) else sh w8 a := fun a => by rw [← hw9, sh_wN, x8]
  have i9 : ∀ a k, wi w9 a k = if a = q + 2 then 0 else wi w8 a k := fun a k => by rw [← hw9, wi_wN, x8]
  have r9 : ∀ a k, wr w9 a k = if a = q + 2 then 0 else wr w8 a k := fun a k => by rw [← hw9, wr_wN, x8]
  have x9 : nx w9 = q + 3 := by rw [← hw9, nx_wN, x8]
  have copy : fJ7_copyOf_59c91 37 (nI c.length) w2 = some (q + 1, w8) := by
    have t37 : tg w2 37 = 20 := by unfold tg; rw [s2, if_neg (by omega)]; exact ht
    have l37 : ln w2 37 = 160 := by unfold ln; rw [s2, if_neg (by omega)]; exact hl
    have l5 : ln (wN w2 20 c.length) 37 = 160 := by unfold ln; rw [sh_wN, x2, if_neg (by omega)]; exact l37
    have l5q : ln (wN w2 20 c.length) (q + 1) = c.length := by unfold ln; rw [sh_wN, x2, if_pos rfl]
    have lt : nI c.length < Int32.ofNat 160 := nI_lt (b := 160) hlen (by omega)
    have p0 : ¬ nI c.length < 0 := by rw [ilt, nI_int (by omega), show (0 : Int32).toInt = 0 from rfl]; omega
    unfold fJ7_copyOf_59c91 lw
    rw [ck_pos t37, l37, if_neg (fun z => by have := nI_inj (a := c.length) (b := 160) (by omega) (by omega) z; omega), nI_clamp (by omega), ck_pos ⟨p0, by omega⟩]
    dsimp only
    rw [l5, if_pos lt, nI_clamp (by omega), x2, l5q, ck_pos ⟨by decide, by decide, p0, by show 0 + c.length ≤ 160; omega, by show 0 + c.length ≤ c.length; omega⟩]
    show some (q + 1, wC (wN w2 20 c.length) 37 0 (q + 1) 0 c.length) = _
    rw [hw8]
  refine ⟨sI (sI (sR (sI (sR w9 q 4 (q + 2)) q 0 n) q 1 (q + 1)) q 2 b) q 3 g, ?_, fun a ha => ⟨?_, fun k => ?_, fun k => ?_⟩, x9, ?_, ?_, ?_, ?_, ?_, ?_, ?_, fun j x hx => ?_, ?_⟩
  · have t33 : tg w2 33 = 3 := by unfold tg; rw [s2, if_neg (by omega)]; exact h33
    have r33 : wr w2 33 6 = 37 := by rw [r2, if_neg (by omega)]; exact h6
    have i33 : wi w2 33 7 = nI c.length := by rw [i2, if_neg (by omega)]; exact h7
    have e8 : wi w8 33 8 = b := by rw [i8, if_neg (by omega), i2, if_neg (by omega)]; exact h8
    have e9 : wi w8 33 9 = g := by rw [i8, if_neg (by omega), i2, if_neg (by omega)]; exact h9
    have tq : tg w8 q = 4 := by unfold tg; rw [s8, if_neg (by omega), s2, if_pos rfl]
    unfold f3_textRead f4_init lw
    dsimp only
    rw [hw2, ck_pos t33, r33, i33, copy, Option.bind_some]
    dsimp only
    rw [hq0, ck_pos tq, x8, hw9, e8, e9]
    rfl
  · show sh w9 a = _
    rw [s9, if_neg (by omega), s8, if_neg (by omega), s2, if_neg (by omega)]
  · rw [wi_sI_ne (by omega), wi_sI_ne (by omega)]
    show wi (sI (sR w9 q 4 (q + 2)) q 0 n) a k = _
    rw [wi_sI_ne (by omega)]
    show wi w9 a k = _
    rw [i9, if_neg (by omega), i8, if_neg (by omega), i2, if_neg (by omega)]
  · show wr (sR (sI (sR w9 q 4 (q + 2)) q 0 n) q 1 (q + 1)) a k = _
    rw [wr_sR_ne (by omega)]
    show wr (sR w9 q 4 (q + 2)) a k = _
    rw [wr_sR_ne (by omega), r9, if_neg (by omega), r8, if_neg (by omega), r2, if_neg (by omega)]
  · show sh w9 q = _
    rw [s9, if_neg (by omega), s8, if_neg (by omega), s2, if_pos rfl]
  · show wr (sR (sI (sR w9 q 4 (q + 2)) q 0 n) q 1 (q + 1)) q 1 = _
    rw [wr_sR, if_pos ⟨rfl, rfl⟩]
  · show wr (sR (sI (sR w9 q 4 (q + 2)) q 0 n) q 1 (q + 1)) q 4 = _
    rw [wr_sR, if_neg (fun z => absurd z.2 (by decide))]
    show wr (sR w9 q 4 (q + 2)) q 4 = _
    rw [wr_sR, if_pos ⟨rfl, rfl⟩]
  · rw [wi_sI, if_neg (fun z => absurd z.2 (by decide)), wi_sI, if_neg (fun z => absurd z.2 (by decide))]
    show wi (sI (sR w9 q 4 (q + 2)) q 0 n) q 0 = _
    rw [wi_at]
  · rw [wi_sI, if_neg (fun z => absurd z.2 (by decide)), wi_at]
  · rw [wi_at]
  · show sh w9 (q + 1) = _
    rw [s9, if_neg (by omega), s8, if_pos rfl]
  · rw [wi_sI_ne (by omega), wi_sI_ne (by omega)]
    show wi (sI (sR w9 q 4 (q + 2)) q 0 n) (q + 1) j = _
    rw [wi_sI_ne (by omega)]
    show wi w9 (q + 1) j = _
    have hj := (List.getElem?_eq_some_iff.mp hx).1
    rw [i9, if_neg (by omega), i8, if_pos rfl, if_pos hj, i2, if_neg (by omega)]
    exact hc j x hx
  · show sh w9 (q + 2) = _
    rw [s9, if_pos rfl]
