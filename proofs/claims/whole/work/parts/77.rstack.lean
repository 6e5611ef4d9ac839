/-! the reference's stack -/
def hc (x : Int32) : Int32 := if x = 0 then 0 else mcode x
def okH (x : Int32) : Prop := x = 0 ∨ x = 10010 ∨ x = 10011 ∨ x = 10012 ∨ x = 10013 ∨ x = 10014 ∨ x = 10015 ∨ x = 10016 ∨ x = 10017 ∨ x = 10018
theorem rank_r {x : Int32} (h : okH x) (w : Wd) : f6_rank (hc x) w = some (nI (rkC x), w) := by
  rcases h with rfl | rfl | rfl | rfl | rfl | rfl | rfl | rfl | rfl | rfl <;> rfl
theorem rk7 {x : Int32} (h : okH x) : rkC x ≤ 7 ∧ (x ≠ 0 → hc x = mcode x) ∧ (rkC x = 0 → x = 0) ∧ (x = 0 → rkC x = 0) ∧ (hc x = 13 ↔ x = 10012) ∧ (hc x = 19 ↔ x = 10013) := by
  rcases h with rfl | rfl | rfl | rfl | rfl | rfl | rfl | rfl | rfl | rfl <;> decide
def nO : List Int32 → Nat
  | [] => 0
  | x :: h => if x = 0 ∨ x = 10012 ∨ x = 10013 then nO h + 1 else nO h
theorem nO_pop {r : Nat} (hr : 1 ≤ r) : ∀ h : List Int32, nO h = nU (pop r h).1 + nO (pop r h).2
  | [] => rfl
  | x :: h => by
    have ih := nO_pop hr h
    rw [pop]
    by_cases hx : r ≤ rkC x
    · rw [if_pos hx]
      have h0 : x ≠ 0 := fun z => by rw [z] at hx; have : rkC 0 = 0 := rfl; omega
      show (if x = 0 ∨ x = 10012 ∨ x = 10013 then nO h + 1 else nO h) = nU (x :: (pop r h).1) + nO (pop r h).2
      rw [nU]
      by_cases hu : x = 10012 ∨ x = 10013
      · rw [if_pos (Or.inr hu), if_pos hu]
        omega
      · rw [if_neg (fun z => z.elim h0 hu), if_neg hu]
        exact ih
    · rw [if_neg hx]
      show nO (x :: h) = nU [] + nO (x :: h)
      have : nU [] = 0 := rfl
      omega
theorem pop_len (r : Nat) : ∀ h : List Int32, (pop r h).1.length + (pop r h).2.length = h.length
  | [] => rfl
  | x :: h => by
    have ih := pop_len r h
    rw [pop]
    split
    · show (pop r h).1.length + 1 + (pop r h).2.length = h.length + 1
      omega
    · show 0 + (h.length + 1) = h.length + 1
      omega
theorem pop_mem (r : Nat) : ∀ h : List Int32, ∀ x ∈ (pop r h).2, x ∈ h
  | [], x, hx => hx
  | y :: h, x, hx => by
    rw [pop] at hx
    split at hx
    · exact List.mem_cons_of_mem _ (pop_mem r h x hx)
    · exact hx
/-- what the stack's calls leave -/
def HF (n : Nat) (w w' : Wd) : Prop := Fr (fun q => q = 75 ∨ q = 81 ∨ q = 90) w w' ∧ (∀ q, wr w' q = wr w q) ∧ (∀ k, ¬ (24 ≤ k ∧ k ≤ 26) → wi w' 75 k = wi w 75 k) ∧ ∀ j, j < 200 * n → wi w' 81 j = wi w 81 j
theorem HF.rf {n : Nat} {w : Wd} : HF n w w := ⟨Fr.rf, fun _ => rfl, fun _ _ => rfl, fun _ _ => rfl⟩
theorem HF.tr {n : Nat} {a b c : Wd} (h1 : HF n a b) (h2 : HF n b c) : HF n a c := ⟨h1.1.tr h2.1, fun q => (h2.2.1 q).trans (h1.2.1 q), fun k x => (h2.2.2.1 k x).trans (h1.2.2.1 k x), fun j x => (h2.2.2.2 j x).trans (h1.2.2.2 j x)⟩
theorem hf75 {n : Nat} {w : Wd} {k : Nat} {v : Int32} (h : 24 ≤ k ∧ k ≤ 26) : HF n w (sI w 75 k v) := ⟨Fr.sI (Or.inl rfl), fun _ => rfl, fun j hj => by rw [wi_sI, if_neg (fun z => hj (by rw [z.2]; exact h))], fun j _ => wi_sI_ne (by decide) j⟩
theorem hf90 {n : Nat} {w : Wd} {k : Nat} {v : Int32} : HF n w (sI w 90 k v) := ⟨Fr.sI (Or.inr (Or.inr rfl)), fun _ => rfl, fun j _ => wi_sI_ne (by decide) j, fun j _ => wi_sI_ne (by decide) j⟩
theorem hf81 {n : Nat} {w : Wd} {k : Nat} {v : Int32} (h : 200 * n ≤ k) : HF n w (sI w 81 k v) := ⟨Fr.sI (Or.inr (Or.inl rfl)), fun _ => rfl, fun j _ => wi_sI_ne (by decide) j, fun j hj => by rw [wi_sI, if_neg (fun z => by have := z.2; omega)]⟩
theorem MS.hf {l : List Int32} {n p : Nat} {w w' : Wd} (h : MS l n w p) (hF : HF n w w') : MS l n w' p := by
  obtain ⟨a1, ⟨a2, a3, a4⟩, a5, ⟨a6, a7⟩, a8, a9⟩ := h
  exact ⟨a1.same hF.1.1 hF.2.1, ⟨by rw [hF.2.2.1 6 (by decide)]; exact a2, a3, fun j b hb => by rw [(hF.1.2.2 80 (by decide)).1]; exact a4 j b hb⟩, fun k hk => by rw [(hF.1.2.2 89 (by decide)).1]; exact a5 k hk, ⟨by rw [hF.2.2.1 9 (by decide)]; exact a6, a7⟩, by rw [hF.2.2.1 18 (by decide)]; exact a8, a9⟩
/-- the stack, and what is put out -/
def RH (n : Nat) (w : Wd) (h : List Int32) (op : Nat) (out : List Int32) : Prop := (LayM w ∧ wi w 75 9 = nI n ∧ n < 6) ∧ (wi w 75 24 = nI h.length ∧ (∀ j x, h[j]? = some x → wi w 90 (h.length - 1 - j) = hc x) ∧ ∀ x ∈ h, okH x) ∧ (wi w 75 25 = nI op ∧ op ≤ 5) ∧ (wi w 75 26 = nI out.length ∧ ∀ j x, out[j]? = some x → wi w 81 (200 * n + j) = mcode x) ∧ h.length + out.length ≤ 160
theorem RH.nf {n op : Nat} {w w' : Wd} {h out : List Int32} (hR : RH n w h op out) (hF : NF w w') : RH n w' h op out := by
  obtain ⟨⟨a1, a2, a3⟩, ⟨b1, b2, b3⟩, ⟨c1, c2⟩, ⟨d1, d2⟩, e⟩ := hR
  exact ⟨⟨a1.same hF.1.1 hF.2.1, by rw [hF.2.2 9 (by decide)]; exact a2, a3⟩, ⟨by rw [hF.2.2 24 (by decide)]; exact b1, fun j x hx => by rw [(hF.1.2.2 90 (by decide)).1]; exact b2 j x hx, b3⟩, ⟨by rw [hF.2.2 25 (by decide)]; exact c1, c2⟩, ⟨by rw [hF.2.2 26 (by decide)]; exact d1, fun j x hx => by rw [(hF.1.2.2 81 (by decide)).1]; exact d2 j x hx⟩, e⟩
theorem set25 {n op op' : Nat} {w : Wd} {h out : List Int32} (hR : RH n w h op out) (h5 : op' ≤ 5) : RH n (sI w 75 25 (nI op')) h op' out := by
  obtain ⟨⟨a1, a2, a3⟩, ⟨b1, b2, b3⟩, ⟨c1, c2⟩, ⟨d1, d2⟩, e⟩ := hR
  have n75 : ∀ j, j ≠ 25 → wi (sI w 75 25 (nI op')) 75 j = wi w 75 j := fun j hj => by rw [wi_sI, if_neg (fun z => hj z.2)]
  exact ⟨⟨a1.same (fun _ => rfl) (fun _ => rfl), by rw [n75 9 (by decide)]; exact a2, a3⟩, ⟨by rw [n75 24 (by decide)]; exact b1, fun j x hx => by rw [wi_sI_ne (by decide)]; exact b2 j x hx, b3⟩, ⟨wi_at _ _ _ _, h5⟩, ⟨by rw [n75 26 (by decide)]; exact d1, fun j x hx => by rw [wi_sI_ne (by decide)]; exact d2 j x hx⟩, e⟩
theorem set24 {n op : Nat} {w : Wd} {x : Int32} {h out : List Int32} (hR : RH n w (x :: h) op out) : RH n (sI w 75 24 (nI h.length)) h op out := by
  obtain ⟨⟨a1, a2, a3⟩, ⟨b1, b2, b3⟩, ⟨c1, c2⟩, ⟨d1, d2⟩, e⟩ := hR
  have n75 : ∀ j, j ≠ 24 → wi (sI w 75 24 (nI h.length)) 75 j = wi w 75 j := fun j hj => by rw [wi_sI, if_neg (fun z => hj z.2)]
  rw [List.length_cons] at e
  refine ⟨⟨a1.same (fun _ => rfl) (fun _ => rfl), by rw [n75 9 (by decide)]; exact a2, a3⟩, ⟨wi_at _ _ _ _, fun j y hy => ?_, fun y hy => b3 y (List.mem_cons_of_mem _ hy)⟩, ⟨by rw [n75 25 (by decide)]; exact c1, c2⟩, ⟨by rw [n75 26 (by decide)]; exact d1, fun j x hx => by rw [wi_sI_ne (by decide)]; exact d2 j x hx⟩, by omega⟩
  rw [wi_sI_ne (by decide)]
  have := b2 (j + 1) y hy
  rw [List.length_cons, show h.length + 1 - 1 - (j + 1) = h.length - 1 - j by omega] at this
  exact this
theorem top90 {n op : Nat} {w : Wd} {x : Int32} {h out : List Int32} (hR : RH n w (x :: h) op out) : wi w 90 h.length = hc x ∧ okH x ∧ h.length < 160 := by
  obtain ⟨_, ⟨b1, b2, b3⟩, _, _, e⟩ := hR
  have := b2 0 x rfl
  rw [List.length_cons] at this e
  exact ⟨this, b3 x List.mem_cons_self, by omega⟩
theorem puts_r {n op : Nat} {w : Wd} {h out : List Int32} {x : Int32} (hR : RH n w h op out) (hb : h.length + out.length < 160) : ∃ w', f6_puts 75 (mcode x) w = some ((), w') ∧ RH n w' h op (out ++ [x]) ∧ HF n w w' := by
  obtain ⟨⟨a1, a2, a3⟩, ⟨b1, b2, b3⟩, ⟨c1, c2⟩, ⟨d1, d2⟩, e⟩ := hR
  have ea : (200 : Int32) * nI n + nI out.length = nI (200 * n + out.length) := by rw [show (200 : Int32) = nI 200 from rfl, nI_mul, nI_add]
  have hF : HF n w (sI (sI w 81 (200 * n + out.length) (mcode x)) 75 26 (nI (out.length + 1))) := (hf81 (by omega)).tr (hf75 ⟨by decide, by decide⟩)
  refine ⟨_, ?_, ?_, hF⟩
  · unfold f6_puts lw
    have e2 : wi (sI w 81 (200 * n + out.length) (mcode x)) 75 26 = nI out.length := by rw [wi_sI_ne (by decide)]; exact d1
    rw [ck_pos a1.t, a1.r7, a2, d1, ea, a1.l7, ck_pos (And.intro a1.t7 (vin (show 200 * n + out.length < 1200 by omega) (by decide))), nI_clamp (by omega)]
    show some ((), sI (sI w 81 (200 * n + out.length) (mcode x)) 75 26 (wi (sI w 81 (200 * n + out.length) (mcode x)) 75 26 + 1)) = _
    rw [e2, i3_1]
  · refine ⟨⟨a1.same hF.1.1 hF.2.1, by rw [hF.2.2.1 9 (by decide)]; exact a2, a3⟩, ⟨?_, fun j y hy => ?_, b3⟩, ⟨?_, c2⟩, ⟨?_, fun j y hy => ?_⟩, by rw [List.length_append]; show h.length + (out.length + 1) ≤ 160; omega⟩
    · rw [wi_sI, if_neg (fun z => absurd z.2 (by decide)), wi_sI_ne (by decide)]; exact b1
    · rw [wi_sI_ne (by decide), wi_sI_ne (by decide)]; exact b2 j y hy
    · rw [wi_sI, if_neg (fun z => absurd z.2 (by decide)), wi_sI_ne (by decide)]; exact c1
    · rw [wi_at, List.length_append]; rfl
    · rw [wi_sI_ne (by decide), wi_sI]
      rcases snoc_at hy with ⟨e1, e2⟩ | ⟨e1, e2⟩
      · rw [if_pos ⟨rfl, by omega⟩, e2]
      · rw [if_neg (fun z => by have := z.2; omega)]
        exact d2 j y e2
theorem holds_r {n op : Nat} {w : Wd} {h out : List Int32} {x : Int32} (hR : RH n w h op out) (hx : okH x) (hb : h.length + out.length < 160) : ∃ w', f6_holds 75 (hc x) w = some ((), w') ∧ RH n w' (x :: h) op out ∧ HF n w w' := by
  obtain ⟨⟨a1, a2, a3⟩, ⟨b1, b2, b3⟩, ⟨c1, c2⟩, ⟨d1, d2⟩, e⟩ := hR
  have hF : HF n w (sI (sI w 90 h.length (hc x)) 75 24 (nI (h.length + 1))) := hf90.tr (hf75 ⟨by decide, by decide⟩)
  refine ⟨_, ?_, ?_, hF⟩
  · unfold f6_holds lw
    have e2 : wi (sI w 90 h.length (hc x)) 75 24 = nI h.length := by rw [wi_sI_ne (by decide)]; exact b1
    rw [ck_pos a1.t, a1.r23, b1, a1.l23, ck_pos (And.intro a1.t23 (vin (show h.length < 200 by omega) (by decide))), nI_clamp (by omega)]
    show some ((), sI (sI w 90 h.length (hc x)) 75 24 (wi (sI w 90 h.length (hc x)) 75 24 + 1)) = _
    rw [e2, i3_1]
  · refine ⟨⟨a1.same hF.1.1 hF.2.1, by rw [hF.2.2.1 9 (by decide)]; exact a2, a3⟩, ⟨wi_at _ _ _ _, fun j y hy => ?_, fun y hy => ?_⟩, ⟨?_, c2⟩, ⟨?_, fun j y hy => ?_⟩, by rw [List.length_cons]; omega⟩
    · rw [wi_sI_ne (by decide), wi_sI, List.length_cons]
      cases j with
      | zero =>
        rw [if_pos ⟨rfl, by omega⟩]
        rw [Option.some.inj hy]
      | succ j =>
        have hj : j < h.length := by
          have h2 : h[j]? = some y := hy
          exact (List.getElem?_eq_some_iff.mp h2).1
        rw [if_neg (fun z => by have := z.2; omega), show h.length + 1 - 1 - (j + 1) = h.length - 1 - j by omega]
        exact b2 j y hy
    · rcases List.mem_cons.mp hy with z | z
      · rw [z]; exact hx
      · exact b3 y z
    · rw [wi_sI, if_neg (fun z => absurd z.2 (by decide)), wi_sI_ne (by decide)]; exact c1
    · rw [wi_sI, if_neg (fun z => absurd z.2 (by decide)), wi_sI_ne (by decide)]; exact d1
    · rw [wi_sI_ne (by decide), wi_sI_ne (by decide)]; exact d2 j y hy
