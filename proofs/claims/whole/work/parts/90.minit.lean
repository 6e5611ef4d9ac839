/-! the reference's constructor -/
def putsI (a : Nat) : List Int32 → Nat → Wd → Wd
  | [], _, w => w
  | v :: l, i, w => putsI a l (i + 1) (sI w a i v)
theorem puts_sh (a : Nat) : ∀ (l : List Int32) (i : Nat) (w : Wd), sh (putsI a l i w) = sh w ∧ wr (putsI a l i w) = wr w ∧ nx (putsI a l i w) = nx w
  | [], _, _ => ⟨rfl, rfl, rfl⟩
  | v :: l, i, w => puts_sh a l (i + 1) (sI w a i v)
theorem puts_wi (a : Nat) : ∀ (l : List Int32) (i : Nat) (w : Wd) (b k : Nat), wi (putsI a l i w) b k = if b = a ∧ i ≤ k ∧ k < i + l.length then l.getD (k - i) 0 else wi w b k
  | [], i, w, b, k => by rw [if_neg (fun z => by have h1 := z.2.1; have h2 : k < i + 0 := z.2.2; omega)]; rfl
  | v :: l, i, w, b, k => by
    show wi (putsI a l (i + 1) (sI w a i v)) b k = _
    rw [puts_wi a l (i + 1) (sI w a i v) b k, wi_sI, List.length_cons]
    by_cases hb : b = a
    · by_cases hk : k = i
      · rw [if_neg (fun z => by omega), if_pos ⟨hb, hk⟩, if_pos ⟨hb, by omega, by omega⟩, hk, Nat.sub_self]
        rfl
      · by_cases h2 : i + 1 ≤ k ∧ k < i + 1 + l.length
        · rw [if_pos ⟨hb, h2⟩, if_pos ⟨hb, by omega, by omega⟩]
          obtain ⟨d, hd⟩ : ∃ d, k - i = d + 1 := ⟨k - i - 1, by omega⟩
          rw [hd, show k - (i + 1) = d by omega]
          rfl
        · rw [if_neg (fun z => h2 z.2), if_neg (show ¬ (b = a ∧ k = i) from fun z => hk z.2), if_neg (fun z => h2 ⟨by omega, by omega⟩)]
    · rw [if_neg (fun z => hb z.1), if_neg (fun z => hb z.1), if_neg (fun z => hb z.1)]
def mG (i : Nat) : Nat × Nat × Nat := mTab.getD i (0, 0, 0)
def vG (i : Nat) : List Int32 := if i = 3 then [0, 200, 0, 5] else if i = 9 then [-1, -1, -1, -1] else if i = 12 then fT else if i = 13 then wTab else []
theorem mG_f : ∀ i, i < 18 → (mG i).2.1 = 76 + i ∧ ∀ j, j < 18 → j ≠ i → (mG j).1 ≠ (mG i).1 := by decide
theorem mG_all : ∀ x ∈ mTab, ∃ j, j < 18 ∧ mG j = x := by decide
def PreM (i : Nat) (w0 w : Wd) : Prop := sh w 75 = (6, 0) ∧ nx w = 76 + i ∧ (∀ j, j < i → wr w 75 (mG j).1 = 76 + j ∧ sh w (76 + j) = (20, (mG j).2.2)) ∧ (∀ k, wi w 75 k = 0) ∧ (∀ j, j < i → ∀ k, wi w (76 + j) k = (vG j).getD k 0) ∧ OldW w0 w 75
def stp (i : Nat) (w : Wd) : Wd := sR (putsI (76 + i) (vG i) 0 (wN w 20 (mG i).2.2)) 75 (mG i).1 (76 + i)
theorem pre_stp {i : Nat} {w0 w : Wd} (hi : i < 18) (h : PreM i w0 w) : PreM (i + 1) w0 (stp i w) := by
  obtain ⟨h1, h2, h3, h4, h5, h6⟩ := h
  obtain ⟨m1, m2⟩ := mG_f i hi
  obtain ⟨p1, p2, p3⟩ := puts_sh (76 + i) (vG i) 0 (wN w 20 (mG i).2.2)
  have s : ∀ a, sh (stp i w) a = if a = 76 + i then (20, (mG i).2.2) else sh w a := fun a => by
    show sh (putsI (76 + i) (vG i) 0 (wN w 20 (mG i).2.2)) a = _
    rw [p1, sh_wN, h2]
  have r : ∀ a k, wr (stp i w) a k = if a = 75 ∧ k = (mG i).1 then 76 + i else (if a = 76 + i then 0 else wr w a k) := fun a k => by
    show wr (sR (putsI (76 + i) (vG i) 0 (wN w 20 (mG i).2.2)) 75 (mG i).1 (76 + i)) a k = _
    rw [wr_sR, p2, wr_wN, h2]
  have v : ∀ a k, wi (stp i w) a k = if a = 76 + i then (vG i).getD k 0 else wi w a k := fun a k => by
    show wi (putsI (76 + i) (vG i) 0 (wN w 20 (mG i).2.2)) a k = _
    rw [puts_wi, wi_wN, h2]
    by_cases ha : a = 76 + i
    · rw [if_pos ha, if_pos ha]
      by_cases hk : k < (vG i).length
      · rw [if_pos ⟨ha, Nat.zero_le _, by omega⟩, Nat.sub_zero]
      · rw [if_neg (fun z => hk (by omega)), List.getD_eq_getElem?_getD, List.getElem?_eq_none (by omega)]
        rfl
    · rw [if_neg (fun z => ha z.1), if_neg ha, if_neg ha]
  refine ⟨by rw [s, if_neg (by omega)]; exact h1, ?_, fun j hj => ?_, fun k => by rw [v, if_neg (by omega)]; exact h4 k, fun j hj k => ?_, fun a ha => ?_⟩
  · show nx (putsI (76 + i) (vG i) 0 (wN w 20 (mG i).2.2)) = _
    rw [p3, nx_wN, h2]
    rfl
  · rw [r, s]
    by_cases e : j = i
    · rw [e, if_pos ⟨rfl, rfl⟩, if_pos rfl]
      exact ⟨rfl, rfl⟩
    · rw [if_neg (fun z => m2 j (by omega) e z.2), if_neg (by omega), if_neg (by omega)]
      exact h3 j (by omega)
  · rw [v]
    by_cases e : j = i
    · rw [e, if_pos rfl]
    · rw [if_neg (by omega)]
      exact h5 j (by omega) k
  · obtain ⟨o1, o2, o3⟩ := h6 a ha
    refine ⟨by rw [s, if_neg (by omega)]; exact o1, fun k => by rw [v, if_neg (by omega)]; exact o2 k, fun k => ?_⟩
    rw [r, if_neg (fun z => by omega), if_neg (by omega)]
    exact o3 k
theorem tg75 {i : Nat} {w0 w : Wd} {n : Nat} (l : List Int32) (h : PreM i w0 w) : tg (putsI (76 + i) l 0 (wN w 20 n)) 75 = 6 := by
  unfold tg
  rw [(puts_sh (76 + i) l 0 (wN w 20 n)).1, sh_wN, h.2.1, if_neg (by omega), h.1]
