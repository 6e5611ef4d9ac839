/-! eRead() of the reference -/
theorem le_ne {t c : Int32} (h : t ≤ 10005) (hc : 10005 < c.toInt) : t ≠ c := fun e => by
  rw [e, ile, show (10005 : Int32).toInt = 10005 from rfl] at h
  omega
theorem cv_all (t : Int32) : (t ≤ 9999 ∧ t ≤ 10005 ∧ cvT t = 1) ∨ (¬ t ≤ 9999 ∧ t ≤ 10005 ∧ cvT t = 2) ∨ t = 10010 ∨ t = 10011 ∨ t = 10012 ∨ t = 10014 ∨ t = 10015 ∨ t = 10016 ∨ t = 10017 ∨ t = 10018 ∨ t = 10020 ∨ t = 10021 ∨ t = 10022 ∨ t = 10030 ∨ t = 10031 ∨ t = 10032 ∨ (cvT t = -1 ∧ ¬ t ≤ 9999 ∧ ¬ t ≤ 10005 ∧ t ≠ 10010 ∧ t ≠ 10011 ∧ t ≠ 10012 ∧ t ≠ 10014 ∧ t ≠ 10015 ∧ t ≠ 10016 ∧ t ≠ 10017 ∧ t ≠ 10018 ∧ t ≠ 10020 ∧ t ≠ 10021 ∧ t ≠ 10022 ∧ t ≠ 10030 ∧ t ≠ 10031 ∧ t ≠ 10032) := by
  by_cases a1 : t ≤ 9999
  · refine Or.inl ⟨a1, ?_, by unfold cvT; rw [if_pos a1]⟩
    rw [ile, show (9999 : Int32).toInt = 9999 from rfl] at a1
    rw [ile, show (10005 : Int32).toInt = 10005 from rfl]
    omega
  by_cases a2 : t ≤ 10005
  · exact Or.inr (Or.inl ⟨a1, a2, by unfold cvT; rw [if_neg a1, if_pos a2]⟩)
  by_cases h1 : t = 10010
  · simp only [h1, true_or, or_true]
  by_cases h2 : t = 10011
  · simp only [h2, true_or, or_true]
  by_cases h3 : t = 10012
  · simp only [h3, true_or, or_true]
  by_cases h4 : t = 10014
  · simp only [h4, true_or, or_true]
  by_cases h5 : t = 10015
  · simp only [h5, true_or, or_true]
  by_cases h6 : t = 10016
  · simp only [h6, true_or, or_true]
  by_cases h7 : t = 10017
  · simp only [h7, true_or, or_true]
  by_cases h8 : t = 10018
  · simp only [h8, true_or, or_true]
  by_cases h9 : t = 10020
  · simp only [h9, true_or, or_true]
  by_cases h10 : t = 10021
  · simp only [h10, true_or, or_true]
  by_cases h11 : t = 10022
  · simp only [h11, true_or, or_true]
  by_cases h12 : t = 10030
  · simp only [h12, true_or, or_true]
  by_cases h13 : t = 10031
  · simp only [h13, true_or, or_true]
  by_cases h14 : t = 10032
  · simp only [h14, true_or, or_true]
  refine Or.inr (Or.inr (Or.inr (Or.inr (Or.inr (Or.inr (Or.inr (Or.inr (Or.inr (Or.inr (Or.inr (Or.inr (Or.inr (Or.inr (Or.inr (Or.inr ⟨?_, a1, a2, h1, h2, h3, h4, h5, h6, h7, h8, h9, h10, h11, h12, h13, h14⟩)))))))))))))))
  unfold cvT
  rw [if_neg a1, if_neg a2, if_neg h1, if_neg h2, if_neg h3, if_neg h4, if_neg h5, if_neg h6, if_neg h7, if_neg h8, if_neg h9, if_neg h10, if_neg h11, if_neg (fun z => z.elim h12 fun z => z.elim h13 h14)]
def sgV (c : Int32) : Int32 := if c = 4 then 11 else if c = 5 then 12 else if c = 60 then 14 else if c = 61 then 15 else if c = 43 then 16 else if c = 45 then 17 else if c = 42 then 18 else -1
def CvF (t : Int32) : Prop := (cvT t = 59 ↔ t = 10022) ∧ (cvT t = 41 ↔ t = 10021) ∧ (cvT t = 6 ↔ t = 10012) ∧ (cvT t = 45 ↔ t = 10017) ∧ (cvT t = 40 ↔ t = 10020) ∧ (cvT t = 1 ↔ t ≤ 9999) ∧ (cvT t = 2 ↔ (¬ t ≤ 9999 ∧ t ≤ 10005)) ∧ (cvT t = 3 ↔ (t = 10030 ∨ t = 10031 ∨ t = 10032)) ∧ cvT t ≠ 0 ∧ sgV (cvT t) = if isSg t then mcode t else -1
theorem cvF (t : Int32) : CvF t := by
  rcases cv_all t with ⟨a1, a2, e⟩ | ⟨a1, a2, e⟩ | rfl | rfl | rfl | rfl | rfl | rfl | rfl | rfl | rfl | rfl | rfl | rfl | rfl | rfl | ⟨e, a1, a2, h1, h2, h3, h4, h5, h6, h7, h8, h9, h10, h11, h12, h13, h14⟩
  · have n := fun c hc => le_ne (t := t) (c := c) a2 hc
    exact ⟨by rw [e]; exact ⟨fun z => absurd z (by decide), fun z => absurd z (n _ (by decide))⟩, by rw [e]; exact ⟨fun z => absurd z (by decide), fun z => absurd z (n _ (by decide))⟩, by rw [e]; exact ⟨fun z => absurd z (by decide), fun z => absurd z (n _ (by decide))⟩, by rw [e]; exact ⟨fun z => absurd z (by decide), fun z => absurd z (n _ (by decide))⟩, by rw [e]; exact ⟨fun z => absurd z (by decide), fun z => absurd z (n _ (by decide))⟩, by rw [e]; exact ⟨fun _ => a1, fun _ => rfl⟩, by rw [e]; exact ⟨fun z => absurd z (by decide), fun z => absurd a1 z.1⟩, by rw [e]; exact ⟨fun z => absurd z (by decide), fun z => z.elim (fun z => absurd z (n _ (by decide))) fun z => z.elim (fun z => absurd z (n _ (by decide))) fun z => absurd z (n _ (by decide))⟩, by rw [e]; decide, by
      rw [e, if_neg]
      · rfl
      · rintro (z | z | z | z | z | z | z) <;> exact n _ (by decide) z⟩
  · have n := fun c hc => le_ne (t := t) (c := c) a2 hc
    exact ⟨by rw [e]; exact ⟨fun z => absurd z (by decide), fun z => absurd z (n _ (by decide))⟩, by rw [e]; exact ⟨fun z => absurd z (by decide), fun z => absurd z (n _ (by decide))⟩, by rw [e]; exact ⟨fun z => absurd z (by decide), fun z => absurd z (n _ (by decide))⟩, by rw [e]; exact ⟨fun z => absurd z (by decide), fun z => absurd z (n _ (by decide))⟩, by rw [e]; exact ⟨fun z => absurd z (by decide), fun z => absurd z (n _ (by decide))⟩, by rw [e]; exact ⟨fun z => absurd z (by decide), fun z => absurd z a1⟩, by rw [e]; exact ⟨fun _ => ⟨a1, a2⟩, fun _ => rfl⟩, by rw [e]; exact ⟨fun z => absurd z (by decide), fun z => z.elim (fun z => absurd z (n _ (by decide))) fun z => z.elim (fun z => absurd z (n _ (by decide))) fun z => absurd z (n _ (by decide))⟩, by rw [e]; decide, by
      rw [e, if_neg]
      · rfl
      · rintro (z | z | z | z | z | z | z) <;> exact n _ (by decide) z⟩
  all_goals first
    | exact ⟨by decide, by decide, by decide, by decide, by decide, by decide, by decide, by decide, by decide, by decide⟩
    | skip
  exact ⟨by rw [e]; exact ⟨fun z => absurd z (by decide), fun z => absurd z h11⟩, by rw [e]; exact ⟨fun z => absurd z (by decide), fun z => absurd z h10⟩, by rw [e]; exact ⟨fun z => absurd z (by decide), fun z => absurd z h3⟩, by rw [e]; exact ⟨fun z => absurd z (by decide), fun z => absurd z h7⟩, by rw [e]; exact ⟨fun z => absurd z (by decide), fun z => absurd z h9⟩, by rw [e]; exact ⟨fun z => absurd z (by decide), fun z => absurd z a1⟩, by rw [e]; exact ⟨fun z => absurd z (by decide), fun z => absurd z.2 a2⟩, by rw [e]; exact ⟨fun z => absurd z (by decide), fun z => z.elim (fun z => absurd z h12) fun z => z.elim (fun z => absurd z h13) fun z => absurd z h14⟩, by rw [e]; decide, by
    rw [e, if_neg]
    · rfl
    · rintro (z | z | z | z | z | z | z)
      · exact h1 z
      · exact h2 z
      · exact h4 z
      · exact h5 z
      · exact h6 z
      · exact h7 z
      · exact h8 z⟩
theorem signOf_r {w : Wd} (ht : tg w 75 = 6) : f6_signOf 75 w = some (sgV (wi w 75 20), w) := by
  unfold f6_signOf sgV
  rw [ck_pos ht]
  by_cases h1 : wi w 75 20 = 4
  · rw [if_pos h1, if_pos h1]
  rw [if_neg h1, if_neg h1]
  by_cases h2 : wi w 75 20 = 5
  · rw [if_pos h2, if_pos h2]
  rw [if_neg h2, if_neg h2]
  by_cases h3 : wi w 75 20 = 60
  · rw [if_pos h3, if_pos h3]
  rw [if_neg h3, if_neg h3]
  by_cases h4 : wi w 75 20 = 61
  · rw [if_pos h4, if_pos h4]
  rw [if_neg h4, if_neg h4]
  by_cases h5 : wi w 75 20 = 43
  · rw [if_pos h5, if_pos h5]
  rw [if_neg h5, if_neg h5]
  by_cases h6 : wi w 75 20 = 45
  · rw [if_pos h6, if_pos h6]
  rw [if_neg h6, if_neg h6]
  by_cases h7 : wi w 75 20 = 42
  · rw [if_pos h7, if_pos h7]
  rw [if_neg h7, if_neg h7]
