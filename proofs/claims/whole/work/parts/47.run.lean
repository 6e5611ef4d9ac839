/-! run -/
def runA (S : SS) (n : Nat) (x : Int32) (k : Nat) : Int32 := if x = 0 then bitM (goC S.2.1 S.1 n) else if x = 1 then joyM (goC S.2.1 S.1 n) else if x = 2 then (goC S.2.1 S.1 n).1.1 1 else if x = 3 then (goC S.2.1 S.1 n).1.1 2 else if 20 ≤ x then (goC S.2.1 S.1 n).1.2 k 4 else (goC S.2.1 S.1 n).1.2 k 3
/-- what is asked for -/
def runQ (S : SS) (x : Int32) (k : Nat) : Prop := (0 ≤ x ∧ x ≤ 3) ∨ k < S.1.2.1 ∧ (x = nI (10 + k) ∨ x = nI (20 + k))
theorem run_c {S : SS} {w : Wd} {n k : Nat} {x : Int32} (h : RC S w) (hn : n ≤ 40) (hm : S.1.2.1 ≤ 6) (hq : runQ S x k) : ∃ w', j5_run_53 32 (nI n) x w = some (runA S n x k, w') ∧ RC S w' ∧ OffM w w' := by
  obtain ⟨w1, a1, a2, a3⟩ := h.think
  obtain ⟨w2, b1, b2, b3⟩ := a2.behind (n := n) (by omega)
  refine ⟨w2, ?_, b2.1, jcM (a3.tr b3)⟩
  have h2 := b2.1
  have e8 : wr w2 32 4 = 50 := h2.1.1.2.2.2.2.1
  have e9 : tg w2 50 = 1 := b2.2.1.tgA
  have eb := bits_cls b2.2.1
  unfold j5_run_53 runA
  rw [ck_pos h.t, a1, Option.bind_some]
  dsimp only
  rw [b1, Option.bind_some]
  dsimp only
  rw [e8]
  by_cases x0 : x = 0
  · rw [if_pos x0, if_pos x0, ck_pos e9, eb]
    rfl
  rw [if_neg x0, if_neg x0]
  by_cases x1 : x = 1
  · rw [if_pos x1, if_pos x1]
  rw [if_neg x1, if_neg x1]
  by_cases x2 : x = 2
  · rw [if_pos x2, if_pos x2, ck_pos e9, b2.2.1.hut (by decide : 1 < 4)]
  rw [if_neg x2, if_neg x2]
  by_cases x3 : x = 3
  · rw [if_pos x3, if_pos x3, ck_pos e9, b2.2.1.hut (by decide : 2 < 4)]
  rw [if_neg x3, if_neg x3]
  have hk : k < S.1.2.1 ∧ (x = nI (10 + k) ∨ x = nI (20 + k)) := hq.resolve_left fun z => by
    obtain ⟨k, hk, rfl⟩ := four x z
    rcases (by omega : k = 0 ∨ k = 1 ∨ k = 2 ∨ k = 3) with rfl | rfl | rfl | rfl
    · exact x0 rfl
    · exact x1 rfl
    · exact x2 rfl
    · exact x3 rfl
  obtain ⟨hk, hx⟩ := hk
  have hb' : k < (goC S.2.1 S.1 n).2.1 := by rw [goC_2]; exact hk
  obtain ⟨e1, e2, e3, e4, e5, e6, e7, _, _⟩ := b2.bat hb'
  rcases hx with rfl | rfl
  · have hl : ¬ (20 : Int32) ≤ nI (10 + k) := by rw [ile, nI_int (by omega), show (20 : Int32).toInt = 20 from rfl]; omega
    have e10 : nI (10 + k) - 10 = nI k := by
      rw [ieq, isub] <;> rw [nI_int (by omega), show (10 : Int32).toInt = 10 from rfl]
      · rw [nI_int (by omega)]; omega
      · omega
      · omega
    rw [if_neg hl, if_neg hl, ck_pos e9, e10, e1, e3, ck_pos (And.intro e2 e6), e7, e4, ck_pos e5, b2.2.1.row hb' (by decide : 3 < 5)]
  · have hl : (20 : Int32) ≤ nI (20 + k) := by rw [ile, nI_int (by omega), show (20 : Int32).toInt = 20 from rfl]; omega
    have e10 : nI (20 + k) - 20 = nI k := by
      rw [ieq, isub] <;> rw [nI_int (by omega), show (20 : Int32).toInt = 20 from rfl]
      · rw [nI_int (by omega)]; omega
      · omega
      · omega
    rw [if_pos hl, if_pos hl, ck_pos e9, e10, e1, e3, ck_pos (And.intro e2 e6), e7, e4, ck_pos e5, b2.2.1.row hb' (by decide : 4 < 5)]
