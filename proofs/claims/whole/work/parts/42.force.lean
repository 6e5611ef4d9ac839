/-! force -/
theorem HutC.setT {w : Wd} {a many T : Nat} {s : HS} {F B G F' B' G' : List Int32} (h : HutC w a many s F B G) (ht : TxtAt w T F' B' G') (hT : T ≠ a) (hok : okP F' 0 ∧ okP B' 0 ∧ okP G' 0) : HutC (sR w a 5 T) a many s F' B' G' := by
  obtain ⟨a1, a2, a3, a4, a5, a6, a7, a8, a9, a10⟩ := h
  refine ⟨a1, ?_, a3, fun b hb => ⟨?_, (a4 b hb).2⟩, a5, a6, a7, a8, ?_, hok⟩
  · rw [wr_sR, if_neg (fun z => absurd z.2 (by decide))]; exact a2
  · rw [wr_sR_ne (by omega)]; exact (a4 b hb).1
  · rw [wr_sR, if_pos ⟨rfl, rfl⟩]
    unfold TxtAt at ht ⊢
    rw [wr_sR_ne hT, wr_sR_ne hT]
    exact ht
def forceS (S : SS) (t : Nat) : SS := ((S.1.1, S.1.2.1, t), S.2)
theorem SI.pg {S : SS} (h : SI S) {t : Nat} (ht : t < S.2.1.length) : okPG (pgs S.2.1 t) := h.2.1.2.2 t ht
theorem RM.rule {S : SS} {w : Wd} {t : Nat} (h : RM S w) (ht : t < S.2.1.length) (hok : okPG (pgs S.2.1 t)) : RM (forceS S t) (sI w 75 10 (nI t)) := by
  obtain ⟨a1, a2, a3, a4, a5, a6, a7, a8, a9⟩ := h.1
  refine h.upd (c' := (S.1.1, S.1.2.1, t)) ⟨a1, ?_, a3, fun k hk => ?_, fun b hb => ?_, ?_, ?_, hok.1, hok.2.1⟩ (fun q h1 h2 k => wi_sI_ne (by omega) k) (fun k hk => ?_)
  · rw [wi_sI, if_neg (fun z => absurd z.2 (by decide))]; exact a2
  · rw [wi_sI_ne (by decide)]; exact a4 k hk
  · simp only [wi_sI_ne (show (76 : Nat) ≠ 75 by decide), wi_sI_ne (show (77 : Nat) ≠ 75 by decide), wi_sI_ne (show (78 : Nat) ≠ 75 by decide)]
    exact a5 b hb
  · rw [wi_sI, if_pos ⟨rfl, rfl⟩]
  · have hp := h.2.1.2 t ht
    unfold ProgM at hp ⊢
    simp only [wi_sI_ne (show (81 : Nat) ≠ 75 by decide), wi_sI_ne (show (82 : Nat) ≠ 75 by decide)]
    exact hp
  · rw [wi_sI, if_neg (fun z => by omega)]
theorem offR {w : Wd} {v : Nat} : OffM w (sR w 42 5 v) := ncM (Fr.sR (nc42 (by decide) (by decide)))
theorem tcase (x : Int32) {n : Nat} (hn : n ≤ 6) : (∃ k, k < n ∧ x = nI k) ∨ (x < 0 ∨ nI n ≤ x) := bcase x hn
theorem force_pair (x : Int32) : Pair (f5_force 32 x) (f6_force 75 x) := pair_of fun S hS => by
  have hn : (nI S.2.1.length - 1).toInt = (S.2.1.length : Int) - 1 := by
    have := hS.2.1.2.1
    rw [isub] <;> rw [nI_int (by omega), show (1 : Int32).toInt = 1 from rfl] <;> omega
  have hl := hS.2.1.2.1
  rcases tcase x hS.2.1.2.1 with ⟨t, ht, rfl⟩ | hx
  · have h0 : ¬ nI t < 0 := by rw [ilt, nI_int (by omega), show (0 : Int32).toInt = 0 from rfl]; omega
    refine ⟨(nI S.1.2.2, forceS S t), fun w h => ?_, fun w h => ?_, ?_⟩
    · obtain ⟨t1, t2, t3, t4, t5⟩ := h.2.2.1.2.2 t ht
      have tS := h.2.2.1.2.2 S.1.2.2 h.2.1.2.2
      have hne : txL t ≠ 42 := by unfold txL; split <;> omega
      refine ⟨sR w 42 5 (txL t), ?_, h.upd (c' := (S.1.1, S.1.2.1, t)) (Fr.sR (nc42 (by decide) (by decide))) ⟨h.hc.setT t3 hne (hS.pg ht).1, by rw [wr_sR, if_pos ⟨rfl, rfl⟩], ht⟩ ?_, offR⟩
      · have hl6 : ln w 41 = 6 := ln_eq h.1.2.2.1.1
        unfold f5_force
        rw [if_neg h0, ck_pos h.t, h.2.2.1.1, if_neg (nI_ge ht (by omega)), h.1.1.2.2.1, ck_pos (tg_eq h.1.2.2.1.1), hl6, if_pos (by rw [ilt, nI_int (by omega)]; show (t : Int) < 6; omega), h.r3, ck_pos h.t42, ck_pos h.hc.tgT, ck_pos (vin (by omega) (by decide)), nI_clamp (by omega), t1, h.2.1.2.1, tS.2.1]
        rfl
      · obtain ⟨x1, x2, x3, x4⟩ := h.h50
        exact ⟨x1, by rw [wr_sR_ne (by decide)]; exact x2, x3, fun b hb => ⟨by rw [wr_sR_ne (by decide)]; exact (x4 b hb).1, (x4 b hb).2⟩⟩
    · refine ⟨sI w 75 10 (nI t), ?_, h.rule ht (hS.pg ht), (Fr.sI (P := (· = 75)) rfl).offC fun q z => by subst z; decide⟩
      unfold f6_force
      rw [ck_pos h.1.1.t, h.2.1.1]
      rcases within2 (nI t) 0 (nI S.2.1.length - 1) with ⟨h1, h2⟩ | ⟨h1, h2⟩
      · rw [(h2 w).1, Option.bind_some, if_neg (show ¬ (1 : Int32) = 0 by decide)]
        dsimp only
        rw [h.1.2.2.2.2.2.1]
        rfl
      · refine absurd ⟨?_, ?_⟩ h1
        · rw [ilt] at h0; rw [ile]; omega
        · rw [ile, hn, nI_int (by omega)]; omega
    · obtain ⟨⟨a1, a2, a3, a6, a7⟩, _⟩ := id hS
      exact hS.upd (c' := (S.1.1, S.1.2.1, t)) ⟨a1, ht, a3, a6, a7⟩ rfl fun b _ => ⟨rfl, rfl⟩
  · refine ⟨(-2, S), fun w h => ⟨w, ?_, h, OffM.rf⟩, fun w h => ⟨w, ?_, h, OffC.rf⟩, hS⟩
    · unfold f5_force
      by_cases h0 : x < 0
      · rw [if_pos h0]
      · rw [if_neg h0, ck_pos h.t, h.2.2.1.1, if_pos (hx.resolve_left h0)]
    · unfold f6_force
      rw [ck_pos h.1.1.t, h.2.1.1]
      rcases within2 x 0 (nI S.2.1.length - 1) with ⟨h1, h2⟩ | ⟨h1, h2⟩
      · rw [ile, ile, hn, show (0 : Int32).toInt = 0 from rfl] at h1
        rw [ilt, ile, nI_int (by omega), show (0 : Int32).toInt = 0 from rfl] at hx
        omega
      · rw [(h2 w).1, Option.bind_some, if_pos rfl]
