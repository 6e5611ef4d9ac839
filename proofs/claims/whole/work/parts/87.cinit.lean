/-! the class's constructor -/
def wA0 : Wd := sR (wN (sR (wN (sR (wN (sR (wN (wN (wN w00 5 0) 3 0) 20 160) 33 0 34) 20 160) 33 2 35) 20 160) 33 3 36) 20 160) 33 6 37
def wA : Wd := sR wA0 32 0 33
theorem f3i : f3_init 33 (wN (wN w00 5 0) 3 0) = some ((), wA0) := by
  unfold f3_init lw
  rw [ck_pos (show tg (wN (wN w00 5 0) 3 0) 33 = 3 from rfl)]
  rfl
def OldX (w w' : Wd) (Q : Nat) : Prop := ∀ a, a < Q → sh w' a = sh w a ∧ (∀ k, wi w' a k = wi w a k) ∧ ∀ k, ¬ (a = 32 ∧ (k = 3 ∨ k = 4 ∨ k = 5 ∨ k = 7)) → wr w' a k = wr w a k
theorem OldX.tr {a b c : Wd} {Q : Nat} (h1 : OldX a b Q) (h2 : OldX b c Q) : OldX a c Q := fun x hx => ⟨(h2 x hx).1.trans (h1 x hx).1, fun k => ((h2 x hx).2.1 k).trans ((h1 x hx).2.1 k), fun k z => ((h2 x hx).2.2 k z).trans ((h1 x hx).2.2 k z)⟩
theorem OldW.x {a b : Wd} {Q : Nat} (h : OldW a b Q) : OldX a b Q := fun x hx => ⟨(h x hx).1, (h x hx).2.1, fun k _ => (h x hx).2.2 k⟩
theorem OldX.le {a b : Wd} {Q Q' : Nat} (h : OldX a b Q) (hq : Q' ≤ Q) : OldX a b Q' := fun x hx => h x (Nat.lt_of_lt_of_le hx hq)
theorem oldX32 {w : Wd} {k v Q : Nat} (h : k = 3 ∨ k = 4 ∨ k = 5 ∨ k = 7) : OldX w (sR w 32 k v) Q := fun a ha => ⟨rfl, fun _ => rfl, fun j hj => by rw [wr_sR, if_neg (fun z => hj ⟨z.1, by rw [z.2]; exact h⟩)]⟩
theorem HI.oldX {w w' : Wd} {a t Q : Nat} (h : HI w a t 6) (hO : OldX w w' Q) (hq : a + 8 ≤ Q) (h32 : 32 < a) : HI w' a t 6 := by
  obtain ⟨h1, h2, h3, h4, h5, h6, h7⟩ := h
  have o := fun j (hj : j < 8) => hO (a + j) (by omega)
  have o0 := hO a (by omega)
  have o1 := o 1 (by decide)
  refine ⟨by rw [o0.1]; exact h1, by rw [o0.2.2 _ (fun z => by have := z.1; omega)]; exact h2, by rw [o1.1]; exact h3, by rw [o0.2.2 _ (fun z => by have := z.1; omega)]; exact h4, fun k hk => by rw [o0.2.1]; exact h5 k hk, by rw [o0.2.1]; exact h6, fun b hb => ?_⟩
  rw [o1.2.2 _ (fun z => by have := z.1; omega), show a + 2 + b = a + (2 + b) by omega, (o (2 + b) (by omega)).1, ← Nat.add_assoc]
  exact h7 b hb
noncomputable def rest5 (w36 : Wd) : Option (Unit × Wd) := lw (wN w36 1 0) fun w39 => ((f1_init (nx w36) 38 w39).bind fun z42 => (lw (sR z42.2 32 3 (nx w36)) fun w45 => (lw (wN w45 1 0) fun w48 => ((f1_init (nx w45) 38 w48).bind fun z51 => (lw (sR z51.2 32 4 (nx w45)) fun w54 => (lw (wN w54 1 0) fun w57 => ((f1_init (nx w54) 38 w57).bind fun z60 => (lw (sR z60.2 32 5 (nx w54)) fun w63 => (lw (wN w63 23 4) fun w66 => (lw (sR w66 32 7 (nx w63)) fun w68 => (loopF (b5_init_116) 5 (32, (0 : Int32)) w68)))))))))))
/-- what stands at the constructor's end above the texts -/
def UpC (w : Wd) : Prop := HI w 42 38 6 ∧ HI w 50 38 6 ∧ HI w 58 38 6 ∧ (wr w 32 3 = 42 ∧ wr w 32 4 = 50 ∧ wr w 32 5 = 58 ∧ wr w 32 7 = 66) ∧ sh w 66 = (23, 4) ∧ ∀ s, s < 4 → wr w 66 s = 67 + 2 * s ∧ HSh w (67 + 2 * s)
theorem rest_i {w : Wd} (h32 : sh w 32 = (5, 0)) (hx : nx w = 42) : ∃ w', rest5 w = some ((), w') ∧ OldX w w' 42 ∧ nx w' = 75 ∧ UpC w' := by
  obtain ⟨w1, a1, a2, a3, a4⟩ := hut_i (t := 38) hx
  have n1 : nx (sR w1 32 3 42) = 50 := a3
  obtain ⟨w2, b1, b2, b3, b4⟩ := hut_i (t := 38) n1
  have n2 : nx (sR w2 32 4 50) = 58 := b3
  obtain ⟨w3, c1, c2, c3, c4⟩ := hut_i (t := 38) n2
  have n3 : nx (sR w3 32 5 58) = 66 := c3
  have n4 : nx (sR (wN (sR w3 32 5 58) 23 4) 32 7 66) = 67 := by rw [nx_sR, nx_wN, n3]
  have X1 : OldX w (sR w1 32 3 42) 42 := a2.x.tr (oldX32 (Or.inl rfl))
  have X2 : OldX (sR w1 32 3 42) (sR w2 32 4 50) 50 := b2.x.tr (oldX32 (Or.inr (Or.inl rfl)))
  have X3 : OldX (sR w2 32 4 50) (sR w3 32 5 58) 58 := c2.x.tr (oldX32 (Or.inr (Or.inr (Or.inl rfl))))
  have X4 : OldX (sR w3 32 5 58) (sR (wN (sR w3 32 5 58) 23 4) 32 7 66) 66 := (oldN (by omega)).x.tr (oldX32 (Or.inr (Or.inr (Or.inr rfl))))
  have s32 : sh (sR (wN (sR w3 32 5 58) 23 4) 32 7 66) 32 = (5, 0) := by
    rw [(X4 32 (by decide)).1, (X3 32 (by decide)).1, (X2 32 (by decide)).1, (X1 32 (by decide)).1]
    exact h32
  have r7 : wr (sR (wN (sR w3 32 5 58) 23 4) 32 7 66) 32 7 = 66 := by rw [wr_sR, if_pos ⟨rfl, rfl⟩]
  have s66 : sh (sR (wN (sR w3 32 5 58) 23 4) 32 7 66) 66 = (23, 4) := by rw [sh_sR, sh_wN, n3, if_pos rfl]
  obtain ⟨w5, d1, d2, d3, d4, d5⟩ := sheets_i s32 r7 s66 n4
  have r5 : wr (sR (wN (sR w3 32 5 58) 23 4) 32 7 66) 32 5 = 58 := by
    rw [wr_sR, if_neg (fun z => absurd z.2 (by decide)), wr_wN, n3, if_neg (by decide), wr_sR, if_pos ⟨rfl, rfl⟩]
  have r4 : wr (sR (wN (sR w3 32 5 58) 23 4) 32 7 66) 32 4 = 50 := by
    rw [wr_sR, if_neg (fun z => absurd z.2 (by decide)), wr_wN, n3, if_neg (by decide), wr_sR, if_neg (fun z => absurd z.2 (by decide)), (c2 32 (by decide)).2.2, wr_sR, if_pos ⟨rfl, rfl⟩]
  have r3 : wr (sR (wN (sR w3 32 5 58) 23 4) 32 7 66) 32 3 = 42 := by
    rw [wr_sR, if_neg (fun z => absurd z.2 (by decide)), wr_wN, n3, if_neg (by decide), wr_sR, if_neg (fun z => absurd z.2 (by decide)), (c2 32 (by decide)).2.2, wr_sR, if_neg (fun z => absurd z.2 (by decide)), (b2 32 (by decide)).2.2, wr_sR, if_pos ⟨rfl, rfl⟩]
  have o32 := d2 32 (by decide)
  refine ⟨w5, ?_, (((X1.tr (X2.le (by decide))).tr (X3.le (by decide))).tr (X4.le (by decide))).tr (d2.x.le (by decide)), d4, ?_, ?_, ?_, ⟨by rw [o32.2.2]; exact r3, by rw [o32.2.2]; exact r4, by rw [o32.2.2]; exact r5, by rw [o32.2.2]; exact r7⟩, d3, d5⟩
  · unfold rest5 lw
    dsimp only
    rw [hx, a1, Option.bind_some]
    dsimp only
    rw [n1, b1, Option.bind_some]
    dsimp only
    rw [n2, c1, Option.bind_some]
    dsimp only
    rw [n3]
    exact d1
  · exact a4.oldX ((((oldX32 (Or.inl rfl)).tr X2).tr (X3.le (by decide))).tr ((X4.le (by decide)).tr (d2.x.le (by decide)))) (by decide) (by decide)
  · exact b4.oldX (((oldX32 (Or.inr (Or.inl rfl))).tr X3).tr ((X4.le (by decide)).tr (d2.x.le (by decide)))) (by decide) (by decide)
  · exact c4.oldX ((oldX32 (Or.inr (Or.inr (Or.inl rfl)))).tr (X4.tr d2.x)) (by decide) (by decide)
