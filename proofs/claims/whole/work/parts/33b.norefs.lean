/-! no call of a minute changes a reference -/
def Kp {α : Type} (w : Wd) (E : Option (α × Wd)) : Prop := ∀ r, E = some r → r.2.2.2.1 = w.2.2.1
theorem kp_some {α : Type} {w : Wd} {x : α} : Kp w (some (x, w)) := fun r h => by cases h; rfl
theorem kp_ck {α : Type} {w : Wd} {p : Prop} {E : Option (α × Wd)} (h : Kp w E) : Kp w (ck p E) := fun r e => h r (ck_some e).2
theorem kp_if {α : Type} {w : Wd} {p : Prop} [Decidable p] {A B : Option (α × Wd)} (h1 : Kp w A) (h2 : Kp w B) : Kp w (if p then A else B) := by
  split <;> assumption
theorem kp_bind {α β : Type} {w : Wd} {E : Option (α × Wd)} {f : α × Wd → Option (β × Wd)} (h1 : Kp w E) (h2 : ∀ z, Kp z.2 (f z)) : Kp w (E.bind f) := by
  intro r e
  cases hE : E with
  | none => rw [hE] at e; cases e
  | some z => rw [hE] at e; exact (h2 z r e).trans (h1 z hE)
theorem kp_lw {α : Type} {w : Wd} {q k : Nat} {v : Int32} {f : Wd → Option (α × Wd)} (h : ∀ w1, Kp w1 (f w1)) : Kp w (lw (sI w q k v) f) := fun r e => h (sI w q k v) r e
theorem kp_loop {σ α : Type} {B : (σ → Wd → Option (α × Wd)) → σ → Wd → Option (α × Wd)} (h : ∀ k, (∀ v w, Kp w (k v w)) → ∀ v w, Kp w (B k v w)) : ∀ n v w, Kp w (loopF B n v w)
  | 0, v, w => fun r e => by cases e
  | n + 1, v, w => h _ (kp_loop h n) v w
theorem kp_lose (a : Nat) (w : Wd) : Kp w (f1_loseSteam a w) := by
  unfold f1_loseSteam
  (repeat' (first | with_reducible exact kp_some | with_reducible apply kp_ck | with_reducible apply kp_if | (with_reducible refine kp_bind ?_ fun _ => ?_) | (with_reducible refine kp_lw fun _ => ?_)))
theorem kp_in (a : Nat) (w : Wd) : Kp w (f1_bathersIn a w) := by
  refine kp_loop (fun k hk v w => ?_) _ _ _
  unfold b1_bathersIn_4 j1_bathersIn_28
  (repeat' (first | with_reducible exact kp_some | with_reducible exact hk _ _ | with_reducible apply kp_ck | with_reducible apply kp_if | (with_reducible refine kp_bind ?_ fun _ => ?_) | (with_reducible refine kp_lw fun _ => ?_)))
theorem kp_named (c : Int32) (a b : Nat) (w : Wd) : Kp w (f4_named c a b w) := by
  unfold f4_named
  (repeat' (first | with_reducible exact kp_some | with_reducible apply kp_ck | with_reducible apply kp_if | (with_reducible refine kp_bind ?_ fun _ => ?_) | (with_reducible refine kp_lw fun _ => ?_)))
theorem kp_bounded (a b c : Int32) (w : Wd) : Kp w (f5_bounded a b c w) := by
  unfold f5_bounded
  (repeat' (first | with_reducible exact kp_some | with_reducible apply kp_ck | with_reducible apply kp_if | (with_reducible refine kp_bind ?_ fun _ => ?_) | (with_reducible refine kp_lw fun _ => ?_)))
theorem kp_work (a : Nat) (b c : Int32) (w : Wd) : Kp w (f4_work a b c w) := by
  unfold f4_work j4_work_49
  (repeat' (first | with_reducible exact kp_some | with_reducible apply kp_ck | with_reducible apply kp_if | (with_reducible refine kp_bind ?_ fun _ => ?_) | (with_reducible refine kp_lw fun _ => ?_)))
theorem kp_says (T : Nat) (p : Int32) (a b : Nat) (w : Wd) : Kp w (f4_says T p a b w) := by
  have h171 : ∀ x s w, Kp w (j4_says_171 x s w) := fun x s w => by
    unfold j4_says_171
    (repeat' (first | with_reducible exact kp_some | with_reducible exact kp_bounded _ _ _ _ | with_reducible apply kp_ck | with_reducible apply kp_if | (with_reducible refine kp_bind ?_ fun _ => ?_) | (with_reducible refine kp_lw fun _ => ?_)))
  have h156 : ∀ x y z w, Kp w (j4_says_156 x y z w) := fun x y z w => by
    unfold j4_says_156
    (repeat' (first | with_reducible exact kp_some | with_reducible exact h171 _ _ _ | with_reducible apply kp_ck | with_reducible apply kp_if | (with_reducible refine kp_bind ?_ fun _ => ?_) | (with_reducible refine kp_lw fun _ => ?_)))
  have hl : ∀ n v w, Kp w (loopF b4_says_63 n v w) := by
    refine kp_loop fun k hk v w => ?_
    unfold b4_says_63 j4_says_146 j4_says_150
    (repeat' (first | with_reducible exact kp_some | with_reducible exact hk _ _ | with_reducible exact h156 _ _ _ _ | with_reducible exact kp_work _ _ _ _ | with_reducible exact kp_named _ _ _ _ | with_reducible apply kp_ck | with_reducible apply kp_if | (with_reducible refine kp_bind ?_ fun _ => ?_) | (with_reducible refine kp_lw fun _ => ?_)))
  unfold f4_says j4_says_24 j4_says_54
  (repeat' (first | with_reducible exact kp_some | with_reducible exact hl _ _ _ | with_reducible apply kp_ck | with_reducible apply kp_if | (with_reducible refine kp_bind ?_ fun _ => ?_) | (with_reducible refine kp_lw fun _ => ?_)))
theorem kp_feels (a b : Nat) (w : Wd) : Kp w (f1_feelsOf a b w) := by
  unfold f1_feelsOf j1_feelsOf_67 j1_feelsOf_81
  (repeat' (first | with_reducible exact kp_some | with_reducible exact kp_says _ _ _ _ _ | with_reducible apply kp_ck | with_reducible apply kp_if | (with_reducible refine kp_bind ?_ fun _ => ?_) | (with_reducible refine kp_lw fun _ => ?_)))
theorem kp_bears (a b : Nat) (w : Wd) : Kp w (f1_bearsOf a b w) := by
  unfold f1_bearsOf
  (repeat' (first | with_reducible exact kp_some | with_reducible exact kp_says _ _ _ _ _ | with_reducible apply kp_ck | with_reducible apply kp_if | (with_reducible refine kp_bind ?_ fun _ => ?_) | (with_reducible refine kp_lw fun _ => ?_)))
theorem kp_glad (a b : Nat) (w : Wd) : Kp w (f1_gladOf a b w) := by
  unfold f1_gladOf j1_gladOf_21 j1_gladOf_65 j1_gladOf_83
  (repeat' (first | with_reducible exact kp_some | with_reducible exact kp_says _ _ _ _ _ | with_reducible exact kp_in _ _ | with_reducible apply kp_ck | with_reducible apply kp_if | (with_reducible refine kp_bind ?_ fun _ => ?_) | (with_reducible refine kp_lw fun _ => ?_)))
theorem kp_sweats (a b : Nat) (w : Wd) : Kp w (f1_sweatsOut a b w) := by
  unfold f1_sweatsOut
  (repeat' (first | with_reducible exact kp_some | with_reducible exact kp_feels _ _ _ | with_reducible exact kp_glad _ _ _ | with_reducible exact kp_bears _ _ _ | with_reducible exact kp_bounded _ _ _ _ | with_reducible exact kp_lose _ _ | with_reducible apply kp_ck | with_reducible apply kp_if | (with_reducible refine kp_bind ?_ fun _ => ?_) | (with_reducible refine kp_lw fun _ => ?_)))
theorem kp_min (a : Nat) (w : Wd) : Kp w (f1_passMinute a w) := by
  refine kp_loop (fun k hk v w => ?_) _ _ _
  unfold b1_passMinute_4 j1_passMinute_58
  (repeat' (first | with_reducible exact kp_some | with_reducible exact hk _ _ | with_reducible exact kp_sweats _ _ _ | with_reducible exact kp_lose _ _ | with_reducible apply kp_ck | with_reducible apply kp_if | (with_reducible refine kp_bind ?_ fun _ => ?_) | (with_reducible refine kp_lw fun _ => ?_)))
