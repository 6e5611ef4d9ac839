section RULES
variable {ρ : Type} {rt : ρ → Option AV} {X : CX} {M : MX} {cells slots pc : Nat} {E : Option (ρ × Wd)} {ls : List (Nat × AV)} {st : List AV} {w : Wd}
theorem cv_at {g : Gh} {lsA : Array Slot} {nL k i : Nat} {v : AV} (h : lv_has lsA nL (ls.map (fun q => (q.1, cv g q.2)))) (hk : ls[k]? = some (i, v)) : lsA[i]? = some (.val (cv g v)) :=
  lv_at h k (by rw [List.getElem?_map, hk]; rfl)
theorem cv_store {g : Gh} {i : Nat} {v : AV} {ls' : List (Nat × AV)} (hl : (i, v) :: ls.filter (fun q => !(q.1 == i) && !(q.1 + 1 == i && ct q.2 == 2)) = ls') :
    (i, cv g v) :: (ls.map (fun q => (q.1, cv g q.2))).filter (fun q => !(q.1 == i) && !(q.1 + 1 == i && q.2.category == 2)) = ls'.map (fun q => (q.1, cv g q.2)) := by
  rw [← hl, List.map_cons, List.filter_map]
  congr 2
  apply List.filter_congr
  intro q _
  simp [Function.comp, cv_cat]
theorem cv_store2 {g : Gh} {i : Nat} {v : AV} {ls' : List (Nat × AV)} (hl : (i, v) :: ls.filter (fun q => !(q.1 == i) && (!(q.1 == i + 1) && !(q.1 + 1 == i && ct q.2 == 2))) = ls') :
    (i, cv g v) :: (ls.map (fun q => (q.1, cv g q.2))).filter (fun q => !(q.1 == i) && (!(q.1 == i + 1) && !(q.1 + 1 == i && q.2.category == 2))) = ls'.map (fun q => (q.1, cv g q.2)) := by
  rw [← hl, List.map_cons, List.filter_map]
  congr 2
  apply List.filter_congr
  intro q _
  simp [Function.comp, cv_cat]
theorem WPe_none : WPe rt X M cells slots (none : Option (ρ × Wd)) pc ls st w := by
  obtain ⟨p, l, e, s, m, args, below, meth, c, g⟩ := X
  obtain ⟨R, d, mc, ms, w0⟩ := M
  intro _ H locs lsA _ _ _ _ r w' hE
  cases hE
theorem WPe_sub (is : List Nat) {ls' : List (Nat × AV)} (h : is.filterMap (fun i => ls[i]?) = ls') (k : WPe rt X M cells slots E pc ls' st w) : WPe rt X M cells slots E pc ls st w := by
  obtain ⟨p, l, e, s, m, args, below, meth, c, g⟩ := X
  obtain ⟨R, d, mc, ms, w0⟩ := M
  intro hG H locs lsA hR hx hb hl r w' hE
  refine k hG H locs lsA hR hx hb (lv_sub hl is ?_) r w' hE
  rw [← h]
  unfold lv_pick
  rw [List.map_filterMap]
  congr 1
  funext i
  rw [List.getElem?_map]
noncomputable def ck (p : Prop) (E : Option (ρ × Wd)) : Option (ρ × Wd) := @ite _ p (Classical.propDecidable p) E none
theorem ck_pos {p : Prop} {E : Option (ρ × Wd)} (h : p) : ck p E = E := if_pos h
theorem ck_some {p : Prop} {E : Option (ρ × Wd)} {z : ρ × Wd} (h : ck p E = some z) : p ∧ E = some z := by
  unfold ck at h
  split at h
  · exact ⟨by assumption, h⟩
  · cases h
theorem WPe_ck {p : Prop} (k : p → WPe rt X M cells slots E pc ls st w) : WPe rt X M cells slots (ck p E) pc ls st w := by
  obtain ⟨p, l, e, s, m, args, below, meth, c, g⟩ := X
  obtain ⟨R, d, mc, ms, w0⟩ := M
  intro hG H locs lsA hR hx hb hl r w' hE
  exact k (ck_some hE).1 hG H locs lsA hR hx hb hl r w' (ck_some hE).2
theorem WPe_ite {p : Prop} [Decidable p] {A B : Option (ρ × Wd)} (k1 : p → WPe rt X M cells slots A pc ls st w) (k2 : ¬ p → WPe rt X M cells slots B pc ls st w) : WPe rt X M cells slots (if p then A else B) pc ls st w := by
  by_cases h : p
  · rw [if_pos h]; exact k1 h
  · rw [if_neg h]; exact k2 h
theorem WPe_eq {E' : Option (ρ × Wd)} (h : E = E') (k : WPe rt X M cells slots E' pc ls st w) : WPe rt X M cells slots E pc ls st w := h ▸ k
theorem dd {b : ByteArray} {tb : List (Nat × Instr × Nat)} (h : ∀ x ∈ tb, decode b x.1 = .ok x.2) (k : Nat) {pc n : Nat} {i : Instr} (e : tb[k]? = some (pc, i, n)) : decode b pc = .ok (i, n) := by
  have h1 := h (pc, i, n) (List.mem_of_getElem? e)
  exact h1
theorem WPe_iconst {n : Int} (v : Int32) (hd : decode M.1.2.1 pc = .ok (.iconst n, 1)) (hv : Int32.ofInt n = v) (k : WPe rt X M cells slots E (pc + 1) ls (vI v :: st) w) : WPe rt X M cells slots E pc ls st w := by
  obtain ⟨p, l, e, s, m, args, below, meth, c, g⟩ := X
  obtain ⟨R, d, mc, ms, w0⟩ := M
  intro hG H locs lsA hR hx hb hl r w' hE
  have hG' := hG
  obtain ⟨ge, gb, gr, gm, go, gt, gl, gn, gK⟩ := hG'
  exact lv_iconst ge gb hd hv (k hG H locs lsA hR hx hb hl r w' hE)
theorem WPe_bipush {n : Int} (v : Int32) (hd : decode M.1.2.1 pc = .ok (.bipush n, 2)) (hv : (Int8.ofInt n).toInt32 = v) (k : WPe rt X M cells slots E (pc + 2) ls (vI v :: st) w) : WPe rt X M cells slots E pc ls st w := by
  obtain ⟨p, l, e, s, m, args, below, meth, c, g⟩ := X
  obtain ⟨R, d, mc, ms, w0⟩ := M
  intro hG H locs lsA hR hx hb hl r w' hE
  have hG' := hG
  obtain ⟨ge, gb, gr, gm, go, gt, gl, gn, gK⟩ := hG'
  exact lv_bipush ge gb hd hv (k hG H locs lsA hR hx hb hl r w' hE)
theorem WPe_sipush {n : Int} (v : Int32) (hd : decode M.1.2.1 pc = .ok (.sipush n, 3)) (hv : (Int16.ofInt n).toInt32 = v) (k : WPe rt X M cells slots E (pc + 3) ls (vI v :: st) w) : WPe rt X M cells slots E pc ls st w := by
  obtain ⟨p, l, e, s, m, args, below, meth, c, g⟩ := X
  obtain ⟨R, d, mc, ms, w0⟩ := M
  intro hG H locs lsA hR hx hb hl r w' hE
  have hG' := hG
  obtain ⟨ge, gb, gr, gm, go, gt, gl, gn, gK⟩ := hG'
  exact lv_sipush ge gb hd hv (k hG H locs lsA hR hx hb hl r w' hE)
theorem WPe_lconst {n : Fin 2} (v : Int64) (hd : decode M.1.2.1 pc = .ok (.lconst n, 1)) (hv : Int64.ofNat (n : Nat) = v) (k : WPe rt X M cells slots E (pc + 1) ls (vJ v :: st) w) : WPe rt X M cells slots E pc ls st w := by
  obtain ⟨p, l, e, s, m, args, below, meth, c, g⟩ := X
  obtain ⟨R, d, mc, ms, w0⟩ := M
  intro hG H locs lsA hR hx hb hl r w' hE
  have hG' := hG
  obtain ⟨ge, gb, gr, gm, go, gt, gl, gn, gK⟩ := hG'
  exact lv_lconst ge gb hd hv (k hG H locs lsA hR hx hb hl r w' hE)
theorem WPe_ldc {i : Nat} {v : Int32} (hd : decode M.1.2.1 pc = .ok (.ldc i, 2)) (hc : Cond.constant M.1.1.cls i v ∈ BW) (k : WPe rt X M cells slots E (pc + 2) ls (vI v :: st) w) : WPe rt X M cells slots E pc ls st w := by
  obtain ⟨p, l, e, s, m, args, below, meth, c, g⟩ := X
  obtain ⟨R, d, mc, ms, w0⟩ := M
  intro hG H locs lsA hR hx hb hl r w' hE
  have hG' := hG
  obtain ⟨ge, gb, gr, gm, go, gt, gl, gn, gK⟩ := hG'
  exact lv_ldc ge gb go (gt _ hc args s (State.WarmedH.refl s)) hd (k hG H locs lsA hR hx hb hl r w' hE)
theorem WPe_ldc2 {i : Nat} {v : Int64} (hd : decode M.1.2.1 pc = .ok (.ldc2_w i, 3)) (hc : Cond.constantLong M.1.1.cls i v ∈ BW) (k : WPe rt X M cells slots E (pc + 3) ls (vJ v :: st) w) : WPe rt X M cells slots E pc ls st w := by
  obtain ⟨p, l, e, s, m, args, below, meth, c, g⟩ := X
  obtain ⟨R, d, mc, ms, w0⟩ := M
  intro hG H locs lsA hR hx hb hl r w' hE
  have hG' := hG
  obtain ⟨ge, gb, gr, gm, go, gt, gl, gn, gK⟩ := hG'
  exact lv_ldc2 ge gb go (gt _ hc args s (State.WarmedH.refl s)) hd (k hG H locs lsA hR hx hb hl r w' hE)
theorem WPe_iload_n {n : Fin 4} {x : Int32} (k0 : Nat) (hd : decode M.1.2.1 pc = .ok (.iload_n n, 1)) (hk : ls[k0]? = some ((n : Nat), vI x)) (k : WPe rt X M cells slots E (pc + 1) ls (vI x :: st) w) : WPe rt X M cells slots E pc ls st w := by
  obtain ⟨p, l, e, s, m, args, below, meth, c, g⟩ := X
  obtain ⟨R, d, mc, ms, w0⟩ := M
  intro hG H locs lsA hR hx hb hl r w' hE
  have hG' := hG
  obtain ⟨ge, gb, gr, gm, go, gt, gl, gn, gK⟩ := hG'
  exact lv_iload_n ge gb hd rfl (cv_at hl hk) (k hG H locs lsA hR hx hb hl r w' hE)
theorem WPe_iload {n : Nat} {x : Int32} (k0 : Nat) (hd : decode M.1.2.1 pc = .ok (.iload n, 2)) (hk : ls[k0]? = some (n, vI x)) (k : WPe rt X M cells slots E (pc + 2) ls (vI x :: st) w) : WPe rt X M cells slots E pc ls st w := by
  obtain ⟨p, l, e, s, m, args, below, meth, c, g⟩ := X
  obtain ⟨R, d, mc, ms, w0⟩ := M
  intro hG H locs lsA hR hx hb hl r w' hE
  have hG' := hG
  obtain ⟨ge, gb, gr, gm, go, gt, gl, gn, gK⟩ := hG'
  exact lv_iload ge gb hd (cv_at hl hk) (k hG H locs lsA hR hx hb hl r w' hE)
theorem WPe_lload_n {n : Fin 4} {x : Int64} (k0 : Nat) (hd : decode M.1.2.1 pc = .ok (.lload_n n, 1)) (hk : ls[k0]? = some ((n : Nat), vJ x)) (k : WPe rt X M cells slots E (pc + 1) ls (vJ x :: st) w) : WPe rt X M cells slots E pc ls st w := by
  obtain ⟨p, l, e, s, m, args, below, meth, c, g⟩ := X
  obtain ⟨R, d, mc, ms, w0⟩ := M
  intro hG H locs lsA hR hx hb hl r w' hE
  have hG' := hG
  obtain ⟨ge, gb, gr, gm, go, gt, gl, gn, gK⟩ := hG'
  exact lv_lload_n ge gb hd rfl (cv_at hl hk) (k hG H locs lsA hR hx hb hl r w' hE)
theorem WPe_lload {n : Nat} {x : Int64} (k0 : Nat) (hd : decode M.1.2.1 pc = .ok (.lload n, 2)) (hk : ls[k0]? = some (n, vJ x)) (k : WPe rt X M cells slots E (pc + 2) ls (vJ x :: st) w) : WPe rt X M cells slots E pc ls st w := by
  obtain ⟨p, l, e, s, m, args, below, meth, c, g⟩ := X
  obtain ⟨R, d, mc, ms, w0⟩ := M
  intro hG H locs lsA hR hx hb hl r w' hE
  have hG' := hG
  obtain ⟨ge, gb, gr, gm, go, gt, gl, gn, gK⟩ := hG'
  exact lv_lload ge gb hd (cv_at hl hk) (k hG H locs lsA hR hx hb hl r w' hE)
theorem rvE (g : Gh) (q : Nat) : (q = 0 ∧ rv g q = .null) ∨ (q ≠ 0 ∧ rv g q = .ref (ad g q)) := by
  by_cases h : q = 0
  · exact Or.inl ⟨h, if_pos h⟩
  · exact Or.inr ⟨h, if_neg h⟩
theorem WPe_aload_n {n : Fin 4} {x : Nat} (k0 : Nat) (hd : decode M.1.2.1 pc = .ok (.aload_n n, 1)) (hk : ls[k0]? = some ((n : Nat), vR x)) (k : WPe rt X M cells slots E (pc + 1) ls (vR x :: st) w) : WPe rt X M cells slots E pc ls st w := by
  obtain ⟨p, l, e, s, m, args, below, meth, c, g⟩ := X
  obtain ⟨R, d, mc, ms, w0⟩ := M
  intro hG H locs lsA hR hx hb hl r w' hE
  have hG' := hG
  obtain ⟨ge, gb, gr, gm, go, gt, gl, gn, gK⟩ := hG'
  have h1 := cv_at hl hk
  have kk := k hG H locs lsA hR hx hb hl r w' hE
  change lsA[_]? = some (Slot.val (rv g x)) at h1
  change W _ _ _ _ _ _ _ _ _ _ _ _ _ _ _ (F0 m _ lsA (rv g x :: st.map (cv g))) at kk
  rcases rvE g x with ⟨-, e1⟩ | ⟨-, e1⟩
  · rw [e1] at h1 kk
    exact lv_aload_nN ge gb hd rfl h1 kk
  · rw [e1] at h1 kk
    exact lv_aload_n ge gb hd rfl h1 kk
theorem WPe_aload {n : Nat} {x : Nat} (k0 : Nat) (hd : decode M.1.2.1 pc = .ok (.aload n, 2)) (hk : ls[k0]? = some (n, vR x)) (k : WPe rt X M cells slots E (pc + 2) ls (vR x :: st) w) : WPe rt X M cells slots E pc ls st w := by
  obtain ⟨p, l, e, s, m, args, below, meth, c, g⟩ := X
  obtain ⟨R, d, mc, ms, w0⟩ := M
  intro hG H locs lsA hR hx hb hl r w' hE
  have hG' := hG
  obtain ⟨ge, gb, gr, gm, go, gt, gl, gn, gK⟩ := hG'
  have h1 := cv_at hl hk
  have kk := k hG H locs lsA hR hx hb hl r w' hE
  change lsA[_]? = some (Slot.val (rv g x)) at h1
  change W _ _ _ _ _ _ _ _ _ _ _ _ _ _ _ (F0 m _ lsA (rv g x :: st.map (cv g))) at kk
  rcases rvE g x with ⟨-, e1⟩ | ⟨-, e1⟩
  · rw [e1] at h1 kk
    exact lv_aloadN ge gb hd h1 kk
  · rw [e1] at h1 kk
    exact lv_aload ge gb hd h1 kk
theorem WPe_istore_n {n : Fin 4} {x : Int32} {ls' : List (Nat × AV)} (hd : decode M.1.2.1 pc = .ok (.istore_n n, 1)) (hn : (n : Nat) < M.1.2.2.1) (hl' : ((n : Nat), vI x) :: ls.filter (fun q => !(q.1 == (n : Nat)) && !(q.1 + 1 == (n : Nat) && ct q.2 == 2)) = ls') (k : WPe rt X M cells slots E (pc + 1) ls' st w) : WPe rt X M cells slots E pc ls (vI x :: st) w := by
  obtain ⟨p, l, e, s, m, args, below, meth, c, g⟩ := X
  obtain ⟨R, d, mc, ms, w0⟩ := M
  intro hG H locs lsA hR hx hb hl r w' hE
  have hG' := hG
  obtain ⟨ge, gb, gr, gm, go, gt, gl, gn, gK⟩ := hG'
  exact lv_istore_n ge gb hd rfl hl hn (cv_store hl') (fun ls2 h2 => k hG H locs ls2 hR hx hb h2 r w' hE)
theorem WPe_istore {n : Nat} {x : Int32} {ls' : List (Nat × AV)} (hd : decode M.1.2.1 pc = .ok (.istore n, 2)) (hn : n < M.1.2.2.1) (hl' : (n, vI x) :: ls.filter (fun q => !(q.1 == n) && !(q.1 + 1 == n && ct q.2 == 2)) = ls') (k : WPe rt X M cells slots E (pc + 2) ls' st w) : WPe rt X M cells slots E pc ls (vI x :: st) w := by
  obtain ⟨p, l, e, s, m, args, below, meth, c, g⟩ := X
  obtain ⟨R, d, mc, ms, w0⟩ := M
  intro hG H locs lsA hR hx hb hl r w' hE
  have hG' := hG
  obtain ⟨ge, gb, gr, gm, go, gt, gl, gn, gK⟩ := hG'
  exact lv_istore ge gb hd hl hn (cv_store hl') (fun ls2 h2 => k hG H locs ls2 hR hx hb h2 r w' hE)
theorem WPe_lstore_n {n : Fin 4} {x : Int64} {ls' : List (Nat × AV)} (hd : decode M.1.2.1 pc = .ok (.lstore_n n, 1)) (hn : (n : Nat) + 1 < M.1.2.2.1) (hl' : ((n : Nat), vJ x) :: ls.filter (fun q => !(q.1 == (n : Nat)) && (!(q.1 == (n : Nat) + 1) && !(q.1 + 1 == (n : Nat) && ct q.2 == 2))) = ls') (k : WPe rt X M cells slots E (pc + 1) ls' st w) : WPe rt X M cells slots E pc ls (vJ x :: st) w := by
  obtain ⟨p, l, e, s, m, args, below, meth, c, g⟩ := X
  obtain ⟨R, d, mc, ms, w0⟩ := M
  intro hG H locs lsA hR hx hb hl r w' hE
  have hG' := hG
  obtain ⟨ge, gb, gr, gm, go, gt, gl, gn, gK⟩ := hG'
  exact lv_lstore_n ge gb hd rfl hl hn (cv_store2 hl') (fun ls2 h2 => k hG H locs ls2 hR hx hb h2 r w' hE)
theorem WPe_lstore {n : Nat} {x : Int64} {ls' : List (Nat × AV)} (hd : decode M.1.2.1 pc = .ok (.lstore n, 2)) (hn : n + 1 < M.1.2.2.1) (hl' : (n, vJ x) :: ls.filter (fun q => !(q.1 == n) && (!(q.1 == n + 1) && !(q.1 + 1 == n && ct q.2 == 2))) = ls') (k : WPe rt X M cells slots E (pc + 2) ls' st w) : WPe rt X M cells slots E pc ls (vJ x :: st) w := by
  obtain ⟨p, l, e, s, m, args, below, meth, c, g⟩ := X
  obtain ⟨R, d, mc, ms, w0⟩ := M
  intro hG H locs lsA hR hx hb hl r w' hE
  have hG' := hG
  obtain ⟨ge, gb, gr, gm, go, gt, gl, gn, gK⟩ := hG'
  exact lv_lstore ge gb hd hl hn (cv_store2 hl') (fun ls2 h2 => k hG H locs ls2 hR hx hb h2 r w' hE)
theorem WPe_astore_n {n : Fin 4} {x : Nat} {ls' : List (Nat × AV)} (hd : decode M.1.2.1 pc = .ok (.astore_n n, 1)) (hn : (n : Nat) < M.1.2.2.1) (hl' : ((n : Nat), vR x) :: ls.filter (fun q => !(q.1 == (n : Nat)) && !(q.1 + 1 == (n : Nat) && ct q.2 == 2)) = ls') (k : WPe rt X M cells slots E (pc + 1) ls' st w) : WPe rt X M cells slots E pc ls (vR x :: st) w := by
  obtain ⟨p, l, e, s, m, args, below, meth, c, g⟩ := X
  obtain ⟨R, d, mc, ms, w0⟩ := M
  intro hG H locs lsA hR hx hb hl r w' hE
  have hG' := hG
  obtain ⟨ge, gb, gr, gm, go, gt, gl, gn, gK⟩ := hG'
  have kk := fun ls2 h2 => k hG H locs ls2 hR hx hb h2 r w' hE
  have h1 := cv_store (g := g) hl'
  change W _ _ _ _ _ _ _ _ _ _ _ _ _ _ _ (F0 m _ lsA (rv g x :: st.map (cv g)))
  change (_, rv g x) :: _ = _ at h1
  rcases rvE g x with ⟨-, e1⟩ | ⟨-, e1⟩
  · rw [e1] at h1 ⊢
    exact lv_astore_nN ge gb hd rfl hl hn h1 kk
  · rw [e1] at h1 ⊢
    exact lv_astore_n ge gb hd rfl hl hn h1 kk
theorem WPe_astore {n : Nat} {x : Nat} {ls' : List (Nat × AV)} (hd : decode M.1.2.1 pc = .ok (.astore n, 2)) (hn : n < M.1.2.2.1) (hl' : (n, vR x) :: ls.filter (fun q => !(q.1 == n) && !(q.1 + 1 == n && ct q.2 == 2)) = ls') (k : WPe rt X M cells slots E (pc + 2) ls' st w) : WPe rt X M cells slots E pc ls (vR x :: st) w := by
  obtain ⟨p, l, e, s, m, args, below, meth, c, g⟩ := X
  obtain ⟨R, d, mc, ms, w0⟩ := M
  intro hG H locs lsA hR hx hb hl r w' hE
  have hG' := hG
  obtain ⟨ge, gb, gr, gm, go, gt, gl, gn, gK⟩ := hG'
  have kk := fun ls2 h2 => k hG H locs ls2 hR hx hb h2 r w' hE
  have h1 := cv_store (g := g) hl'
  change W _ _ _ _ _ _ _ _ _ _ _ _ _ _ _ (F0 m _ lsA (rv g x :: st.map (cv g)))
  change (_, rv g x) :: _ = _ at h1
  rcases rvE g x with ⟨-, e1⟩ | ⟨-, e1⟩
  · rw [e1] at h1 ⊢
    exact lv_astoreN ge gb hd hl hn h1 kk
  · rw [e1] at h1 ⊢
    exact lv_astore ge gb hd hl hn h1 kk
theorem WPe_iinc {i : Nat} {n : Int} {x : Int32} {ls' : List (Nat × AV)} (k0 : Nat) (v : Int32) (hd : decode M.1.2.1 pc = .ok (.iinc i n, 3)) (hk : ls[k0]? = some (i, vI x)) (hv : x + Int32.ofInt n = v) (hn : i < M.1.2.2.1) (hl' : (i, vI v) :: ls.filter (fun q => !(q.1 == i) && !(q.1 + 1 == i && ct q.2 == 2)) = ls') (k : WPe rt X M cells slots E (pc + 3) ls' st w) : WPe rt X M cells slots E pc ls st w := by
  obtain ⟨p, l, e, s, m, args, below, meth, c, g⟩ := X
  obtain ⟨R, d, mc, ms, w0⟩ := M
  intro hG H locs lsA hR hx hb hl r w' hE
  have hG' := hG
  obtain ⟨ge, gb, gr, gm, go, gt, gl, gn, gK⟩ := hG'
  exact lv_iinc (k := k0) ge gb hd hl (by rw [List.getElem?_map, hk]; rfl) hv hn (cv_store hl') (fun ls2 h2 => k hG H locs ls2 hR hx hb h2 r w' hE)
theorem WPe_iadd {x y : Int32} (hd : decode M.1.2.1 pc = .ok (.iadd, 1)) (k : WPe rt X M cells slots E (pc + 1) ls (vI (x + y) :: st) w) : WPe rt X M cells slots E pc ls (vI y :: vI x :: st) w := by
  obtain ⟨p, l, e, s, m, args, below, meth, c, g⟩ := X
  obtain ⟨R, d, mc, ms, w0⟩ := M
  intro hG H locs lsA hR hx hb hl r w' hE
  have hG' := hG
  obtain ⟨ge, gb, gr, gm, go, gt, gl, gn, gK⟩ := hG'
  exact lv_iadd ge gb hd (k hG H locs lsA hR hx hb hl r w' hE)
theorem WPe_isub {x y : Int32} (hd : decode M.1.2.1 pc = .ok (.isub, 1)) (k : WPe rt X M cells slots E (pc + 1) ls (vI (x - y) :: st) w) : WPe rt X M cells slots E pc ls (vI y :: vI x :: st) w := by
  obtain ⟨p, l, e, s, m, args, below, meth, c, g⟩ := X
  obtain ⟨R, d, mc, ms, w0⟩ := M
  intro hG H locs lsA hR hx hb hl r w' hE
  have hG' := hG
  obtain ⟨ge, gb, gr, gm, go, gt, gl, gn, gK⟩ := hG'
  exact lv_isub ge gb hd (k hG H locs lsA hR hx hb hl r w' hE)
theorem WPe_imul {x y : Int32} (hd : decode M.1.2.1 pc = .ok (.imul, 1)) (k : WPe rt X M cells slots E (pc + 1) ls (vI (x * y) :: st) w) : WPe rt X M cells slots E pc ls (vI y :: vI x :: st) w := by
  obtain ⟨p, l, e, s, m, args, below, meth, c, g⟩ := X
  obtain ⟨R, d, mc, ms, w0⟩ := M
  intro hG H locs lsA hR hx hb hl r w' hE
  have hG' := hG
  obtain ⟨ge, gb, gr, gm, go, gt, gl, gn, gK⟩ := hG'
  exact lv_imul ge gb hd (k hG H locs lsA hR hx hb hl r w' hE)
theorem WPe_iand {x y : Int32} (hd : decode M.1.2.1 pc = .ok (.iand, 1)) (k : WPe rt X M cells slots E (pc + 1) ls (vI (x &&& y) :: st) w) : WPe rt X M cells slots E pc ls (vI y :: vI x :: st) w := by
  obtain ⟨p, l, e, s, m, args, below, meth, c, g⟩ := X
  obtain ⟨R, d, mc, ms, w0⟩ := M
  intro hG H locs lsA hR hx hb hl r w' hE
  have hG' := hG
  obtain ⟨ge, gb, gr, gm, go, gt, gl, gn, gK⟩ := hG'
  exact lv_iand ge gb hd (k hG H locs lsA hR hx hb hl r w' hE)
theorem WPe_ior {x y : Int32} (hd : decode M.1.2.1 pc = .ok (.ior, 1)) (k : WPe rt X M cells slots E (pc + 1) ls (vI (x ||| y) :: st) w) : WPe rt X M cells slots E pc ls (vI y :: vI x :: st) w := by
  obtain ⟨p, l, e, s, m, args, below, meth, c, g⟩ := X
  obtain ⟨R, d, mc, ms, w0⟩ := M
  intro hG H locs lsA hR hx hb hl r w' hE
  have hG' := hG
  obtain ⟨ge, gb, gr, gm, go, gt, gl, gn, gK⟩ := hG'
  exact lv_ior ge gb hd (k hG H locs lsA hR hx hb hl r w' hE)
theorem WPe_ishl {x y : Int32} (hd : decode M.1.2.1 pc = .ok (.ishl, 1)) (k : WPe rt X M cells slots E (pc + 1) ls (vI (x <<< (y &&& 31)) :: st) w) : WPe rt X M cells slots E pc ls (vI y :: vI x :: st) w := by
  obtain ⟨p, l, e, s, m, args, below, meth, c, g⟩ := X
  obtain ⟨R, d, mc, ms, w0⟩ := M
  intro hG H locs lsA hR hx hb hl r w' hE
  have hG' := hG
  obtain ⟨ge, gb, gr, gm, go, gt, gl, gn, gK⟩ := hG'
  exact lv_ishl ge gb hd (k hG H locs lsA hR hx hb hl r w' hE)
theorem WPe_ishr {x y : Int32} (hd : decode M.1.2.1 pc = .ok (.ishr, 1)) (k : WPe rt X M cells slots E (pc + 1) ls (vI (x >>> (y &&& 31)) :: st) w) : WPe rt X M cells slots E pc ls (vI y :: vI x :: st) w := by
  obtain ⟨p, l, e, s, m, args, below, meth, c, g⟩ := X
  obtain ⟨R, d, mc, ms, w0⟩ := M
  intro hG H locs lsA hR hx hb hl r w' hE
  have hG' := hG
  obtain ⟨ge, gb, gr, gm, go, gt, gl, gn, gK⟩ := hG'
  exact lv_ishr ge gb hd (k hG H locs lsA hR hx hb hl r w' hE)
theorem WPe_idiv {x y : Int32} (hd : decode M.1.2.1 pc = .ok (.idiv, 1)) (hne : ¬ y = 0) (k : WPe rt X M cells slots E (pc + 1) ls (vI (x / y) :: st) w) : WPe rt X M cells slots E pc ls (vI y :: vI x :: st) w := by
  obtain ⟨p, l, e, s, m, args, below, meth, c, g⟩ := X
  obtain ⟨R, d, mc, ms, w0⟩ := M
  intro hG H locs lsA hR hx hb hl r w' hE
  have hG' := hG
  obtain ⟨ge, gb, gr, gm, go, gt, gl, gn, gK⟩ := hG'
  exact lv_idiv ge gb hd hne (k hG H locs lsA hR hx hb hl r w' hE)
theorem WPe_irem {x y : Int32} (hd : decode M.1.2.1 pc = .ok (.irem, 1)) (hne : ¬ y = 0) (k : WPe rt X M cells slots E (pc + 1) ls (vI (x - x / y * y) :: st) w) : WPe rt X M cells slots E pc ls (vI y :: vI x :: st) w := by
  obtain ⟨p, l, e, s, m, args, below, meth, c, g⟩ := X
  obtain ⟨R, d, mc, ms, w0⟩ := M
  intro hG H locs lsA hR hx hb hl r w' hE
  have hG' := hG
  obtain ⟨ge, gb, gr, gm, go, gt, gl, gn, gK⟩ := hG'
  exact lv_irem ge gb hd hne (k hG H locs lsA hR hx hb hl r w' hE)
theorem WPe_ineg {x : Int32} (hd : decode M.1.2.1 pc = .ok (.ineg, 1)) (k : WPe rt X M cells slots E (pc + 1) ls (vI (-x) :: st) w) : WPe rt X M cells slots E pc ls (vI x :: st) w := by
  obtain ⟨p, l, e, s, m, args, below, meth, c, g⟩ := X
  obtain ⟨R, d, mc, ms, w0⟩ := M
  intro hG H locs lsA hR hx hb hl r w' hE
  have hG' := hG
  obtain ⟨ge, gb, gr, gm, go, gt, gl, gn, gK⟩ := hG'
  exact lv_ineg ge gb hd (k hG H locs lsA hR hx hb hl r w' hE)
theorem WPe_ladd {x y : Int64} (hd : decode M.1.2.1 pc = .ok (.ladd, 1)) (k : WPe rt X M cells slots E (pc + 1) ls (vJ (x + y) :: st) w) : WPe rt X M cells slots E pc ls (vJ y :: vJ x :: st) w := by
  obtain ⟨p, l, e, s, m, args, below, meth, c, g⟩ := X
  obtain ⟨R, d, mc, ms, w0⟩ := M
  intro hG H locs lsA hR hx hb hl r w' hE
  have hG' := hG
  obtain ⟨ge, gb, gr, gm, go, gt, gl, gn, gK⟩ := hG'
  exact lv_ladd ge gb hd (k hG H locs lsA hR hx hb hl r w' hE)
theorem WPe_lmul {x y : Int64} (hd : decode M.1.2.1 pc = .ok (.lmul, 1)) (k : WPe rt X M cells slots E (pc + 1) ls (vJ (x * y) :: st) w) : WPe rt X M cells slots E pc ls (vJ y :: vJ x :: st) w := by
  obtain ⟨p, l, e, s, m, args, below, meth, c, g⟩ := X
  obtain ⟨R, d, mc, ms, w0⟩ := M
  intro hG H locs lsA hR hx hb hl r w' hE
  have hG' := hG
  obtain ⟨ge, gb, gr, gm, go, gt, gl, gn, gK⟩ := hG'
  exact lv_lmul ge gb hd (k hG H locs lsA hR hx hb hl r w' hE)
theorem WPe_ldiv {x y : Int64} (hd : decode M.1.2.1 pc = .ok (.ldiv, 1)) (hne : ¬ y = 0) (k : WPe rt X M cells slots E (pc + 1) ls (vJ (x / y) :: st) w) : WPe rt X M cells slots E pc ls (vJ y :: vJ x :: st) w := by
  obtain ⟨p, l, e, s, m, args, below, meth, c, g⟩ := X
  obtain ⟨R, d, mc, ms, w0⟩ := M
  intro hG H locs lsA hR hx hb hl r w' hE
  have hG' := hG
  obtain ⟨ge, gb, gr, gm, go, gt, gl, gn, gK⟩ := hG'
  exact lv_ldiv ge gb hd hne (k hG H locs lsA hR hx hb hl r w' hE)
theorem WPe_lrem {x y : Int64} (hd : decode M.1.2.1 pc = .ok (.lrem, 1)) (hne : ¬ y = 0) (k : WPe rt X M cells slots E (pc + 1) ls (vJ (x - x / y * y) :: st) w) : WPe rt X M cells slots E pc ls (vJ y :: vJ x :: st) w := by
  obtain ⟨p, l, e, s, m, args, below, meth, c, g⟩ := X
  obtain ⟨R, d, mc, ms, w0⟩ := M
  intro hG H locs lsA hR hx hb hl r w' hE
  have hG' := hG
  obtain ⟨ge, gb, gr, gm, go, gt, gl, gn, gK⟩ := hG'
  exact lv_lrem ge gb hd hne (k hG H locs lsA hR hx hb hl r w' hE)
theorem WPe_lcmp {x y : Int64} (hd : decode M.1.2.1 pc = .ok (.lcmp, 1)) (k : WPe rt X M cells slots E (pc + 1) ls (vI (lg_cmp x y) :: st) w) : WPe rt X M cells slots E pc ls (vJ y :: vJ x :: st) w := by
  obtain ⟨p, l, e, s, m, args, below, meth, c, g⟩ := X
  obtain ⟨R, d, mc, ms, w0⟩ := M
  intro hG H locs lsA hR hx hb hl r w' hE
  have hG' := hG
  obtain ⟨ge, gb, gr, gm, go, gt, gl, gn, gK⟩ := hG'
  exact W.lcmp ge gb hd (k hG H locs lsA hR hx hb hl r w' hE)
theorem WPe_i2l {x : Int32} (hd : decode M.1.2.1 pc = .ok (.i2l, 1)) (k : WPe rt X M cells slots E (pc + 1) ls (vJ x.toInt64 :: st) w) : WPe rt X M cells slots E pc ls (vI x :: st) w := by
  obtain ⟨p, l, e, s, m, args, below, meth, c, g⟩ := X
  obtain ⟨R, d, mc, ms, w0⟩ := M
  intro hG H locs lsA hR hx hb hl r w' hE
  have hG' := hG
  obtain ⟨ge, gb, gr, gm, go, gt, gl, gn, gK⟩ := hG'
  exact lv_i2l ge gb hd rfl (k hG H locs lsA hR hx hb hl r w' hE)
theorem WPe_l2i {x : Int64} (hd : decode M.1.2.1 pc = .ok (.l2i, 1)) (k : WPe rt X M cells slots E (pc + 1) ls (vI x.toInt32 :: st) w) : WPe rt X M cells slots E pc ls (vJ x :: st) w := by
  obtain ⟨p, l, e, s, m, args, below, meth, c, g⟩ := X
  obtain ⟨R, d, mc, ms, w0⟩ := M
  intro hG H locs lsA hR hx hb hl r w' hE
  have hG' := hG
  obtain ⟨ge, gb, gr, gm, go, gt, gl, gn, gK⟩ := hG'
  exact lv_l2i ge gb hd rfl (k hG H locs lsA hR hx hb hl r w' hE)
theorem WPe_i2b {x : Int32} (hd : decode M.1.2.1 pc = .ok (.i2b, 1)) (k : WPe rt X M cells slots E (pc + 1) ls (vI x.toInt8.toInt32 :: st) w) : WPe rt X M cells slots E pc ls (vI x :: st) w := by
  obtain ⟨p, l, e, s, m, args, below, meth, c, g⟩ := X
  obtain ⟨R, d, mc, ms, w0⟩ := M
  intro hG H locs lsA hR hx hb hl r w' hE
  have hG' := hG
  obtain ⟨ge, gb, gr, gm, go, gt, gl, gn, gK⟩ := hG'
  exact lv_i2b ge gb hd rfl (k hG H locs lsA hR hx hb hl r w' hE)
theorem WPe_i2s {x : Int32} (hd : decode M.1.2.1 pc = .ok (.i2s, 1)) (k : WPe rt X M cells slots E (pc + 1) ls (vI x.toInt16.toInt32 :: st) w) : WPe rt X M cells slots E pc ls (vI x :: st) w := by
  obtain ⟨p, l, e, s, m, args, below, meth, c, g⟩ := X
  obtain ⟨R, d, mc, ms, w0⟩ := M
  intro hG H locs lsA hR hx hb hl r w' hE
  have hG' := hG
  obtain ⟨ge, gb, gr, gm, go, gt, gl, gn, gK⟩ := hG'
  exact lv_i2s ge gb hd rfl (k hG H locs lsA hR hx hb hl r w' hE)
theorem WPe_i2c {x : Int32} (hd : decode M.1.2.1 pc = .ok (.i2c, 1)) (k : WPe rt X M cells slots E (pc + 1) ls (vI (vp_nar .char x) :: st) w) : WPe rt X M cells slots E pc ls (vI x :: st) w := by
  obtain ⟨p, l, e, s, m, args, below, meth, c, g⟩ := X
  obtain ⟨R, d, mc, ms, w0⟩ := M
  intro hG H locs lsA hR hx hb hl r w' hE
  have hG' := hG
  obtain ⟨ge, gb, gr, gm, go, gt, gl, gn, gK⟩ := hG'
  exact lv_i2c ge gb hd rfl (k hG H locs lsA hR hx hb hl r w' hE)
theorem WPe_dup {v : AV} (hd : decode M.1.2.1 pc = .ok (.dup, 1)) (hv : ct v = 1) (k : WPe rt X M cells slots E (pc + 1) ls (v :: v :: st) w) : WPe rt X M cells slots E pc ls (v :: st) w := by
  obtain ⟨p, l, e, s, m, args, below, meth, c, g⟩ := X
  obtain ⟨R, d, mc, ms, w0⟩ := M
  intro hG H locs lsA hR hx hb hl r w' hE
  have hG' := hG
  obtain ⟨ge, gb, gr, gm, go, gt, gl, gn, gK⟩ := hG'
  exact lv_dup ge gb hd (by rw [cv_cat]; exact hv) (k hG H locs lsA hR hx hb hl r w' hE)
theorem WPe_pop {v : AV} (hd : decode M.1.2.1 pc = .ok (.pop, 1)) (hv : ct v = 1) (k : WPe rt X M cells slots E (pc + 1) ls st w) : WPe rt X M cells slots E pc ls (v :: st) w := by
  obtain ⟨p, l, e, s, m, args, below, meth, c, g⟩ := X
  obtain ⟨R, d, mc, ms, w0⟩ := M
  intro hG H locs lsA hR hx hb hl r w' hE
  have hG' := hG
  obtain ⟨ge, gb, gr, gm, go, gt, gl, gn, gK⟩ := hG'
  exact lv_pop ge gb hd (by rw [cv_cat]; exact hv) (k hG H locs lsA hR hx hb hl r w' hE)
theorem WPe_dup2 {v u : AV} (hd : decode M.1.2.1 pc = .ok (.dup2, 1)) (hv : ct v = 1) (hu : ct u = 1) (k : WPe rt X M cells slots E (pc + 1) ls (v :: u :: v :: u :: st) w) : WPe rt X M cells slots E pc ls (v :: u :: st) w := by
  obtain ⟨p, l, e, s, m, args, below, meth, c, g⟩ := X
  obtain ⟨R, d, mc, ms, w0⟩ := M
  intro hG H locs lsA hR hx hb hl r w' hE
  have hG' := hG
  obtain ⟨ge, gb, gr, gm, go, gt, gl, gn, gK⟩ := hG'
  exact lv_dup2_11 ge gb hd (by rw [cv_cat]; exact hv) (by rw [cv_cat]; exact hu) (k hG H locs lsA hR hx hb hl r w' hE)
theorem WPe_goto {off : Int} (tgt : Nat) (hd : decode M.1.2.1 pc = .ok (.goto off, 3)) (ht : (pc : Int) + off = (tgt : Int)) (k : WPe rt X M cells slots E tgt ls st w) : WPe rt X M cells slots E pc ls st w := by
  obtain ⟨p, l, e, s, m, args, below, meth, c, g⟩ := X
  obtain ⟨R, d, mc, ms, w0⟩ := M
  intro hG H locs lsA hR hx hb hl r w' hE
  have hG' := hG
  obtain ⟨ge, gb, gr, gm, go, gt, gl, gn, gK⟩ := hG'
  exact lv_goto ge gb hd ht (k hG H locs lsA hR hx hb hl r w' hE)
theorem WPe_icmp_lt {A B : Option (ρ × Wd)} {x y : Int32} {off : Int} (tgt : Nat) (hd : decode M.1.2.1 pc = .ok (.if_icmp .lt off, 3)) (ht : (pc : Int) + off = (tgt : Int)) (k1 : x < y → WPe rt X M cells slots A tgt ls st w) (k2 : ¬ x < y → WPe rt X M cells slots B (pc + 3) ls st w) : WPe rt X M cells slots (if x < y then A else B) pc ls (vI y :: vI x :: st) w := by
  obtain ⟨p, l, e, s, m, args, below, meth, c, g⟩ := X
  obtain ⟨R, d, mc, ms, w0⟩ := M
  intro hG H locs lsA hR hx hb hl r w' hE
  have hG' := hG
  obtain ⟨ge, gb, gr, gm, go, gt, gl, gn, gK⟩ := hG'
  exact lv_icmp_lt ge gb hd ht (fun h => k1 h hG H locs lsA hR hx hb hl r w' (by rw [if_pos h] at hE; exact hE)) (fun h => k2 h hG H locs lsA hR hx hb hl r w' (by rw [if_neg h] at hE; exact hE))
theorem WPe_if_lt {A B : Option (ρ × Wd)} {x : Int32} {off : Int} (tgt : Nat) (hd : decode M.1.2.1 pc = .ok (.ifCond .lt off, 3)) (ht : (pc : Int) + off = (tgt : Int)) (k1 : x < 0 → WPe rt X M cells slots A tgt ls st w) (k2 : ¬ x < 0 → WPe rt X M cells slots B (pc + 3) ls st w) : WPe rt X M cells slots (if x < 0 then A else B) pc ls (vI x :: st) w := by
  obtain ⟨p, l, e, s, m, args, below, meth, c, g⟩ := X
  obtain ⟨R, d, mc, ms, w0⟩ := M
  intro hG H locs lsA hR hx hb hl r w' hE
  have hG' := hG
  obtain ⟨ge, gb, gr, gm, go, gt, gl, gn, gK⟩ := hG'
  exact lv_if_lt ge gb hd ht (fun h => k1 h hG H locs lsA hR hx hb hl r w' (by rw [if_pos h] at hE; exact hE)) (fun h => k2 h hG H locs lsA hR hx hb hl r w' (by rw [if_neg h] at hE; exact hE))
theorem WPe_icmp_ge {A B : Option (ρ × Wd)} {x y : Int32} {off : Int} (tgt : Nat) (hd : decode M.1.2.1 pc = .ok (.if_icmp .ge off, 3)) (ht : (pc : Int) + off = (tgt : Int)) (k1 : y ≤ x → WPe rt X M cells slots A tgt ls st w) (k2 : ¬ y ≤ x → WPe rt X M cells slots B (pc + 3) ls st w) : WPe rt X M cells slots (if y ≤ x then A else B) pc ls (vI y :: vI x :: st) w := by
  obtain ⟨p, l, e, s, m, args, below, meth, c, g⟩ := X
  obtain ⟨R, d, mc, ms, w0⟩ := M
  intro hG H locs lsA hR hx hb hl r w' hE
  have hG' := hG
  obtain ⟨ge, gb, gr, gm, go, gt, gl, gn, gK⟩ := hG'
  exact lv_icmp_ge ge gb hd ht (fun h => k1 h hG H locs lsA hR hx hb hl r w' (by rw [if_pos h] at hE; exact hE)) (fun h => k2 h hG H locs lsA hR hx hb hl r w' (by rw [if_neg h] at hE; exact hE))
theorem WPe_if_ge {A B : Option (ρ × Wd)} {x : Int32} {off : Int} (tgt : Nat) (hd : decode M.1.2.1 pc = .ok (.ifCond .ge off, 3)) (ht : (pc : Int) + off = (tgt : Int)) (k1 : 0 ≤ x → WPe rt X M cells slots A tgt ls st w) (k2 : ¬ 0 ≤ x → WPe rt X M cells slots B (pc + 3) ls st w) : WPe rt X M cells slots (if 0 ≤ x then A else B) pc ls (vI x :: st) w := by
  obtain ⟨p, l, e, s, m, args, below, meth, c, g⟩ := X
  obtain ⟨R, d, mc, ms, w0⟩ := M
  intro hG H locs lsA hR hx hb hl r w' hE
  have hG' := hG
  obtain ⟨ge, gb, gr, gm, go, gt, gl, gn, gK⟩ := hG'
  exact lv_if_ge ge gb hd ht (fun h => k1 h hG H locs lsA hR hx hb hl r w' (by rw [if_pos h] at hE; exact hE)) (fun h => k2 h hG H locs lsA hR hx hb hl r w' (by rw [if_neg h] at hE; exact hE))
theorem WPe_icmp_gt {A B : Option (ρ × Wd)} {x y : Int32} {off : Int} (tgt : Nat) (hd : decode M.1.2.1 pc = .ok (.if_icmp .gt off, 3)) (ht : (pc : Int) + off = (tgt : Int)) (k1 : y < x → WPe rt X M cells slots A tgt ls st w) (k2 : ¬ y < x → WPe rt X M cells slots B (pc + 3) ls st w) : WPe rt X M cells slots (if y < x then A else B) pc ls (vI y :: vI x :: st) w := by
  obtain ⟨p, l, e, s, m, args, below, meth, c, g⟩ := X
  obtain ⟨R, d, mc, ms, w0⟩ := M
  intro hG H locs lsA hR hx hb hl r w' hE
  have hG' := hG
  obtain ⟨ge, gb, gr, gm, go, gt, gl, gn, gK⟩ := hG'
  exact lv_icmp_gt ge gb hd ht (fun h => k1 h hG H locs lsA hR hx hb hl r w' (by rw [if_pos h] at hE; exact hE)) (fun h => k2 h hG H locs lsA hR hx hb hl r w' (by rw [if_neg h] at hE; exact hE))
theorem WPe_if_gt {A B : Option (ρ × Wd)} {x : Int32} {off : Int} (tgt : Nat) (hd : decode M.1.2.1 pc = .ok (.ifCond .gt off, 3)) (ht : (pc : Int) + off = (tgt : Int)) (k1 : 0 < x → WPe rt X M cells slots A tgt ls st w) (k2 : ¬ 0 < x → WPe rt X M cells slots B (pc + 3) ls st w) : WPe rt X M cells slots (if 0 < x then A else B) pc ls (vI x :: st) w := by
  obtain ⟨p, l, e, s, m, args, below, meth, c, g⟩ := X
  obtain ⟨R, d, mc, ms, w0⟩ := M
  intro hG H locs lsA hR hx hb hl r w' hE
  have hG' := hG
  obtain ⟨ge, gb, gr, gm, go, gt, gl, gn, gK⟩ := hG'
  exact lv_if_gt ge gb hd ht (fun h => k1 h hG H locs lsA hR hx hb hl r w' (by rw [if_pos h] at hE; exact hE)) (fun h => k2 h hG H locs lsA hR hx hb hl r w' (by rw [if_neg h] at hE; exact hE))
theorem WPe_icmp_le {A B : Option (ρ × Wd)} {x y : Int32} {off : Int} (tgt : Nat) (hd : decode M.1.2.1 pc = .ok (.if_icmp .le off, 3)) (ht : (pc : Int) + off = (tgt : Int)) (k1 : x ≤ y → WPe rt X M cells slots A tgt ls st w) (k2 : ¬ x ≤ y → WPe rt X M cells slots B (pc + 3) ls st w) : WPe rt X M cells slots (if x ≤ y then A else B) pc ls (vI y :: vI x :: st) w := by
  obtain ⟨p, l, e, s, m, args, below, meth, c, g⟩ := X
  obtain ⟨R, d, mc, ms, w0⟩ := M
  intro hG H locs lsA hR hx hb hl r w' hE
  have hG' := hG
  obtain ⟨ge, gb, gr, gm, go, gt, gl, gn, gK⟩ := hG'
  exact lv_icmp_le ge gb hd ht (fun h => k1 h hG H locs lsA hR hx hb hl r w' (by rw [if_pos h] at hE; exact hE)) (fun h => k2 h hG H locs lsA hR hx hb hl r w' (by rw [if_neg h] at hE; exact hE))
theorem WPe_if_le {A B : Option (ρ × Wd)} {x : Int32} {off : Int} (tgt : Nat) (hd : decode M.1.2.1 pc = .ok (.ifCond .le off, 3)) (ht : (pc : Int) + off = (tgt : Int)) (k1 : x ≤ 0 → WPe rt X M cells slots A tgt ls st w) (k2 : ¬ x ≤ 0 → WPe rt X M cells slots B (pc + 3) ls st w) : WPe rt X M cells slots (if x ≤ 0 then A else B) pc ls (vI x :: st) w := by
  obtain ⟨p, l, e, s, m, args, below, meth, c, g⟩ := X
  obtain ⟨R, d, mc, ms, w0⟩ := M
  intro hG H locs lsA hR hx hb hl r w' hE
  have hG' := hG
  obtain ⟨ge, gb, gr, gm, go, gt, gl, gn, gK⟩ := hG'
  exact lv_if_le ge gb hd ht (fun h => k1 h hG H locs lsA hR hx hb hl r w' (by rw [if_pos h] at hE; exact hE)) (fun h => k2 h hG H locs lsA hR hx hb hl r w' (by rw [if_neg h] at hE; exact hE))
theorem WPe_icmp_eq {A B : Option (ρ × Wd)} {x y : Int32} {off : Int} (tgt : Nat) (hd : decode M.1.2.1 pc = .ok (.if_icmp .eq off, 3)) (ht : (pc : Int) + off = (tgt : Int)) (k1 : x = y → WPe rt X M cells slots A tgt ls st w) (k2 : ¬ x = y → WPe rt X M cells slots B (pc + 3) ls st w) : WPe rt X M cells slots (if x = y then A else B) pc ls (vI y :: vI x :: st) w := by
  obtain ⟨p, l, e, s, m, args, below, meth, c, g⟩ := X
  obtain ⟨R, d, mc, ms, w0⟩ := M
  intro hG H locs lsA hR hx hb hl r w' hE
  have hG' := hG
  obtain ⟨ge, gb, gr, gm, go, gt, gl, gn, gK⟩ := hG'
  exact lv_icmp_eq ge gb hd ht (fun h => k1 h hG H locs lsA hR hx hb hl r w' (by rw [if_pos h] at hE; exact hE)) (fun h => k2 h hG H locs lsA hR hx hb hl r w' (by rw [if_neg h] at hE; exact hE))
theorem WPe_if_eq {A B : Option (ρ × Wd)} {x : Int32} {off : Int} (tgt : Nat) (hd : decode M.1.2.1 pc = .ok (.ifCond .eq off, 3)) (ht : (pc : Int) + off = (tgt : Int)) (k1 : x = 0 → WPe rt X M cells slots A tgt ls st w) (k2 : ¬ x = 0 → WPe rt X M cells slots B (pc + 3) ls st w) : WPe rt X M cells slots (if x = 0 then A else B) pc ls (vI x :: st) w := by
  obtain ⟨p, l, e, s, m, args, below, meth, c, g⟩ := X
  obtain ⟨R, d, mc, ms, w0⟩ := M
  intro hG H locs lsA hR hx hb hl r w' hE
  have hG' := hG
  obtain ⟨ge, gb, gr, gm, go, gt, gl, gn, gK⟩ := hG'
  exact lv_if_eq ge gb hd ht (fun h => k1 h hG H locs lsA hR hx hb hl r w' (by rw [if_pos h] at hE; exact hE)) (fun h => k2 h hG H locs lsA hR hx hb hl r w' (by rw [if_neg h] at hE; exact hE))
theorem WPe_icmp_ne {A B : Option (ρ × Wd)} {x y : Int32} {off : Int} (tgt : Nat) (hd : decode M.1.2.1 pc = .ok (.if_icmp .ne off, 3)) (ht : (pc : Int) + off = (tgt : Int)) (k1 : x = y → WPe rt X M cells slots A (pc + 3) ls st w) (k2 : ¬ x = y → WPe rt X M cells slots B tgt ls st w) : WPe rt X M cells slots (if x = y then A else B) pc ls (vI y :: vI x :: st) w := by
  obtain ⟨p, l, e, s, m, args, below, meth, c, g⟩ := X
  obtain ⟨R, d, mc, ms, w0⟩ := M
  intro hG H locs lsA hR hx hb hl r w' hE
  have hG' := hG
  obtain ⟨ge, gb, gr, gm, go, gt, gl, gn, gK⟩ := hG'
  exact lv_icmp_ne ge gb hd ht (fun h => k2 h hG H locs lsA hR hx hb hl r w' (by rw [if_neg h] at hE; exact hE)) (fun h => k1 h hG H locs lsA hR hx hb hl r w' (by rw [if_pos h] at hE; exact hE))
theorem WPe_if_ne {A B : Option (ρ × Wd)} {x : Int32} {off : Int} (tgt : Nat) (hd : decode M.1.2.1 pc = .ok (.ifCond .ne off, 3)) (ht : (pc : Int) + off = (tgt : Int)) (k1 : x = 0 → WPe rt X M cells slots A (pc + 3) ls st w) (k2 : ¬ x = 0 → WPe rt X M cells slots B tgt ls st w) : WPe rt X M cells slots (if x = 0 then A else B) pc ls (vI x :: st) w := by
  obtain ⟨p, l, e, s, m, args, below, meth, c, g⟩ := X
  obtain ⟨R, d, mc, ms, w0⟩ := M
  intro hG H locs lsA hR hx hb hl r w' hE
  have hG' := hG
  obtain ⟨ge, gb, gr, gm, go, gt, gl, gn, gK⟩ := hG'
  exact lv_if_ne ge gb hd ht (fun h => k2 h hG H locs lsA hR hx hb hl r w' (by rw [if_neg h] at hE; exact hE)) (fun h => k1 h hG H locs lsA hR hx hb hl r w' (by rw [if_pos h] at hE; exact hE))
theorem WPe_tabIn {dflt lo hi : Int} {offs : Array Int} {len : Nat} {x : Int32} {off : Int} (v : Int32) (tgt : Nat) (hd : decode M.1.2.1 pc = .ok (.tableswitch dflt lo hi offs, len)) (hc : x = v) (h1 : ¬ v.toInt < lo) (h2 : ¬ hi < v.toInt) (ho : offs[(v.toInt - lo).toNat]? = some off) (ht : (pc : Int) + off = (tgt : Int)) (k : WPe rt X M cells slots E tgt ls st w) : WPe rt X M cells slots E pc ls (vI x :: st) w := by
  obtain ⟨p, l, e, s, m, args, below, meth, c, g⟩ := X
  obtain ⟨R, d, mc, ms, w0⟩ := M
  intro hG H locs lsA hR hx hb hl r w' hE
  have hG' := hG
  obtain ⟨ge, gb, gr, gm, go, gt, gl, gn, gK⟩ := hG'
  subst hc
  exact lv_tableIn ge gb hd h1 h2 ho ht (k hG H locs lsA hR hx hb hl r w' hE)
theorem WPe_tabOut {dflt lo hi : Int} {offs : Array Int} {len : Nat} {x : Int32} (tgt : Nat) (hd : decode M.1.2.1 pc = .ok (.tableswitch dflt lo hi offs, len)) (hall : ∀ j : Nat, j < (hi - lo + 1).toNat → offs[j]? = some dflt ∨ ¬ x.toInt = lo + (j : Int)) (ht : (pc : Int) + dflt = (tgt : Int)) (k : WPe rt X M cells slots E tgt ls st w) : WPe rt X M cells slots E pc ls (vI x :: st) w := by
  obtain ⟨p, l, e, s, m, args, below, meth, c, g⟩ := X
  obtain ⟨R, d, mc, ms, w0⟩ := M
  intro hG H locs lsA hR hx hb hl r w' hE
  have hG' := hG
  obtain ⟨ge, gb, gr, gm, go, gt, gl, gn, gK⟩ := hG'
  by_cases h : x.toInt < lo ∨ hi < x.toInt
  · exact lv_tableOut ge gb hd h ht (k hG H locs lsA hR hx hb hl r w' hE)
  · have h1 : ¬ x.toInt < lo := fun q => h (Or.inl q)
    have h2 : ¬ hi < x.toInt := fun q => h (Or.inr q)
    rcases hall (x.toInt - lo).toNat (by omega) with h3 | h3
    · exact lv_tableIn ge gb hd h1 h2 h3 ht (k hG H locs lsA hR hx hb hl r w' hE)
    · exact absurd (by omega) h3
theorem WPe_ireturn {x : Int32} {z : ρ} (hd : decode M.1.2.1 pc = .ok (.ireturn, 1)) (hz : rt z = some (vI x)) (hr : M.1.2.2.2 = some .int) (hc : cells ≤ M.2.2.1 ∧ slots ≤ M.2.2.2.1) : WPe rt X M cells slots (some (z, w)) pc ls [vI x] w := by
  obtain ⟨p, l, e, s, m, args, below, meth, c, g⟩ := X
  obtain ⟨R, d, mc, ms, w0⟩ := M
  intro hG H locs lsA hR hx hb hl r w' hE
  have hG' := hG
  obtain ⟨ge, gb, gr, gm, go, gt, gl, gn, gK⟩ := hG'
  cases hE
  refine W.widen hc.1 hc.2 ?_
  exact W.iret ge gb (gr.trans hr) (fun t ht _ => ⟨by rw [hz]; rfl, by rw [ht]; exact hR, hx⟩) hb hd gl
theorem WPe_zreturn {x : Int32} {z : ρ} {ty : FieldType} (hd : decode M.1.2.1 pc = .ok (.ireturn, 1)) (hz : rt z = some (vI x)) (hr : M.1.2.2.2 = some ty) (hn : narrow ty (.int x) = .int x) (hc : cells ≤ M.2.2.1 ∧ slots ≤ M.2.2.2.1) : WPe rt X M cells slots (some (z, w)) pc ls [vI x] w := by
  obtain ⟨p, l, e, s, m, args, below, meth, c, g⟩ := X
  obtain ⟨R, d, mc, ms, w0⟩ := M
  intro hG H locs lsA hR hx hb hl r w' hE
  have hG' := hG
  obtain ⟨ge, gb, gr, gm, go, gt, gl, gn, gK⟩ := hG'
  cases hE
  refine W.widen hc.1 hc.2 ?_
  exact W.zret ge gb (gr.trans hr) hn (fun t ht _ => ⟨by rw [hz]; rfl, by rw [ht]; exact hR, hx⟩) hb hd gl
theorem WPe_lreturn {x : Int64} {z : ρ} (hd : decode M.1.2.1 pc = .ok (.lreturn, 1)) (hz : rt z = some (vJ x)) (hr : M.1.2.2.2 = some .long) (hc : cells ≤ M.2.2.1 ∧ slots ≤ M.2.2.2.1) : WPe rt X M cells slots (some (z, w)) pc ls [vJ x] w := by
  obtain ⟨p, l, e, s, m, args, below, meth, c, g⟩ := X
  obtain ⟨R, d, mc, ms, w0⟩ := M
  intro hG H locs lsA hR hx hb hl r w' hE
  have hG' := hG
  obtain ⟨ge, gb, gr, gm, go, gt, gl, gn, gK⟩ := hG'
  cases hE
  refine W.widen hc.1 hc.2 ?_
  exact W.lret ge gb (gr.trans hr) (fun t ht _ => ⟨by rw [hz]; rfl, by rw [ht]; exact hR, hx⟩) hb hd gl
theorem WPe_return {z : ρ} (hd : decode M.1.2.1 pc = .ok (.return_, 1)) (hz : rt z = none) (hr : M.1.2.2.2 = none) (hc : cells ≤ M.2.2.1 ∧ slots ≤ M.2.2.2.1) : WPe rt X M cells slots (some (z, w)) pc ls [] w := by
  obtain ⟨p, l, e, s, m, args, below, meth, c, g⟩ := X
  obtain ⟨R, d, mc, ms, w0⟩ := M
  intro hG H locs lsA hR hx hb hl r w' hE
  have hG' := hG
  obtain ⟨ge, gb, gr, gm, go, gt, gl, gn, gK⟩ := hG'
  cases hE
  refine W.widen hc.1 hc.2 ?_
  exact W.vret ge gb (gr.trans hr) (fun t ht _ => ⟨by rw [hz]; rfl, by rw [ht]; exact hR, hx⟩) hb hd gl
theorem WPe_areturn {x : Nat} {z : ρ} {ty : FieldType} (hd : decode M.1.2.1 pc = .ok (.areturn, 1)) (hz : rt z = some (vR x)) (hr : M.1.2.2.2 = some ty) (hty : (∃ n, ty = .object n) ∨ ∃ t, ty = .array t) (hc : cells ≤ M.2.2.1 ∧ slots ≤ M.2.2.2.1) : WPe rt X M cells slots (some (z, w)) pc ls [vR x] w := by
  obtain ⟨p, l, e, s, m, args, below, meth, c, g⟩ := X
  obtain ⟨R, d, mc, ms, w0⟩ := M
  intro hG H locs lsA hR hx hb hl r w' hE
  have hG' := hG
  obtain ⟨ge, gb, gr, gm, go, gt, gl, gn, gK⟩ := hG'
  cases hE
  refine W.widen hc.1 hc.2 ?_
  exact W.aret (v := rv g x) ge gb (gr.trans hr) hty (by rcases rvE g x with ⟨-, e1⟩ | ⟨-, e1⟩; exact Or.inl e1; exact Or.inr ⟨_, e1⟩) (fun t ht _ => ⟨by rw [hz]; rfl, by rw [ht]; exact hR, hx⟩) hb hd gl
end RULES
