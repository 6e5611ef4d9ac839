/-! rules for fields, rows, new cells -/
theorem am_facts : ∀ (t : Nat) (C : String) (T : u_T) (N : Nat), am_cl[t]? = some (C, T, N) → (∀ w ∈ u_ws C T N, w ∈ BW) ∧ (∀ k, k < N → parseFieldDescriptor (T k).2.2.1 = some (fty t k)) ∧ (∀ a, a < N → ∀ b, b < N → a ≠ b → (T a).2.1 ≠ (T b).2.1) ∧ t < 7 := by
  intro t C T N h
  match t, h with
  | 0, h => cases h; exact ⟨ly0, tyX0_ok, nmX0, by decide⟩
  | 1, h => cases h; exact ⟨ly1, tyX1_ok, nmX1, by decide⟩
  | 2, h => cases h; exact ⟨ly2, tyX2_ok, nmX2, by decide⟩
  | 3, h => cases h; exact ⟨ly3, tyX3_ok, nmX3, by decide⟩
  | 4, h => cases h; exact ⟨ly4, tyX4_ok, nmX4, by decide⟩
  | 5, h => cases h; exact ⟨ly5, tyX5_ok, nmX5, by decide⟩
  | 6, h => cases h; exact ⟨ly6, tyX6_ok, nmX6, by decide⟩
  | t + 7, h => simp [am_cl] at h
theorem cellOk.cong {g : Gh} {w w' : Wd} {H H' : Heap} {q : Nat} (h : cellOk g w H q) (h1 : H'[ad g q]? = H[ad g q]?) (h2 : sh w' q = sh w q) (h3 : ∀ k, wi w' q k = wi w q k) (h4 : ∀ k, wr w' q k = wr w q k) : cellOk g w' H' q := by
  unfold cellOk at h ⊢
  rw [h2]
  split
  · rename_i ht
    rw [if_pos ht] at h
    obtain ⟨r, hr, ho⟩ := h
    refine ⟨r, hr, (ho.kept h1).to fun k _ => ?_⟩
    unfold fV
    rw [h3, h4]
  · rename_i ht
    rw [if_neg ht] at h
    split
    · rename_i ht2
      rw [if_pos ht2] at h
      rw [h1, h]
      congr 2
      funext j
      rw [h3]
    · rename_i ht2
      rw [if_neg ht2] at h
      split
      · rename_i ht3
        rw [if_pos ht3] at h
        rw [h1, h]
        congr 2
        funext j
        rw [h4]
      · trivial
theorem Rel.cell {g : Gh} {w : Wd} {H : Heap} (h : Rel g w H) {q : Nat} (hq : (sh w q).1 ≠ 99) : 32 ≤ q ∧ q < nx w ∧ cellOk g w H q := h.2.2.2 q hq
theorem fV_r {g : Gh} {w : Wd} {t q k : Nat} (h : isRf (fty t k) = true) : fV g w t q k = rv g (wr w q k) := if_pos h
theorem fV_i {g : Gh} {w : Wd} {t q k : Nat} (h : isRf (fty t k) = false) : fV g w t q k = .int (wi w q k) := if_neg (by rw [h]; decide)
theorem fV_e {g : Gh} {w w' : Wd} {t q k : Nat} (h1 : wi w q k = wi w' q k) (h2 : wr w q k = wr w' q k) : fV g w t q k = fV g w' t q k := by
  unfold fV
  rw [h1, h2]
/-- one cell is written -/
theorem Rel.put {g : Gh} {w w' : Wd} {H H' : Heap} {q : Nat} (hR : Rel g w H) (hq : (sh w q).1 ≠ 99) (z : H'.size = H.size) (oq : ∀ a, a ≠ ad g q → H'[a]? = H[a]?) (hsh : ∀ a, sh w' a = sh w a) (hnx : nx w' = nx w) (hi : ∀ a, a ≠ q → ∀ k, wi w' a k = wi w a k) (hr : ∀ a, a ≠ q → ∀ k, wr w' a k = wr w a k) (hc : cellOk g w' H' q) : Rel g w' H' := by
  obtain ⟨c1, c2, -⟩ := hR.cell hq
  refine ⟨by rw [z, hnx]; exact hR.1, by rw [hnx]; exact hR.2.1, fun a ha => ?_, fun a ha => ?_⟩
  · have hb := ad_base (g := g) c1
    rw [oq a (by omega)]
    exact hR.2.2.1 a ha
  · rw [hsh] at ha
    obtain ⟨d1, d2, d3⟩ := hR.cell ha
    refine ⟨d1, by rw [hnx]; exact d2, ?_⟩
    by_cases haq : a = q
    · rw [haq]; exact hc
    · exact d3.cong (oq _ fun e => haq (ad_inj d1 c1 e)) (hsh a) (hi a haq) (hr a haq)
/-- one cell is made -/
theorem Rel.push {g : Gh} {w : Wd} {H H' : Heap} {t n : Nat} (hR : Rel g w H) (ht : t ≠ 99) (z : H'.size = H.size + 1) (oq : ∀ a, a < H.size → H'[a]? = H[a]?) (hc : cellOk g (wN w t n) H' (nx w)) : Rel g (wN w t n) H' := by
  have hn : nx (wN w t n) = nx w + 1 := rfl
  refine ⟨by rw [z, hn, ad_succ hR.2.1, hR.1], by rw [hn]; have := hR.2.1; omega, fun a ha => ?_, fun a ha => ?_⟩
  · have hb := ad_base (g := g) hR.2.1
    rw [oq a (by rw [hR.1]; omega)]
    exact hR.2.2.1 a ha
  · by_cases haq : a = nx w
    · subst haq
      exact ⟨hR.2.1, by rw [hn]; omega, hc⟩
    · have hs : sh (wN w t n) a = sh w a := if_neg haq
      rw [hs] at ha
      obtain ⟨d1, d2, d3⟩ := hR.cell ha
      exact ⟨d1, by rw [hn]; omega, d3.cong (oq _ (by rw [hR.1]; exact ad_lt d1 d2)) hs (fun k => if_neg haq) (fun k => if_neg haq)⟩
theorem Ext.new {w0 w : Wd} {t n : Nat} (h : Ext w0 w) (hw : ∀ q, (sh w q).1 ≠ 99 → q ≠ nx w) : Ext w0 (wN w t n) := fun q hq => by
  have h1 := h q hq
  rw [← h1]
  exact if_neg (hw q (by rw [h1]; exact hq))
section RULES
variable {ρ : Type} {rt : ρ → Option AV} {X : CX} {M : MX} {cells slots pc : Nat} {E : Option (ρ × Wd)} {ls : List (Nat × AV)} {st : List AV} {w : Wd}
theorem WPe_getI {q t n N idx : Nat} {C : String} {T : u_T} (k : Nat) (hd : decode M.1.2.1 pc = .ok (.getfield idx, 3)) (hq : sh w q = (t, n)) (hc : am_cl[t]? = some (C, T, N)) (hk : k < N) (hi : isRf (fty t k) = false) (hl : Cond.fieldLink M.1.1.cls idx (T k).1 (T k).2.1 (T k).2.2.1 ∈ BW) (kk : WPe rt X M cells slots E (pc + 3) ls (vI (wi w q k) :: st) w) : WPe rt X M cells slots E pc ls (vR q :: st) w := by
  obtain ⟨p, l, e, s, m, args, below, meth, c, g⟩ := X
  obtain ⟨R, d, mc, ms, w0⟩ := M
  intro hG H locs lsA hR hx hb hl' r w' hE
  have hG' := hG
  obtain ⟨ge, gb, gr, gm, go, gt, gl, gn, gK⟩ := hG'
  obtain ⟨f1, f2, f3, f4⟩ := am_facts t C T N hc
  have hts : ∀ w ∈ BW, w.before args s = true := fun w hw => gt w hw args s (State.WarmedH.refl s)
  obtain ⟨c1, c2, c3⟩ := hR.cell (q := q) (by rw [hq]; show t ≠ 99; omega)
  unfold cellOk at c3
  rw [hq, if_pos f4] at c3
  obtain ⟨r1, e1, cell, q1, q2, q3, q4⟩ := c3
  have hr1 : r1 = (C, T, N) := Option.some.inj (e1.symm.trans hc)
  subst hr1
  obtain ⟨hS, hfc, kC, hkC, hkind⟩ := gK.1 t _ hc
  obtain ⟨cf, kf, fi, f, hi', hsl⟩ := hS k hk
  show W _ _ _ _ _ _ _ _ _ _ _ _ _ _ _ (F0 m pc lsA (rv g q :: st.map (cv g)))
  rw [rv_ref (by omega)]
  refine W.getf ge gb go (hts _ hl) hi' (u_facts hfc hkC (u_lays hts f1 hk) hi').1 q1 (by rw [q3]; exact fun h => by cases h) (v := .int (wi w q k)) ?_ rfl rfl hd (kk hG H locs lsA hR hx hb hl' r w' hE)
  rw [hsl, q4 k hk]
  show some (fV g w t q k) = _
  unfold fV
  rw [hi]
  rfl
theorem WPe_getR {q t n N idx : Nat} {C : String} {T : u_T} (k : Nat) (hd : decode M.1.2.1 pc = .ok (.getfield idx, 3)) (hq : sh w q = (t, n)) (hc : am_cl[t]? = some (C, T, N)) (hk : k < N) (hi : isRf (fty t k) = true) (hl : Cond.fieldLink M.1.1.cls idx (T k).1 (T k).2.1 (T k).2.2.1 ∈ BW) (kk : WPe rt X M cells slots E (pc + 3) ls (vR (wr w q k) :: st) w) : WPe rt X M cells slots E pc ls (vR q :: st) w := by
  obtain ⟨p, l, e, s, m, args, below, meth, c, g⟩ := X
  obtain ⟨R, d, mc, ms, w0⟩ := M
  intro hG H locs lsA hR hx hb hl' r w' hE
  have hG' := hG
  obtain ⟨ge, gb, gr, gm, go, gt, gl, gn, gK⟩ := hG'
  obtain ⟨f1, f2, f3, f4⟩ := am_facts t C T N hc
  have hts : ∀ w ∈ BW, w.before args s = true := fun w hw => gt w hw args s (State.WarmedH.refl s)
  obtain ⟨c1, c2, c3⟩ := hR.cell (q := q) (by rw [hq]; show t ≠ 99; omega)
  unfold cellOk at c3
  rw [hq, if_pos f4] at c3
  obtain ⟨r1, e1, cell, q1, q2, q3, q4⟩ := c3
  have hr1 : r1 = (C, T, N) := Option.some.inj (e1.symm.trans hc)
  subst hr1
  obtain ⟨hS, hfc, kC, hkC, hkind⟩ := gK.1 t _ hc
  obtain ⟨cf, kf, fi, f, hi', hsl⟩ := hS k hk
  show W _ _ _ _ _ _ _ _ _ _ _ _ _ _ _ (F0 m pc lsA (rv g q :: st.map (cv g)))
  rw [rv_ref (by omega)]
  refine W.getf ge gb go (hts _ hl) hi' (u_facts hfc hkC (u_lays hts f1 hk) hi').1 q1 (by rw [q3]; exact fun h => by cases h) (v := rv g (wr w q k)) ?_ rfl rfl hd (kk hG H locs lsA hR hx hb hl' r w' hE)
  rw [hsl, q4 k hk]
  show some (fV g w t q k) = _
  unfold fV
  rw [hi]
  rfl
/-- both kinds of putfield, of both kinds of value -/
theorem WPe_put0 {q t n N idx : Nat} {C : String} {T : u_T} (k : Nat) (hd : decode M.1.2.1 pc = .ok (.putfield idx, 3)) (hq : sh w q = (t, n)) (hc : am_cl[t]? = some (C, T, N)) (hk : k < N) (hl : Cond.fieldLink M.1.1.cls idx (T k).1 (T k).2.1 (T k).2.2.1 ∈ BW)
    (hf : (T k).2.2.2 = false ∨ ((T k).2.2.2 = true ∧ M.1.1.name = "<init>" ∧ (T k).1 = M.1.1.cls)) {v : AV} {w2 : Wd} (hn : ∀ g, narrow (fty t k) (cv g v) = cv g v) (hfit : ∀ g, fits (fty t k) (cv g v) = true)
    (hsh : ∀ a, sh w2 a = sh w a) (hnx : nx w2 = nx w) (hi : ∀ a, a ≠ q → ∀ k, wi w2 a k = wi w a k) (hr : ∀ a, a ≠ q → ∀ k, wr w2 a k = wr w a k) (hv : ∀ g, ∀ j, j < N → updV (fV g w t q) k (cv g v) j = fV g w2 t q j)
    (kk : WPe rt X M cells slots E (pc + 3) ls st w2) : WPe rt X M cells slots E pc ls (v :: vR q :: st) w := by
  obtain ⟨p, l, e, s, m, args, below, meth, c, g⟩ := X
  obtain ⟨R, d, mc, ms, w0⟩ := M
  intro hG H locs lsA hR hx hb hl' r w' hE
  have hG' := hG
  obtain ⟨ge, gb, gr, gm, go, gt, gl, gn, gK⟩ := hG'
  obtain ⟨f1, f2, f3, f4⟩ := am_facts t C T N hc
  have hts : ∀ w ∈ BW, w.before args s = true := fun w hw => gt w hw args s (State.WarmedH.refl s)
  have hq99 : (sh w q).1 ≠ 99 := by rw [hq]; show t ≠ 99; omega
  obtain ⟨c1, c2, c3⟩ := hR.cell (q := q) hq99
  unfold cellOk at c3
  rw [hq, if_pos f4] at c3
  obtain ⟨r1, e1, cell, q1, q2, q3, q4⟩ := c3
  have hr1 : r1 = (C, T, N) := Option.some.inj (e1.symm.trans hc)
  subst hr1
  obtain ⟨hS, hfc, kC, hkC, hkind⟩ := gK.1 t _ hc
  obtain ⟨cf, kf, fi, f, hi', hsl⟩ := hS k hk
  have hap : ∀ x y, x < N → y < N → x ≠ y → (gI g t) x ≠ (gI g t) y := by
    intro x y hx hy hne
    obtain ⟨_, _, _, fa, hia, ea⟩ := hS x hx
    obtain ⟨_, _, _, fb, hib, eb⟩ := hS y hy
    rw [← ea, ← eb]
    refine u_apart (u_lays hts f1 hx) (u_lays hts f1 hy) hia hib ?_
    rw [(State.fieldFound?_type hia (f2 x hx)).1, (State.fieldFound?_type hib (f2 y hy)).1]
    exact f3 x hx y hy hne
  have hlay := hts _ (f1 _ (u_in_lay hk))
  unfold u_lay at hlay
  have hst := (u_facts hfc hkC (u_lays hts f1 hk) hi').1
  have fin : ∀ H', H'[ad g q]? = some (cell.setSlot f.slot (cv g v)) → H'.size = H.size → (∀ a, a ≠ ad g q → H'[a]? = H[a]?) → Rel g w2 H' := by
    intro H' e1 e2 e3
    refine hR.put hq99 e2 e3 hsh hnx hi hr ?_
    unfold cellOk
    rw [hsh, hq, if_pos f4]
    rw [hsl] at e1
    exact ⟨_, hc, t_OB.to (V := updV (fV g w t q) k (cv g v)) ⟨_, e1, q2, q3, t_set q4 hap hk (cv g v)⟩ (hv g)⟩
  have hx2 : Ext w0 w2 := fun a ha => by rw [hsh]; exact hx a ha
  have hb2 : ∀ a ∈ locs ++ [⟨ad g q, f.slot⟩], Old g a.base := fun a ha => by
    rcases List.mem_append.mp ha with h | h
    · exact hb a h
    · rw [List.mem_singleton.mp h]; exact ad_base c1
  show W _ _ _ _ _ _ _ _ _ _ _ _ _ _ _ (F0 m pc lsA (cv g v :: rv g q :: st.map (cv g)))
  rw [rv_ref (by omega)]
  rcases hf with hf | ⟨hf, hin, hdc⟩
  · rw [if_neg (by rw [hf]; decide)] at hlay
    have h6 := u_store hfc hkC hkind hlay hi' (f2 k hk) (hn g) (hfit g)
    exact W.putK ge gb (f := f) ⟨go, hts _ hl, ⟨_, _, _, hi'⟩, hst⟩ (by rw [q2]; exact h6) q1 q3 (by rw [hsl]; exact k2_hasslot (q4 k hk)) rfl rfl hd fun H' e1 e2 e3 => kk hG H' _ lsA (fin H' e1 e2 e3) hx2 hb2 hl' r w' hE
  · rw [if_pos hf] at hlay
    have hcf : m.cls = cf := by
      obtain ⟨_, _, c', _, _, _, -, -, hf', -, -, -, hown2, -⟩ := Cond.laysFinal_spec hlay
      have e1 : c' = cf := by have := hi'.symm.trans hf'; simp at this; exact this.1.symm
      rw [hdc] at hown2
      rw [← e1]; exact Option.some.inj (go.symm.trans hown2)
    have h6 := u_fits hfc hkC hkind (Or.inr hlay) hi' (f2 k hk) (hn g) (hfit g)
    exact W.putFinK ge gb go (hts _ hl) hi' hst hcf (gn.trans hin) (by rw [q2]; exact h6) q1 q3 (by rw [hsl]; exact k2_hasslot (q4 k hk)) rfl rfl hd fun H' e1 e2 e3 => kk hG H' _ lsA (fin H' e1 e2 e3) hx2 hb2 hl' r w' hE
theorem wi_sI (w : Wd) (q k : Nat) (v : Int32) (a b : Nat) : wi (sI w q k v) a b = if a = q ∧ b = k then v else wi w a b := rfl
theorem wr_sI (w : Wd) (q k : Nat) (v : Int32) (a b : Nat) : wr (sI w q k v) a b = wr w a b := rfl
theorem sh_sI (w : Wd) (q k : Nat) (v : Int32) (a : Nat) : sh (sI w q k v) a = sh w a := rfl
theorem nx_sI (w : Wd) (q k : Nat) (v : Int32) : nx (sI w q k v) = nx w := rfl
theorem wr_sR (w : Wd) (q k : Nat) (v : Nat) (a b : Nat) : wr (sR w q k v) a b = if a = q ∧ b = k then v else wr w a b := rfl
theorem wi_sR (w : Wd) (q k : Nat) (v : Nat) (a b : Nat) : wi (sR w q k v) a b = wi w a b := rfl
theorem sh_sR (w : Wd) (q k : Nat) (v : Nat) (a : Nat) : sh (sR w q k v) a = sh w a := rfl
theorem nx_sR (w : Wd) (q k : Nat) (v : Nat) : nx (sR w q k v) = nx w := rfl
theorem wi_sI_ne {w : Wd} {q k : Nat} {v : Int32} {a : Nat} (h : a ≠ q) (b : Nat) : wi (sI w q k v) a b = wi w a b := if_neg fun e => h e.1
theorem wr_sR_ne {w : Wd} {q k : Nat} {v : Nat} {a : Nat} (h : a ≠ q) (b : Nat) : wr (sR w q k v) a b = wr w a b := if_neg fun e => h e.1
theorem WPe_putI {q t n N idx : Nat} {C : String} {T : u_T} {x : Int32} (k : Nat) (hd : decode M.1.2.1 pc = .ok (.putfield idx, 3)) (hq : sh w q = (t, n)) (hc : am_cl[t]? = some (C, T, N)) (hk : k < N) (hl : Cond.fieldLink M.1.1.cls idx (T k).1 (T k).2.1 (T k).2.2.1 ∈ BW)
    (hf : (T k).2.2.2 = false ∨ ((T k).2.2.2 = true ∧ M.1.1.name = "<init>" ∧ (T k).1 = M.1.1.cls)) (hi : isRf (fty t k) = false) (hn : narrow (fty t k) (.int x) = .int x) (hfit : fits (fty t k) (.int x) = true)
    (kk : WPe rt X M cells slots E (pc + 3) ls st (sI w q k x)) : WPe rt X M cells slots E pc ls (vI x :: vR q :: st) w := by
  refine WPe_put0 (v := vI x) (w2 := sI w q k x) k hd hq hc hk hl hf (fun _ => hn) (fun _ => hfit) (fun _ => rfl) rfl (fun a ha b => wi_sI_ne ha b) (fun a _ b => rfl) (fun g j hj => ?_) kk
  show (if j = k then cv g (vI x) else fV g w t q j) = _
  by_cases hjk : j = k
  · subst hjk
    rw [if_pos rfl, fV_i hi, wi_sI, if_pos ⟨rfl, rfl⟩]
    rfl
  · rw [if_neg hjk]
    exact fV_e (by rw [wi_sI, if_neg (fun h => hjk h.2)]) rfl
theorem WPe_putR {q t n N idx : Nat} {C : String} {T : u_T} {x : Nat} (k : Nat) (hd : decode M.1.2.1 pc = .ok (.putfield idx, 3)) (hq : sh w q = (t, n)) (hc : am_cl[t]? = some (C, T, N)) (hk : k < N) (hl : Cond.fieldLink M.1.1.cls idx (T k).1 (T k).2.1 (T k).2.2.1 ∈ BW)
    (hf : (T k).2.2.2 = false ∨ ((T k).2.2.2 = true ∧ M.1.1.name = "<init>" ∧ (T k).1 = M.1.1.cls)) (hi : isRf (fty t k) = true)
    (kk : WPe rt X M cells slots E (pc + 3) ls st (sR w q k x)) : WPe rt X M cells slots E pc ls (vR x :: vR q :: st) w := by
  refine WPe_put0 (v := vR x) (w2 := sR w q k x) k hd hq hc hk hl hf (fun g => ?_) (fun g => ?_) (fun _ => rfl) rfl (fun a ha b => rfl) (fun a ha b => wr_sR_ne ha b) (fun g j hj => ?_) kk
  · show narrow _ (rv g x) = rv g x
    rcases rvE g x with ⟨-, e1⟩ | ⟨-, e1⟩ <;> rw [e1] <;> cases hty : fty t k <;> rfl
  · show fits _ (rv g x) = true
    rcases rvE g x with ⟨-, e1⟩ | ⟨-, e1⟩ <;> rw [e1] <;> cases hty : fty t k <;> first | rfl | (rw [hty] at hi; cases hi)
  · show (if j = k then cv g (vR x) else fV g w t q j) = _
    by_cases hjk : j = k
    · subst hjk
      rw [if_pos rfl, fV_r hi, wr_sR, if_pos ⟨rfl, rfl⟩]
      rfl
    · rw [if_neg hjk]
      exact fV_e rfl (by rw [wr_sR, if_neg (fun h => hjk h.2)])
theorem WPe_iald {q n : Nat} {i : Int32} (hd : decode M.1.2.1 pc = .ok (.iaload, 1)) (hq : sh w q = (20, n)) (hin : vp_in i n) (kk : WPe rt X M cells slots E (pc + 1) ls (vI (wi w q i.toNatClampNeg) :: st) w) : WPe rt X M cells slots E pc ls (vI i :: vR q :: st) w := by
  obtain ⟨p, l, e, s, m, args, below, meth, c, g⟩ := X
  obtain ⟨R, d, mc, ms, w0⟩ := M
  intro hG H locs lsA hR hx hb hl' r w' hE
  have hG' := hG
  obtain ⟨ge, gb, gr, gm, go, gt, gl, gn, gK⟩ := hG'
  obtain ⟨c1, c2, c3⟩ := hR.cell (q := q) (by rw [hq]; show 20 ≠ 99; decide)
  unfold cellOk at c3
  rw [hq, if_neg (by show ¬ 20 < 7; decide), if_pos rfl] at c3
  have hlt : i.toNatClampNeg < n := Nat.not_le.mp fun q => hin (Or.inr q)
  show W _ _ _ _ _ _ _ _ _ _ _ _ _ _ _ (F0 m pc lsA (.int i :: rv g q :: st.map (cv g)))
  rw [rv_ref (by omega)]
  exact W.iald (v := .int (wi w q i.toNatClampNeg)) ge gb c3 (gK.2.1.1 n (fun j => .int (wi w q j))) (fun q => by cases q) (by show ¬ (i < 0 ∨ (arrV _ _ _).slots.size ≤ _); rw [arrV_size]; exact hin) (by rw [arrV_read _ _ hlt]) rfl rfl hd (kk hG H locs lsA hR hx hb hl' r w' hE)
theorem WPe_iast {q n : Nat} {i x : Int32} (hd : decode M.1.2.1 pc = .ok (.iastore, 1)) (hq : sh w q = (20, n)) (hin : vp_in i n) (kk : WPe rt X M cells slots E (pc + 1) ls st (sI w q i.toNatClampNeg x)) : WPe rt X M cells slots E pc ls (vI x :: vI i :: vR q :: st) w := by
  obtain ⟨p, l, e, s, m, args, below, meth, c, g⟩ := X
  obtain ⟨R, d, mc, ms, w0⟩ := M
  intro hG H locs lsA hR hx hb hl' r w' hE
  have hG' := hG
  obtain ⟨ge, gb, gr, gm, go, gt, gl, gn, gK⟩ := hG'
  have hq99 : (sh w q).1 ≠ 99 := by rw [hq]; show 20 ≠ 99; decide
  obtain ⟨c1, c2, c3⟩ := hR.cell (q := q) hq99
  unfold cellOk at c3
  rw [hq, if_neg (by show ¬ 20 < 7; decide), if_pos rfl] at c3
  show W _ _ _ _ _ _ _ _ _ _ _ _ _ _ _ (F0 m pc lsA (.int x :: .int i :: rv g q :: st.map (cv g)))
  rw [rv_ref (by omega)]
  refine W.iast ge gb c3 (gK.2.1.1 n (fun j => .int (wi w q j))) (fun q => by cases q) (by show ¬ (i < 0 ∨ (arrV _ _ _).slots.size ≤ _); rw [arrV_size]; exact hin) rfl rfl hd fun H1 e1 e2 e3 => ?_
  refine kk hG H1 _ lsA ?_ (fun a ha => hx a ha) (fun a ha => ?_) hl' r w' hE
  · refine hR.put hq99 e2 e3 (fun _ => rfl) rfl (fun a ha b => wi_sI_ne ha b) (fun a _ b => rfl) ?_
    unfold cellOk
    rw [sh_sI, hq, if_neg (by show ¬ 20 < 7; decide), if_pos rfl, e1, arrV_store]
    congr 2
    funext j
    unfold updV
    rw [wi_sI]
    by_cases hj : j = i.toNatClampNeg
    · rw [if_pos hj, if_pos ⟨rfl, hj⟩]
    · rw [if_neg hj, if_neg fun h => hj h.2]
  · rcases List.mem_append.mp ha with h | h
    · exact hb a h
    · rw [List.mem_singleton.mp h]; exact ad_base c1
theorem WPe_aald {q t n : Nat} {i : Int32} (hd : decode M.1.2.1 pc = .ok (.aaload, 1)) (hq : sh w q = (t, n)) (ht : 21 ≤ t ∧ t < 24) (hin : vp_in i n) (kk : WPe rt X M cells slots E (pc + 1) ls (vR (wr w q i.toNatClampNeg) :: st) w) : WPe rt X M cells slots E pc ls (vI i :: vR q :: st) w := by
  obtain ⟨p, l, e, s, m, args, below, meth, c, g⟩ := X
  obtain ⟨R, d, mc, ms, w0⟩ := M
  intro hG H locs lsA hR hx hb hl' r w' hE
  have hG' := hG
  obtain ⟨ge, gb, gr, gm, go, gt, gl, gn, gK⟩ := hG'
  obtain ⟨c1, c2, c3⟩ := hR.cell (q := q) (by rw [hq]; show t ≠ 99; omega)
  unfold cellOk at c3
  rw [hq, if_neg (by show ¬ t < 7; omega), if_neg (by show ¬ t = 20; omega), if_pos (by show t < 24; omega)] at c3
  have hlt : i.toNatClampNeg < n := Nat.not_le.mp fun q => hin (Or.inr q)
  show W _ _ _ _ _ _ _ _ _ _ _ _ _ _ _ (F0 m pc lsA (.int i :: rv g q :: st.map (cv g)))
  rw [rv_ref (by omega)]
  exact W.aald (v := rv g (wr w q i.toNatClampNeg)) (ty := .object (rcl t)) ge gb c3 ((gK.2.2.1 t ht.1 ht.2).1 n (fun j => rv g (wr w q j))) rfl (fun q => by cases q) (by show ¬ (i < 0 ∨ (arrV _ _ _).slots.size ≤ _); rw [arrV_size]; exact hin) (by rw [arrV_read _ _ hlt]) rfl rfl hd (kk hG H locs lsA hR hx hb hl' r w' hE)
theorem WPe_aast {q v t tv n nv N : Nat} {T : u_T} {i : Int32} (hd : decode M.1.2.1 pc = .ok (.aastore, 1)) (hq : sh w q = (t, n)) (ht : 21 ≤ t ∧ t < 24) (hin : vp_in i n) (hv : sh w v = (tv, nv)) (hc : am_cl[tv]? = some (rcl t, T, N)) (kk : WPe rt X M cells slots E (pc + 1) ls st (sR w q i.toNatClampNeg v)) : WPe rt X M cells slots E pc ls (vR v :: vI i :: vR q :: st) w := by
  obtain ⟨p, l, e, s, m, args, below, meth, c, g⟩ := X
  obtain ⟨R, d, mc, ms, w0⟩ := M
  intro hG H locs lsA hR hx hb hl' r w' hE
  have hG' := hG
  obtain ⟨ge, gb, gr, gm, go, gt, gl, gn, gK⟩ := hG'
  obtain ⟨f1, f2, f3, f4⟩ := am_facts tv _ T N hc
  have hq99 : (sh w q).1 ≠ 99 := by rw [hq]; show t ≠ 99; omega
  obtain ⟨c1, c2, c3⟩ := hR.cell (q := q) hq99
  unfold cellOk at c3
  rw [hq, if_neg (by show ¬ t < 7; omega), if_neg (by show ¬ t = 20; omega), if_pos (by show t < 24; omega)] at c3
  obtain ⟨d1, d2, d3⟩ := hR.cell (q := v) (by rw [hv]; show tv ≠ 99; omega)
  unfold cellOk at d3
  rw [hv, if_pos f4] at d3
  obtain ⟨r1, e1, cellV, g1, g2, g3, -⟩ := d3
  have hcls := (gK.1 tv _ hc).2
  obtain ⟨kA, comp, k1, k2, k3, -⟩ := (gK.2.2.1 t ht.1 ht.2).2
  have hcomp : comp = gC g tv := Option.some.inj (k3.symm.trans hcls.1)
  subst hcomp
  obtain ⟨kC, hkC, -⟩ := id hcls.2
  have hlt : i.toNatClampNeg < n := Nat.not_le.mp fun q => hin (Or.inr q)
  have h0 : ¬ i < 0 := fun q => hin (Or.inl q)
  show W _ _ _ _ _ _ _ _ _ _ _ _ _ _ _ (F0 m pc lsA (rv g v :: .int i :: rv g q :: st.map (cv g)))
  rw [rv_ref (q := q) (by omega), rv_ref (q := v) (by omega)]
  refine W.aast ge gb c3 (fun q h => by cases h) (fun h => by cases h) k1 k2 rfl hkC ⟨h0, by show _ < (arrV _ _ _).slots.size; rw [arrV_size]; exact hlt⟩ g1 (fun q h => by rw [g3] at h; cases h) (by rw [g2]; exact hkC) (by rw [g2]; exact va_assign hcls) rfl rfl hd fun H1 e1 e2 e3 => ?_
  refine kk hG H1 _ lsA ?_ (fun a ha => hx a ha) (fun a ha => ?_) hl' r w' hE
  · refine hR.put hq99 e2 e3 (fun _ => rfl) rfl (fun a _ b => rfl) (fun a ha b => wr_sR_ne ha b) ?_
    unfold cellOk
    rw [sh_sR, hq, if_neg (by show ¬ t < 7; omega), if_neg (by show ¬ t = 20; omega), if_pos (by show t < 24; omega), e1, arrV_store]
    congr 2
    funext j
    unfold updV
    rw [wr_sR]
    by_cases hj : j = i.toNatClampNeg
    · rw [if_pos hj, if_pos ⟨rfl, hj⟩, rv_ref (by omega)]
    · rw [if_neg hj, if_neg fun h => hj h.2]
  · rcases List.mem_append.mp ha with h | h
    · exact hb a h
    · rw [List.mem_singleton.mp h]; exact ad_base c1
theorem WPe_alen {q t n : Nat} (hd : decode M.1.2.1 pc = .ok (.arraylength, 1)) (hq : sh w q = (t, n)) (ht : 20 ≤ t ∧ t < 24) (kk : WPe rt X M cells slots E (pc + 1) ls (vI (Int32.ofNat n) :: st) w) : WPe rt X M cells slots E pc ls (vR q :: st) w := by
  obtain ⟨p, l, e, s, m, args, below, meth, c, g⟩ := X
  obtain ⟨R, d, mc, ms, w0⟩ := M
  intro hG H locs lsA hR hx hb hl' r w' hE
  have hG' := hG
  obtain ⟨ge, gb, gr, gm, go, gt, gl, gn, gK⟩ := hG'
  obtain ⟨c1, c2, c3⟩ := hR.cell (q := q) (by rw [hq]; show t ≠ 99; omega)
  unfold cellOk at c3
  show W _ _ _ _ _ _ _ _ _ _ _ _ _ _ _ (F0 m pc lsA (rv g q :: st.map (cv g)))
  rw [rv_ref (by omega)]
  by_cases h20 : t = 20
  · subst h20
    rw [hq, if_neg (by show ¬ 20 < 7; decide), if_pos rfl] at c3
    exact W.alen (n := Int32.ofNat n) ge gb c3 (gK.2.1.1 n (fun j => .int (wi w q j))) (by rw [arrV_size] <;> rfl) rfl rfl hd (kk hG H locs lsA hR hx hb hl' r w' hE)
  · rw [hq, if_neg (by show ¬ t < 7; omega), if_neg (by show ¬ t = 20; omega), if_pos (by show t < 24; omega)] at c3
    exact W.alen (n := Int32.ofNat n) ge gb c3 ((gK.2.2.1 t (by omega) ht.2).1 n (fun j => rv g (wr w q j))) (by rw [arrV_size] <;> rfl) rfl rfl hd (kk hG H locs lsA hR hx hb hl' r w' hE)
theorem nx_ne {g : Gh} {H : Heap} (hR : Rel g w H) : ∀ q, (sh w q).1 ≠ 99 → q ≠ nx w := fun q h e => by
  have := (hR.cell h).2.1
  omega
theorem WPe_newI {N : Nat} {n : Int32} (hd : decode M.1.2.1 pc = .ok (.newarray .int, 2)) (hw : Cond.arrayClass .int ∈ BW) (hn : ¬ n < 0) (hN : n.toNatClampNeg = N) (hbytes : N ≤ 10000) (hcs : cells + 1 ≤ M.2.2.1 ∧ slots + N ≤ M.2.2.2.1) (kk : WPe rt X M (cells + 1) (slots + N) E (pc + 2) ls (vR (nx w) :: st) (wN w 20 N)) : WPe rt X M cells slots E pc ls (vI n :: st) w := by
  obtain ⟨p, l, e, s, m, args, below, meth, c, g⟩ := X
  obtain ⟨R, d, mc, ms, w0⟩ := M
  intro hG H locs lsA hR hx hb hl' r w' hE
  have hG' := hG
  obtain ⟨ge, gb, gr, gm, go, gt, gl, gn, gK⟩ := hG'
  refine va_newaK (atype := .int) ge gb (gt _ hw args s (State.WarmedH.refl s)) rfl hd rfl hn hN (by show N * 4 ≤ _; omega) hcs.1 hcs.2 rfl fun H1 cA e1 e2 e3 hAr hNm => ?_
  have hcA : cA = gA g 20 := Option.some.inj (hNm.symm.trans gK.2.1.2)
  subst hcA
  have k := kk hG H1 locs lsA (hR.push (by decide) e2 e3 ?_) (hx.new (nx_ne hR)) hb hl' r w' hE
  · change W _ _ _ _ _ _ _ _ _ _ _ _ _ _ _ (F0 m _ lsA (rv g (nx w) :: st.map (cv g))) at k
    rw [rv_ref (by have := hR.2.1; omega), ← hR.1] at k
    exact k
  · have hs : sh (wN w 20 N) (nx w) = (20, N) := if_pos rfl
    unfold cellOk
    rw [hs, if_neg (by show ¬ 20 < 7; decide), if_pos rfl, ← hR.1, e1]
    congr 2
    funext j
    show Value.int 0 = .int _
    congr 1
    exact (if_pos rfl).symm
theorem WPe_newQ {N t idx : Nat} {n : Int32} (hd : decode M.1.2.1 pc = .ok (.anewarray idx, 3)) (ht : 21 ≤ t ∧ t < 24) (hc : Cond.classLink M.1.1.cls idx (rcl t) ∈ BW) (hw : rcl t ∈ aoL) (hn : ¬ n < 0) (hN : n.toNatClampNeg = N) (hbytes : N ≤ 10000) (hcs : cells + 1 ≤ M.2.2.1 ∧ slots + N ≤ M.2.2.2.1) (kk : WPe rt X M (cells + 1) (slots + N) E (pc + 3) ls (vR (nx w) :: st) (wN w t N)) : WPe rt X M cells slots E pc ls (vI n :: st) w := by
  obtain ⟨p, l, e, s, m, args, below, meth, c, g⟩ := X
  obtain ⟨R, d, mc, ms, w0⟩ := M
  intro hG H locs lsA hR hx hb hl' r w' hE
  have hG' := hG
  obtain ⟨ge, gb, gr, gm, go, gt, gl, gn, gK⟩ := hG'
  subst hN
  refine W.anew ge gb go (gt _ hc args s (State.WarmedH.refl s)) (va_AO.use (gK.2.2.2.2.2.2.2.2.2 _ hw)) rfl hd rfl hn (by omega) hcs.1 hcs.2 fun cA kA comp f1 f2 f3 f4 => ?_
  generalize hH1 : H.push ({ cls := cA, slots := Array.replicate n.toNatClampNeg .null, vm := .none } : Cell) = H1
  have e2 : H1.size = H.size + 1 := by rw [← hH1, Array.size_push]
  have e1 : H1[H.size]? = some (arrV cA n.toNatClampNeg (fun _ => .null)) := by rw [← hH1, Array.getElem?_push_size, ← arrV_new]
  have e3 : ∀ q : Nat, q < H.size → H1[q]? = H[q]? := fun q hq => by rw [← hH1, Array.getElem?_push, if_neg (Nat.ne_of_lt hq)]
  obtain ⟨kA', comp', k1, k2, k3, k4⟩ := (gK.2.2.1 t ht.1 ht.2).2
  have hcA : cA = gA g t := Option.some.inj (f1.symm.trans k4)
  subst hcA
  have k := kk hG H1 locs lsA (hR.push (by omega) e2 e3 ?_) (hx.new (nx_ne hR)) hb hl' r w' hE
  · change W _ _ _ _ _ _ _ _ _ _ _ _ _ _ _ (F0 m _ lsA (rv g (nx w) :: st.map (cv g))) at k
    rw [rv_ref (by have := hR.2.1; omega), ← hR.1] at k
    exact k
  · have hs : sh (wN w t n.toNatClampNeg) (nx w) = (t, n.toNatClampNeg) := if_pos rfl
    unfold cellOk
    rw [hs, if_neg (by show ¬ t < 7; omega), if_neg (by show ¬ t = 20; omega), if_pos (by show t < 24; omega), ← hR.1, e1]
    congr 2
    funext j
    show Value.null = rv g _
    rw [show wr (wN w t n.toNatClampNeg) (nx w) j = 0 from if_pos rfl]
    rfl
theorem WPe_newO {N t idx : Nat} {C : String} {T : u_T} (hd : decode M.1.2.1 pc = .ok (.new idx, 3)) (hc : am_cl[t]? = some (C, T, N)) (h1 : Cond.classLink M.1.1.cls idx C ∈ BW) (h2 : Cond.instantiable C N ∈ BW) (h3 : Cond.initialized C ∈ BW) (hk : ∀ k, k < N → (isRf (fty t k) = true ∧ defaultValue (fty t k) = .null) ∨ (isRf (fty t k) = false ∧ defaultValue (fty t k) = .int 0)) (hcs : cells + 1 ≤ M.2.2.1 ∧ slots + N ≤ M.2.2.2.1) (kk : WPe rt X M (cells + 1) (slots + N) E (pc + 3) ls (vR (nx w) :: st) (wN w t 0)) : WPe rt X M cells slots E pc ls st w := by
  obtain ⟨p, l, e, s, m, args, below, meth, c, g⟩ := X
  obtain ⟨R, d, mc, ms, w0⟩ := M
  intro hG H locs lsA hR hx hb hl' r w' hE
  have hG' := hG
  obtain ⟨ge, gb, gr, gm, go, gt, gl, gn, gK⟩ := hG'
  obtain ⟨f1, f2, f3, f4⟩ := am_facts t C T N hc
  have hts : ∀ w ∈ BW, w.before args s = true := fun w hw => gt w hw args s (State.WarmedH.refl s)
  have hKn := gK.1 t _ hc
  refine W.newcK ge gb go (hts _ h1) (hts _ h2) (hts _ h3) rfl hd hcs.1 hcs.2 hKn.2.1 rfl fun H1 kC hkC e1 e2 e3 => ?_
  have k := kk hG H1 locs lsA (hR.push (by omega) e2 e3 ?_) (hx.new (nx_ne hR)) hb hl' r w' hE
  · change W _ _ _ _ _ _ _ _ _ _ _ _ _ _ _ (F0 m _ lsA (rv g (nx w) :: st.map (cv g))) at k
    rw [rv_ref (by have := hR.2.1; omega), ← hR.1] at k
    exact k
  · have hs : sh (wN w t 0) (nx w) = (t, 0) := if_pos rfl
    unfold cellOk
    rw [hs, if_pos f4, ← hR.1]
    refine ⟨_, hc, (u_born (fty t) hts f1 hKn hkC e1 f2).to fun j hj => ?_⟩
    rcases hk j hj with ⟨a1, a2⟩ | ⟨a1, a2⟩
    · show defaultValue (fty t j) = fV g (wN w t 0) t (nx w) j
      rw [fV_r a1, a2, show wr (wN w t 0) (nx w) j = 0 from if_pos rfl]
      rfl
    · show defaultValue (fty t j) = fV g (wN w t 0) t (nx w) j
      rw [fV_i a1, a2, show wi (wN w t 0) (nx w) j = 0 from if_pos rfl]
end RULES
