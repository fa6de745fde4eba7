section B4
variable {sg c m : Hp} {f : Nat → Int32} {n p q lim : Nat}
theorem a28 : alen tC 28 = 41 := by decide +kernel
theorem a29 : alen tC 29 = 41 := by decide +kernel
theorem a27 : alen tC 27 = 60 := by decide +kernel
def kp5 (sg d : Hp) : Prop := ∀ b j, ¬ (b = 5 ∧ (j = 5 ∨ j = 7)) → d b j = sg b j
def kpI (sg d : Hp) : Prop := ∀ b j, ¬ (b = 28 ∨ (b = 5 ∧ (j = 3 ∨ j = 5 ∨ j = 7))) → d b j = sg b j
def kpL (sg d : Hp) : Prop := ∀ b j, ¬ (b = 28 ∨ b = 29 ∨ (b = 5 ∧ j ≠ 4)) → d b j = sg b j
theorem wr {q : Nat} (hq : q ≤ 1000) : ¬ nI q = -1 := nm1 (by omega)
theorem paceC_y {r : Nat} (h : tx sg f n p) (hp : p ≤ 150) (hw : sg 5 7 = -1) (hc : cdAt f n p = 114) (hn : numT f n 999 (p + 1) = some (r, q)) : fX5_readPace sg = some (nI r, up2 sg 5 5 (nI q)) := by
  unfold fX5_readPace
  rw [if_pos hw, code_ok h, bnd_s, if_pos hc, h.2.2.1, nI_1, show (999 : Int32) = nI 999 from rfl, numC_y (tx_up h (by omega)) (by omega) (by omega) hn, bnd_s, up2_tw]
theorem paceC_n (h : tx sg f n p) (hp : p ≤ 150) (hw : sg 5 7 = -1) (hc : cdAt f n p = 114) (hn : numT f n 999 (p + 1) = none) : ∃ r d, fX5_readPace sg = some (nI r, d) ∧ kp5 sg d ∧ d 5 7 = nI (p + 1) := by
  obtain ⟨a, q, ha, e⟩ := numC_n (tx_up h (show p + 1 ≤ 200 by omega)) (by omega) (show 999 ≤ 9999 by omega) hn
  refine ⟨a, up2 (up2 (up2 sg 5 5 (nI (p + 1))) 5 5 (nI q)) 5 7 (nI (p + 1)), ?_, ?_, up2_s⟩
  · unfold fX5_readPace
    rw [if_pos hw, code_ok h, bnd_s, if_pos hc, h.2.2.1, nI_1, show (999 : Int32) = nI 999 from rfl, e, bnd_s]
  · intro b j hb
    rw [up2_o (by omega), up2_o (by omega), up2_o (by omega)]
theorem paceC_o (h : tx sg f n p) (hw : sg 5 7 = -1) (hc : ¬ cdAt f n p = 114) : fX5_readPace sg = some (0, up2 sg 5 7 (nI p)) := by
  unfold fX5_readPace
  rw [if_pos hw, code_ok h, bnd_s, if_neg hc, h.2.2.1]
theorem paceC_w (hw : ¬ sg 5 7 = -1) : fX5_readPace sg = some (0, sg) := by
  unfold fX5_readPace
  rw [if_neg hw]
def itR (d : Hp) (w : Sum Nat (Nat × Nat × Nat × Nat)) : Prop := match w with
  | .inl q => d 5 7 = nI q
  | .inr t => d 5 7 = -1 ∧ d 5 5 = nI t.2.2.2 ∧ d 5 3 = nI t.1 ∧ req (d 28) (iRow (t.1, t.2.1, t.2.2.1))
theorem twoC {kd : Nat} (h : tx sg f n p) (hp : p ≤ 100) (hl : lim ≤ 9999) (hk : kd = 1 ∨ kd = 2) (hw : sg 5 7 = -1) : ∃ d, bnd (fX5_readNumber (nI lim) (up2 sg 5 5 (nI (p + 1)))) (fun (r13 : Int32) (s14 : Hp) => (bnd (fX5_readPace s14) (fun (r15 : Int32) (s16 : Hp) => (bnd (if kd = 1 then fX1_fillBucket r13 r15 28 s16 else fX1_fillLate r13 r15 28 s16) (fun (_ : Unit) (s18 : Hp) => some ((), (up2 s18 5 3 (nI kd)))))))) = some ((), d) ∧ kpI sg d ∧ itR d (twoT f n lim kd p) := by
  have fin : ∀ (a : Nat) (r : Int32) (s : Hp), a ≤ 9999 → (bnd (if kd = 1 then fX1_fillBucket (nI a) r 28 s else fX1_fillLate (nI a) r 28 s) (fun (_ : Unit) (s18 : Hp) => some ((), (up2 s18 5 3 (nI kd))))) = some ((), up2 (fil s 28 (if kd = 1 then sBucket (nI a) r else sLate a r) 41) 5 3 (nI kd)) := by
    intro a r s ha
    by_cases e : kd = 1
    · rw [if_pos e, if_pos e, fillBucket_ok a28, bnd_s]
    · rw [if_neg e, if_neg e, fillLate_ok (by omega) a28, bnd_s]
  have h1 := tx_up h (show p + 1 ≤ 200 by omega)
  have hn60 := h.1
  unfold twoT
  cases e : numT f n lim (p + 1) with
  | none =>
    obtain ⟨a, q, ha, e1⟩ := numC_n h1 (by omega) hl e
    refine ⟨_, by rw [e1, bnd_s, paceC_w (by rw [up2_s]; exact wr (by omega)), bnd_s, fin a _ _ ha], ?_, ?_⟩
    · intro b j hb
      rw [up2_o (by omega), fil_out (by omega), up2_o (by omega), up2_o (by omega), up2_o (by omega)]
    · show up2 _ 5 3 _ 5 7 = nI (p + 1)
      rw [up2_o (by omega), fil_out (by omega), up2_s]
  | some w =>
    obtain ⟨a, q⟩ := w
    obtain ⟨s1, s2, -⟩ := num_some e
    have hq := num_q e
    have e1 := numC_y h1 (by omega) hl e
    have h2 : tx (up2 sg 5 5 (nI q)) f n q := tx_up h (by omega)
    have hw2 : up2 sg 5 5 (nI q) 5 7 = -1 := by rw [up2_o (by omega)]; exact hw
    simp only
    by_cases e2 : cdAt f n q = 114
    · rw [if_pos e2]
      cases e3 : numT f n 999 (q + 1) with
      | none =>
        obtain ⟨r, d, d1, d2, d3⟩ := paceC_n h2 (by omega) hw2 e2 e3
        refine ⟨_, by rw [e1, bnd_s, up2_tw, d1, bnd_s, fin a _ _ (by omega)], ?_, ?_⟩
        · intro b j hb
          rw [up2_o (by omega), fil_out (by omega), d2 b j (by omega), up2_o (by omega)]
        · show up2 _ 5 3 _ 5 7 = nI (q + 1)
          rw [up2_o (by omega), fil_out (by omega)]
          exact d3
      | some w =>
        obtain ⟨r, q2⟩ := w
        have d1 := paceC_y h2 (by omega) hw2 e2 e3
        refine ⟨_, by rw [e1, bnd_s, up2_tw, d1, bnd_s, fin a _ _ (by omega)], ?_, ?_, ?_, ?_, ?_⟩
        · intro b j hb
          rw [up2_o (by omega), fil_out (by omega), up2_o (by omega), up2_o (by omega)]
        · rw [up2_o (by omega), fil_out (by omega), up2_o (by omega)]
          exact hw2
        · rw [up2_o (by omega), fil_out (by omega), up2_s]
        · rw [up2_s]
        · intro t ht
          rw [up2_o (by omega), fil_in ht]
          rfl
    · rw [if_neg e2]
      refine ⟨_, by rw [e1, bnd_s, up2_tw, paceC_o h2 hw2 e2, bnd_s, fin a _ _ (by omega)], ?_, ?_⟩
      · intro b j hb
        rw [up2_o (by omega), fil_out (by omega), up2_o (by omega), up2_o (by omega)]
      · show up2 _ 5 3 _ 5 7 = nI q
        rw [up2_o (by omega), fil_out (by omega), up2_s]
theorem itemC (h : tx sg f n p) (hp : p ≤ 100) (hw : sg 5 7 = -1) : ∃ d, fX5_readItem sg = some ((), d) ∧ kpI sg d ∧ itR d (itmT f n p) := by
  have hn60 := h.1
  have c98 : ¬ (114 : Int32) = 98 := by decide
  have c108 : ¬ (114 : Int32) = 108 := by decide
  have c2 : ¬ (108 : Int32) = 98 := by decide
  have c3 : ¬ (98 : Int32) = 114 := by decide
  have c4 : ¬ (108 : Int32) = 114 := by decide
  unfold itmT
  by_cases e1 : cdAt f n p = 114
  · rw [if_pos e1]
    have pre : ∀ (r : Nat) (d : Hp), fX5_readPace sg = some (nI r, d) → fX5_readItem sg = some ((), up2 (fil d 28 (sLate 0 (nI r)) 41) 5 3 0) := fun r d hd => by
      unfold fX5_readItem B_X5_readItem_118
      rw [if_pos hw, code_ok h, bnd_s, e1, if_neg c98, if_neg c108, hd, bnd_s, show (0 : Int32) = nI 0 from rfl, fillLate_ok (by omega) a28, bnd_s]
    cases e3 : numT f n 999 (p + 1) with
    | none =>
      obtain ⟨r, d, d1, d2, d3⟩ := paceC_n h (by omega) hw e1 e3
      refine ⟨_, pre r d d1, ?_, ?_⟩
      · intro b j hb
        rw [up2_o (by omega), fil_out (by omega), d2 b j (by omega)]
      · show up2 _ 5 3 _ 5 7 = nI (p + 1)
        rw [up2_o (by omega), fil_out (by omega)]
        exact d3
    | some w =>
      obtain ⟨r, q2⟩ := w
      have d1 := paceC_y h (by omega) hw e1 e3
      refine ⟨_, pre r _ d1, ?_, ?_, ?_, ?_, ?_⟩
      · intro b j hb
        rw [up2_o (by omega), fil_out (by omega), up2_o (by omega)]
      · rw [up2_o (by omega), fil_out (by omega), up2_o (by omega)]
        exact hw
      · rw [up2_o (by omega), fil_out (by omega), up2_s]
      · rw [up2_s]
        rfl
      · intro t ht
        rw [up2_o (by omega), fil_in ht]
        rfl
  · rw [if_neg e1]
    by_cases e2 : cdAt f n p = 98
    · rw [if_pos e2]
      obtain ⟨d, d1, d2⟩ := twoC (lim := 9999) (kd := 1) h hp (by omega) (Or.inl rfl) hw
      refine ⟨d, ?_, d2⟩
      unfold fX5_readItem B_X5_readItem_118
      rw [if_pos hw, code_ok h, bnd_s, if_pos e2, h.2.2.1, nI_1, show (9999 : Int32) = nI 9999 from rfl]
      exact d1
    · rw [if_neg e2]
      by_cases e3 : cdAt f n p = 108
      · rw [if_pos e3]
        obtain ⟨d, d1, d2⟩ := twoC (lim := 40) (kd := 2) h hp (by omega) (Or.inr rfl) hw
        refine ⟨d, ?_, d2⟩
        unfold fX5_readItem B_X5_readItem_118
        rw [if_pos hw, code_ok h, bnd_s, if_neg e2, if_pos e3, h.2.2.1, nI_1, i40]
        exact d1
      · rw [if_neg e3]
        refine ⟨up2 (fil (up2 sg 5 7 (nI p)) 28 (sLate 0 0) 41) 5 3 0, ?_, ?_, ?_⟩
        · unfold fX5_readItem B_X5_readItem_118
          rw [if_pos hw, code_ok h, bnd_s, if_neg e2, if_neg e3, paceC_o h hw e1, bnd_s, show fX1_fillLate 0 0 28 (up2 sg 5 7 (nI p)) = some ((), fil (up2 sg 5 7 (nI p)) 28 (sLate 0 0) 41) from fillLate_ok (l := 0) (by omega) a28, bnd_s]
        · intro b j hb
          rw [up2_o (by omega), fil_out (by omega), up2_o (by omega)]
        · show up2 _ 5 3 _ 5 7 = nI p
          rw [up2_o (by omega), fil_out (by omega), up2_s]
theorem itemC_w (hw : ¬ sg 5 7 = -1) : fX5_readItem sg = some ((), sg) := by
  unfold fX5_readItem
  rw [if_neg hw]
theorem joinC_w (hw : ¬ sg 5 7 = -1) : fX5_joinItem sg = some ((), sg) := by
  unfold fX5_joinItem
  rw [if_neg hw]
theorem joinC_y {s : Int32} (hw : sg 5 7 = -1) (hs : sg 5 6 = s) : fX5_joinItem sg = some ((), up2 (fil sg 29 (if s = 38 then sLeast (sg 29) (sg 28) else sSum (sg 29) (sg 28)) 41) 5 3 0) := by
  unfold fX5_joinItem B_X5_joinItem_51
  rw [if_pos hw, hs]
  by_cases e : s = 38
  · rw [if_pos e, if_pos e, fillLeast_ok a29 a28 a29, bnd_s]
  · rw [if_neg e, if_neg e, fillSum_ok a29 a28 a29, bnd_s]
def endC (s14 : Hp) : Option (Int32 × Hp) := (bnd (fX5_goesOn s14) (fun (r15 : Int32) (s16 : Hp) => (if r15 = 0 then B_X5_read_94  s16 else B_X5_read_94  (up2 s16 5 7 (s16 5 5)))))
theorem goes_w (hw : ¬ sg 5 7 = -1) : fX5_goesOn sg = some (0, sg) := by
  unfold fX5_goesOn B_X5_goesOn_23 B_X5_goesOn_24
  rw [if_neg hw]
  rfl
theorem goes_y (h : tx sg f n p) (hw : sg 5 7 = -1) : fX5_goesOn sg = some (if n ≤ p then 0 else 1, sg) := by
  obtain ⟨h1, h2, h3, h4, h5⟩ := h
  unfold fX5_goesOn B_X5_goesOn_23 B_X5_goesOn_24
  rw [if_pos hw, h2, h3]
  by_cases e : n ≤ p
  · rw [if_pos (by rw [leN (by omega) (by omega)]; exact e), if_pos e]; rfl
  · rw [if_neg (by rw [leN (by omega) (by omega)]; exact e), if_neg e]; rfl
theorem badC {F k q : Nat} (hF : 1 ≤ F) (hq : q ≤ 1000) (hw : sg 5 7 = nI q) : L_X5_read_48 endC F (nI k) sg = some (nI q, sg) := by
  obtain ⟨F, rfl⟩ : ∃ w, F = w + 1 := ⟨F - 1, by omega⟩
  have g := goes_w (sg := sg) (by rw [hw]; exact wr hq)
  have e : endC sg = some (nI q, sg) := by
    unfold endC B_X5_read_94
    rw [g, bnd_s, if_pos rfl, hw]
  rw [L_X5_read_48]
  by_cases h6 : (6 : Int32) ≤ nI k
  · rw [if_pos h6, e]
  · rw [if_neg h6, g, bnd_s, if_pos rfl, e]
theorem signC {s : Int32} (h : tx sg f n p) (hp : p < n) (hs : sg 5 6 = s) : fX5_readSign sg = some ((), if (f p = 38 ∨ f p = 43) ∧ (s = 0 ∨ f p = s) then up2 (up2 sg 5 6 (f p)) 5 5 (nI (p + 1)) else up2 sg 5 7 (nI p)) := by
  have e55 : up2 sg 5 6 (f p) 5 5 + 1 = nI (p + 1) := by rw [up2_o (by omega), h.2.2.1, nI_1]
  unfold fX5_readSign B_X5_readSign_17
  rw [code_ok h, bnd_s, cd_in hp]
  have key : B_X5_readSign_22 (f p) 1 sg = some ((), if s = 0 ∨ f p = s then up2 (up2 sg 5 6 (f p)) 5 5 (nI (p + 1)) else up2 sg 5 7 (nI p)) := by
    unfold B_X5_readSign_22 B_X5_readSign_60 B_X5_readSign_42 B_X5_readSign_68
    rw [if_neg ne10, hs, e55, h.2.2.1]
    by_cases q0 : s = 0
    · rw [if_pos q0, if_pos (Or.inl q0)]
    · rw [if_neg q0]
      by_cases q1 : s = f p
      · rw [if_pos q1, if_pos (Or.inr q1.symm)]
      · rw [if_neg q1, if_neg (fun w => w.elim q0 (fun w => q1 w.symm))]
  by_cases e1 : f p = 38
  · rw [if_pos e1, key]
    by_cases q2 : s = 0 ∨ f p = s
    · rw [if_pos q2, if_pos ⟨Or.inl e1, q2⟩]
    · rw [if_neg q2, if_neg (fun w => q2 w.2)]
  · rw [if_neg e1]
    by_cases e2 : f p = 43
    · rw [if_pos e2, key]
      by_cases q2 : s = 0 ∨ f p = s
      · rw [if_pos q2, if_pos ⟨Or.inr e2, q2⟩]
      · rw [if_neg q2, if_neg (fun w => q2 w.2)]
    · rw [if_neg e2, if_neg (fun w => w.1.elim e1 e2)]
      unfold B_X5_readSign_22 B_X5_readSign_60 B_X5_readSign_68
      rw [if_pos rfl, h.2.2.1]
def rdR (d : Hp) (res : Int32) (w : Sum Nat (Nat × Int32 × (Nat → Nat × Nat × Nat))) : Prop := match w with
  | .inl q => res = nI q ∧ q ≤ 1000
  | .inr t => res = -1 ∧ req (d 29) (tRow t.2.1 t.2.2 (t.1 - 1)) ∧ d 5 3 = nI (if t.1 = 1 then (t.2.2 0).1 else 0)
theorem itm_q {f : Nat → Int32} {n p q : Nat} (hn : n ≤ 60) (hp : p ≤ 100) (h : itmT f n p = .inl q) : q ≤ 200 := by
  have two : ∀ lim kd, twoT f n lim kd p = .inl q → q ≤ 200 := by
    intro lim kd h
    unfold twoT at h
    cases e : numT f n lim (p + 1) with
    | none => rw [e] at h; cases h; omega
    | some w =>
      obtain ⟨a, q'⟩ := w
      have := num_q e
      rw [e] at h
      simp only at h
      by_cases e2 : cdAt f n q' = 114
      · rw [if_pos e2] at h
        cases e3 : numT f n 999 (q' + 1) with
        | none => rw [e3] at h; cases h; omega
        | some w => rw [e3] at h; cases h
      · rw [if_neg e2] at h; cases h; omega
  unfold itmT at h
  by_cases e1 : cdAt f n p = 114
  · rw [if_pos e1] at h
    cases e3 : numT f n 999 (p + 1) with
    | none => rw [e3] at h; cases h; omega
    | some w => rw [e3] at h; cases h
  · rw [if_neg e1] at h
    by_cases e2 : cdAt f n p = 98
    · rw [if_pos e2] at h; exact two _ _ h
    · rw [if_neg e2] at h
      by_cases e3 : cdAt f n p = 108
      · rw [if_pos e3] at h; exact two _ _ h
      · rw [if_neg e3] at h; cases h; omega
theorem loopC : ∀ (j k p F : Nat) (s : Int32) (I : Nat → Nat × Nat × Nat) (sg : Hp), j + k = 6 → 1 ≤ k → j + 1 < F → tx sg f n p → p ≤ 60 → sg 5 7 = -1 → sg 5 6 = s → (s = 0 → k = 1) → req (sg 29) (tRow s I (k - 1)) → sg 5 3 = nI (if k = 1 then (I 0).1 else 0) → ∃ res d, L_X5_read_48 endC F (nI k) sg = some (res, d) ∧ kpL sg d ∧ rdR d res (prsT f n j k s I p) := by
  intro j
  induction j with
  | zero =>
    intro k p F s I sg h1 h2 h3 h4 h5 h6 h7 h8 h9 h10
    obtain ⟨F, rfl⟩ : ∃ w, F = w + 1 := ⟨F - 1, by omega⟩
    have e : L_X5_read_48 endC (F + 1) (nI k) sg = endC sg := by
      rw [L_X5_read_48, if_pos (by rw [i6, leN (by omega) (by omega)]; omega)]
    rw [e]
    unfold prsT endC B_X5_read_94
    rw [goes_y h4 h6, bnd_s]
    by_cases en : n ≤ p
    · refine ⟨-1, sg, ?_, fun _ _ _ => rfl, ?_⟩
      · rw [if_pos en, if_pos rfl, h6]
      · rw [if_pos en]
        exact ⟨rfl, h9, h10⟩
    · refine ⟨nI p, up2 sg 5 7 (nI p), ?_, fun b i hb => up2_o (by omega), ?_⟩
      · rw [if_neg en, if_neg ne10, h4.2.2.1, up2_s]
      · rw [if_neg en]
        exact ⟨rfl, by omega⟩
  | succ j ih =>
    intro k p F s I sg h1 h2 h3 h4 h5 h6 h7 h8 h9 h10
    obtain ⟨F, rfl⟩ : ∃ w, F = w + 1 := ⟨F - 1, by omega⟩
    have hn60 := h4.1
    rw [L_X5_read_48, if_neg (by rw [i6, leN (by omega) (by omega)]; omega), goes_y h4 h6, bnd_s]
    unfold prsT
    by_cases en : n ≤ p
    · refine ⟨-1, sg, ?_, fun _ _ _ => rfl, ?_⟩
      · rw [if_pos en, if_pos rfl]
        unfold endC B_X5_read_94
        rw [goes_y h4 h6, bnd_s, if_pos en, if_pos rfl, h6]
      · rw [if_pos en]
        exact ⟨rfl, h9, h10⟩
    · rw [if_neg en, if_neg ne10, signC h4 (by omega) h7, bnd_s, if_neg en]
      by_cases hg : (f p = 38 ∨ f p = 43) ∧ (s = 0 ∨ f p = s)
      · rw [if_pos hg, if_pos hg]
        have t1 : tx (up2 (up2 sg 5 6 (f p)) 5 5 (nI (p + 1))) f n (p + 1) := by
          obtain ⟨q1, q2, q3, q4, q5⟩ := h4
          exact ⟨q1, by rw [up2_o (by omega), up2_o (by omega)]; exact q2, up2_s, by omega, fun i hi => by rw [up2_o (by omega), up2_o (by omega)]; exact q5 i hi⟩
        obtain ⟨d, d1, d2, d3⟩ := itemC t1 (by omega) (by rw [up2_o (by omega), up2_o (by omega)]; exact h6)
        rw [d1, bnd_s]
        cases e : itmT f n (p + 1) with
        | inl q =>
          rw [e] at d3
          have hq := itm_q hn60 (by omega) e
          have d3 : d 5 7 = nI q := d3
          rw [joinC_w (by rw [d3]; exact wr (by omega)), bnd_s, nI_1, badC (by omega) (by omega) d3]
          refine ⟨_, _, rfl, ?_, rfl, by omega⟩
          intro b i hb
          rw [d2 b i (by omega), up2_o (by omega), up2_o (by omega)]
        | inr t =>
          obtain ⟨kd, a, r, q⟩ := t
          rw [e] at d3
          obtain ⟨w1, w2, w3, w4⟩ := d3
          have hq := (itm_ok e).2
          have d6 : d 5 6 = f p := by rw [d2 5 6 (by omega), up2_o (by omega), up2_s]
          rw [joinC_y w1 d6, bnd_s, nI_1]
          have fp0 : ¬ f p = 0 := by
            rcases hg.1 with w | w
            · rw [w]; decide
            · rw [w]; decide
          obtain ⟨res, d', r1, r2, r3⟩ := ih (k + 1) q F (f p) (fun i => if i = k then (kd, a, r) else I i) (up2 (fil d 29 (if f p = 38 then sLeast (d 29) (d 28) else sSum (d 29) (d 28)) 41) 5 3 0) (by omega) (by omega) (by omega) (by
              obtain ⟨q1, q2, q3, q4, q5⟩ := t1
              refine ⟨q1, ?_, ?_, by omega, fun i hi => ?_⟩
              · rw [up2_o (by omega), fil_out (by omega), d2 5 4 (by omega)]; exact q2
              · rw [up2_o (by omega), fil_out (by omega)]; exact w2
              · rw [up2_o (by omega), fil_out (by omega), d2 27 i (by omega)]; exact q5 i hi) (by omega) (by rw [up2_o (by omega), fil_out (by omega)]; exact w1) (by rw [up2_o (by omega), fil_out (by omega)]; exact d6) (fun w => absurd w fp0) (by
              obtain ⟨k, rfl⟩ : ∃ w, k = w + 1 := ⟨k - 1, by omega⟩
              have q29 : req (d 29) (tRow (f p) (fun i => if i = k + 1 then (kd, a, r) else I i) k) := fun t ht => by
                rw [d2 29 t (by omega), up2_o (by omega), up2_o (by omega), h9 t ht, Nat.add_sub_cancel]
                have eI : tRow (f p) (fun i => if i = k + 1 then (kd, a, r) else I i) k = tRow (f p) I k := tRow_cong (fun i hi => by rw [if_neg (by omega)])
                rw [eI]
                rcases hg.2 with w | w
                · have : k = 0 := by have := h8 w; omega
                  subst this
                  rfl
                · rw [w]
              have q28 : req (d 28) (iRow ((fun i => if i = k + 1 then (kd, a, r) else I i) (k + 1))) := fun t ht => by
                show d 28 t = iRow (if k + 1 = k + 1 then (kd, a, r) else I (k + 1)) t
                rw [if_pos rfl]
                exact w4 t ht
              intro t ht
              rw [up2_o (by omega), fil_in ht, Nat.add_sub_cancel]
              show _ = (if f p = 38 then sLeast (tRow (f p) (fun i => if i = k + 1 then (kd, a, r) else I i) k) (iRow ((fun i => if i = k + 1 then (kd, a, r) else I i) (k + 1))) else sSum (tRow (f p) (fun i => if i = k + 1 then (kd, a, r) else I i) k) (iRow ((fun i => if i = k + 1 then (kd, a, r) else I i) (k + 1)))) t
              by_cases e38 : f p = 38
              · rw [if_pos e38, if_pos e38]
                exact sLeast_cong q29 q28 t ht
              · rw [if_neg e38, if_neg e38]
                exact sSum_cong q29 q28 t ht) (by rw [up2_s, if_neg (by omega)]; rfl)
          refine ⟨res, d', r1, ?_, r3⟩
          intro b i hb
          rw [r2 b i hb, up2_o (by omega), fil_out (by omega), d2 b i (by omega), up2_o (by omega), up2_o (by omega)]
      · rw [if_neg hg, if_neg hg]
        have w7 : up2 sg 5 7 (nI p) 5 7 = nI p := up2_s
        rw [itemC_w (by rw [w7]; exact wr (by omega)), bnd_s, joinC_w (by rw [w7]; exact wr (by omega)), bnd_s, nI_1, badC (by omega) (by omega) w7]
        exact ⟨_, _, rfl, fun b i hb => up2_o (by omega), rfl, by omega⟩
theorem readC (hn : n ≤ 60) (hf : ∀ i, i < n → sg 6 i = f i) : ∃ res d, fX5_read 6 (nI n) sg = some (res, d) ∧ eqC sg d ∧ d 0 7 = sg 0 7 ∧ d 0 8 = sg 0 8 ∧ rdR d res (redT f n) := by
  have hcp : cpok tC 6 0 27 0 (nI n) = true := by
    unfold cpok
    rw [isA_41 a6 (by omega), isA_41 a27 (by omega), a6, a27, cl0, nI_clamp (by omega)]
    simp only [Bool.and_eq_true, decide_eq_true_eq]
    exact ⟨⟨⟨⟨⟨⟨trivial, trivial⟩, by decide⟩, by decide⟩, nneg (by omega)⟩, by omega⟩, by omega⟩
  have k27 : ∀ b j, b ≠ 27 → cpy sg 6 0 27 0 (nI n) b j = sg b j := fun b j hb => by
    unfold cpy upC
    rw [if_neg hb]
  have v27 : ∀ i, i < n → cpy sg 6 0 27 0 (nI n) 27 i = f i := fun i hi => by
    unfold cpy upC va_cpy
    rw [if_pos rfl, cl0, nI_clamp (by omega), if_pos (by omega), Nat.zero_add, Nat.sub_zero]
    exact hf i hi
  generalize hs : up2 (up2 (up2 (up2 (cpy sg 6 0 27 0 (nI n)) 5 4 (nI n)) 5 5 0) 5 6 0) 5 7 (-1) = s0
  have ks : ∀ b j, b ≠ 27 → b ≠ 5 → s0 b j = sg b j := fun b j h1 h2 => by
    rw [← hs, up2_o (by omega), up2_o (by omega), up2_o (by omega), up2_o (by omega), k27 b j h1]
  have t0 : tx s0 f n 0 := by
    refine ⟨hn, ?_, ?_, by omega, fun i hi => ?_⟩
    · rw [← hs, up2_o (by omega), up2_o (by omega), up2_o (by omega), up2_s]
    · rw [← hs, up2_o (by omega), up2_o (by omega), up2_s]; rfl
    · rw [← hs, up2_o (by omega), up2_o (by omega), up2_o (by omega), up2_o (by omega), v27 i hi]
  have s7 : s0 5 7 = -1 := by rw [← hs, up2_s]
  have s6 : s0 5 6 = 0 := by rw [← hs, up2_o (by omega), up2_s]
  obtain ⟨d, d1, d2, d3⟩ := itemC t0 (by omega) s7
  have pre : fX5_read 6 (nI n) sg = L_X5_read_48 endC 200 1 (fil d 29 (d 28) 41) := by
    unfold fX5_read
    rw [gd_t hcp, hs, d1, bnd_s, fillSame_ok a28 a29, bnd_s]
    rfl
  rw [pre]
  unfold redT
  cases e : itmT f n 0 with
  | inl q =>
    rw [e] at d3
    have d3 : d 5 7 = nI q := d3
    have hq := itm_q hn (by omega) e
    rw [i1, badC (q := q) (by omega) (by omega) (by rw [fil_out (by omega)]; exact d3)]
    refine ⟨_, _, rfl, ?_, ?_, ?_, rfl, by omega⟩
    · intro b j hb
      unfold sC at hb
      rw [fil_out (by omega), d2 b j (by omega), ks b j (by omega) (by omega)]
    · rw [fil_out (by omega), d2 0 7 (by omega), ks 0 7 (by omega) (by omega)]
    · rw [fil_out (by omega), d2 0 8 (by omega), ks 0 8 (by omega) (by omega)]
  | inr t =>
    obtain ⟨kd, a, r, q⟩ := t
    rw [e] at d3
    obtain ⟨w1, w2, w3, w4⟩ := d3
    have hq := (itm_ok e).2
    obtain ⟨res, d', r1, r2, r3⟩ := loopC (f := f) (n := n) 5 1 q 200 0 (fun _ => (kd, a, r)) (fil d 29 (d 28) 41) (by omega) (by omega) (by omega) (by
        obtain ⟨q1, q2, q3, q4, q5⟩ := t0
        refine ⟨q1, ?_, ?_, by omega, fun i hi => ?_⟩
        · rw [fil_out (by omega), d2 5 4 (by omega)]; exact q2
        · rw [fil_out (by omega)]; exact w2
        · rw [fil_out (by omega), d2 27 i (by omega)]; exact q5 i hi) (by omega) (by rw [fil_out (by omega)]; exact w1) (by rw [fil_out (by omega), d2 5 6 (by omega)]; exact s6) (fun _ => rfl) (fun t ht => by rw [fil_in ht]; exact w4 t ht) (by rw [fil_out (by omega)]; exact w3)
    refine ⟨res, d', r1, ?_, ?_, ?_, r3⟩
    · intro b j hb
      unfold sC at hb
      rw [r2 b j (by omega), fil_out (by omega), d2 b j (by omega), ks b j (by omega) (by omega)]
    · rw [r2 0 7 (by omega), fil_out (by omega), d2 0 7 (by omega), ks 0 7 (by omega) (by omega)]
    · rw [r2 0 8 (by omega), fil_out (by omega), d2 0 8 (by omega), ks 0 8 (by omega) (by omega)]
end B4
