section B5
variable {sg c m : Hp} {f : Nat → Int32} {b n p q lim k : Nat}
def txM (sg : Hp) (f : Nat → Int32) (b n p : Nat) : Prop := n ≤ 60 ∧ b + n ≤ 240 ∧ sg 300 4 = nI p ∧ p ≤ 200 ∧ ∀ i, i < n → sg 322 (b + i) = f i
theorem txM_up {q : Nat} (h : txM sg f b n p) (hq : q ≤ 200) : txM (up2 sg 300 4 (nI q)) f b n q := by
  obtain ⟨h1, h2, h3, h4, h5⟩ := h
  exact ⟨h1, h2, up2_s, hq, fun i hi => by rw [up2_o (by omega)]; exact h5 i hi⟩
theorem txM_kp {d : Hp} (h : txM sg f b n p) (hq : q ≤ 200) (h1 : d 300 4 = nI q) (h2 : ∀ j, d 322 j = sg 322 j) : txM d f b n q := ⟨h.1, h.2.1, h1, hq, fun i hi => by rw [h2]; exact h.2.2.2.2 i hi⟩
theorem i48 : (48 : Int64).toInt = 48 := by decide
theorem i57 : (57 : Int64).toInt = 57 := by decide
theorem numM_in {K : Int32 → Int32 → Int32 → Hp → Option (Int32 × Hp)} {v3 : Int32} {p0 : Nat} : ∀ (j k a F : Nat) (sg : Hp), txM sg f b n (p0 + k) → j + k = 4 → j < F → p0 + 4 ≤ 200 → L_X7_readsNumber_9 K F (nI b) (nI n) v3 (nI p0) (nI a) sg = K v3 (nI p0) (nI (ndg f n j (p0 + k) a).2) (up2 sg 300 4 (nI (ndg f n j (p0 + k) a).1)) := by
  intro j
  induction j with
  | zero =>
    intro k a F sg h1 h2 h3 h4
    obtain ⟨F, rfl⟩ : ∃ w, F = w + 1 := ⟨F - 1, by omega⟩
    have hn := h1.1
    have e : K v3 (nI p0) (nI (ndg f n 0 (p0 + k) a).2) (up2 sg 300 4 (nI (ndg f n 0 (p0 + k) a).1)) = K v3 (nI p0) (nI a) sg := by
      show K v3 (nI p0) (nI a) (up2 sg 300 4 (nI (p0 + k))) = _
      rw [up2_same h1.2.2.1]
    rw [e, L_X7_readsNumber_9, h1.2.2.1]
    by_cases en : n ≤ p0 + k
    · rw [if_pos (by rw [leN (by omega) (by omega)]; exact en)]
    · rw [if_neg (by rw [leN (by omega) (by omega)]; exact en), i4, nI_add, if_pos (by rw [leN (by omega) (by omega)]; omega)]
  | succ j ih =>
    intro k a F sg h1 h2 h3 h4
    obtain ⟨F, rfl⟩ : ∃ w, F = w + 1 := ⟨F - 1, by omega⟩
    have hn := h1.1
    have hbn := h1.2.1
    rw [L_X7_readsNumber_9, h1.2.2.1]
    unfold ndg
    by_cases en : n ≤ p0 + k
    · rw [if_pos (by rw [leN (by omega) (by omega)]; exact en), if_neg (fun h => by have := dg_lt h; omega), up2_same h1.2.2.1]
    · rw [if_neg (by rw [leN (by omega) (by omega)]; exact en), i4, nI_add, if_neg (by rw [leN (by omega) (by omega)]; omega), nI_add, gd_t (inbN (by omega) (by omega)), nI_clamp (by omega), h1.2.2.2.2 (p0 + k) (by omega), cd_in (show p0 + k < n by omega)]
      by_cases e : isDg (f (p0 + k))
      · have hd := h1.2.2.2.2 (p0 + k) (by omega)
        rw [in_y (by rw [i48, i57]; exact e), bnd_s, if_neg ne10, h1.2.2.1, nI_add, gd_t (inbN (by omega) (by omega)), nI_clamp (by omega), hd, dg_step e, if_pos e, nI_1]
        have := ih (k + 1) (10 * a + (f (p0 + k)).toNatClampNeg - 48) F (up2 sg 300 4 (nI (p0 + k + 1))) (txM_up h1 (by omega)) (by omega) (by omega) h4
        rw [show p0 + (k + 1) = p0 + k + 1 by omega] at this
        rw [this, up2_tw]
      · rw [in_n (by rw [i48, i57]; exact e), bnd_s, if_pos rfl, if_neg e, up2_same h1.2.2.1]
theorem numM_y {a : Nat} (h : txM sg f b n p) (hp : p ≤ 190) (hl : lim ≤ 9999) (hn : numT f n lim p = some (a, q)) : fX7_readsNumber (nI b) (nI n) (nI lim) sg = some (1, up2 (up2 sg 300 4 (nI q)) 300 10 (nI a)) := by
  obtain ⟨h1, h2, h3⟩ := num_some hn
  have hq := num_q hn
  have hn60 := h.1
  have key := numM_in (f := f) (b := b) (n := n) (p0 := p) (v3 := nI lim) (K := (fun (w3_3 : Int32) (w3_4 : Int32) (w3_5 : Int32) (s4 : Hp) => (if w3_5 ≤ w3_3 then B_X7_readsNumber_105  w3_4 (up2 s4 300 10 w3_5) else B_X7_readsNumber_105  w3_4 (up2 (up2 s4 300 10 w3_5) 300 4 w3_4)))) 4 0 0 200 sg h (by omega) (by omega) (by omega)
  unfold fX7_readsNumber
  rw [h.2.2.1, show (0 : Int32) = nI 0 from rfl, key, Nat.add_zero, h3]
  show (if nI a ≤ nI lim then _ else _) = _
  rw [if_pos (by rw [leN (by omega) (by omega)]; exact h2)]
  unfold B_X7_readsNumber_105 B_X7_readsNumber_119
  rw [if_neg (by
    rw [up2_o (by omega), up2_s, leN (by omega) (by omega)]
    omega)]
  rfl
theorem numM_n (h : txM sg f b n p) (hp : p ≤ 190) (hl : lim ≤ 9999) (hn : numT f n lim p = none) : ∃ d, fX7_readsNumber (nI b) (nI n) (nI lim) sg = some (0, d) ∧ (∀ x j, ¬ (x = 300 ∧ (j = 4 ∨ j = 10)) → d x j = sg x j) ∧ d 300 4 = nI p := by
  have hb := ndg_b (f := f) (n := n) (j := 4) (p := p) (a := 0)
  have key := numM_in (f := f) (b := b) (n := n) (p0 := p) (v3 := nI lim) (K := (fun (w3_3 : Int32) (w3_4 : Int32) (w3_5 : Int32) (s4 : Hp) => (if w3_5 ≤ w3_3 then B_X7_readsNumber_105  w3_4 (up2 s4 300 10 w3_5) else B_X7_readsNumber_105  w3_4 (up2 (up2 s4 300 10 w3_5) 300 4 w3_4)))) 4 0 0 200 sg h (by omega) (by omega) (by omega)
  rw [Nat.add_zero] at key
  unfold fX7_readsNumber
  rw [h.2.2.1, show (0 : Int32) = nI 0 from rfl, key]
  by_cases e : (ndg f n 4 p 0).2 ≤ lim
  · have e2 : (ndg f n 4 p 0).1 = p := by
      unfold numT at hn
      by_cases e3 : p < (ndg f n 4 p 0).1
      · rw [if_pos ⟨e3, e⟩] at hn; cases hn
      · omega
    refine ⟨up2 (up2 sg 300 4 (nI (ndg f n 4 p 0).1)) 300 10 (nI (ndg f n 4 p 0).2), ?_, fun x j hx => ?_, ?_⟩
    · show (if nI (ndg f n 4 p 0).2 ≤ nI lim then _ else _) = _
      rw [if_pos (by rw [leN (by omega) (by omega)]; exact e)]
      unfold B_X7_readsNumber_105 B_X7_readsNumber_119
      rw [if_pos (by
        rw [up2_o (by omega), up2_s, leN (by omega) (by omega)]
        omega)]
      rfl
    · rw [up2_o (by omega), up2_o (by omega)]
    · rw [up2_o (by omega), up2_s, e2]
  · refine ⟨up2 (up2 (up2 sg 300 4 (nI (ndg f n 4 p 0).1)) 300 10 (nI (ndg f n 4 p 0).2)) 300 4 (nI p), ?_, fun x j hx => ?_, up2_s⟩
    · show (if nI (ndg f n 4 p 0).2 ≤ nI lim then _ else _) = _
      rw [if_neg (by rw [leN (by omega) (by omega)]; exact e)]
      unfold B_X7_readsNumber_105 B_X7_readsNumber_119
      rw [if_pos (by
        rw [up2_s, leN (by omega) (by omega)]
        omega)]
      rfl
    · rw [up2_o (by omega), up2_o (by omega), up2_o (by omega)]
def kpM (k : Nat) (sg d : Hp) : Prop := ∀ x j, ¬ ((x = 300 ∧ (j = 4 ∨ j = 5 ∨ j = 10)) ∨ ((x = 307 ∨ x = 308 ∨ x = 309) ∧ j = k)) → d x j = sg x j
def imR (k : Nat) (d : Hp) (r : Int32) (w : Sum Nat (Nat × Nat × Nat × Nat)) : Prop := match w with
  | .inl q => r = 0 ∧ d 300 4 = nI q
  | .inr t => r = 1 ∧ d 300 4 = nI t.2.2.2 ∧ d 300 5 = nI (k + 1) ∧ d 307 k = nI t.1 ∧ d 309 k = nI t.2.2.1 ∧ (t.1 ≠ 0 → d 308 k = nI t.2.1)
theorem m154_y {kd r : Nat} (h : txM sg f b n p) (hp : p ≤ 180) (hk : k < 6) (h5 : sg 300 5 = nI k) (hn : numT f n 999 p = some (r, q)) : ∃ d, B_X7_readsItem_154 (nI b) (nI n) (nI kd) sg = some (1, d) ∧ (∀ x j, ¬ ((x = 300 ∧ (j = 4 ∨ j = 5 ∨ j = 10)) ∨ ((x = 307 ∨ x = 309) ∧ j = k)) → d x j = sg x j) ∧ d 300 4 = nI q ∧ d 300 5 = nI (k + 1) ∧ d 307 k = nI kd ∧ d 309 k = nI r := by
  have h1 : txM (up2 sg 307 k (nI kd)) f b n p := txM_kp h h.2.2.2.1 (by rw [up2_o (by omega)]; exact h.2.2.1) (fun j => up2_o (by omega))
  have e1 := numM_y h1 (by omega) (show 999 ≤ 9999 by omega) hn
  have e5 : up2 (up2 (up2 sg 307 k (nI kd)) 300 4 (nI q)) 300 10 (nI r) 300 5 = nI k := by rw [up2_o (by omega), up2_o (by omega), up2_o (by omega)]; exact h5
  have e10 : up2 (up2 (up2 sg 307 k (nI kd)) 300 4 (nI q)) 300 10 (nI r) 300 10 = nI r := up2_s
  refine ⟨up2 (up2 (up2 (up2 (up2 sg 307 k (nI kd)) 300 4 (nI q)) 300 10 (nI r)) 309 k (nI r)) 300 5 (nI (k + 1)), ?_, fun x j hx => ?_, ?_, up2_s, ?_, ?_⟩
  · unfold B_X7_readsItem_154 B_X7_readsItem_204
    rw [h5, gd_t (inbN hk (by omega)), nI_clamp (by omega), show (999 : Int32) = nI 999 from rfl, e1, bnd_s, e5, gd_t (inbN hk (by omega)), if_neg ne10, e10, nI_clamp (by omega)]
    have e55 : up2 (up2 (up2 (up2 sg 307 k (nI kd)) 300 4 (nI q)) 300 10 (nI r)) 309 k (nI r) 300 5 = nI k := by rw [up2_o (by omega)]; exact e5
    rw [e55, nI_1]
    rfl
  · rw [up2_o (by omega), up2_o (by omega), up2_o (by omega), up2_o (by omega), up2_o (by omega)]
  · rw [up2_o (by omega), up2_o (by omega), up2_o (by omega), up2_s]
  · rw [up2_o (by omega), up2_o (by omega), up2_o (by omega), up2_o (by omega), up2_s]
  · rw [up2_o (by omega), up2_s]
theorem m154_n {kd : Nat} (h : txM sg f b n p) (hp : p ≤ 180) (hk : k < 6) (h5 : sg 300 5 = nI k) (hn : numT f n 999 p = none) : ∃ d, B_X7_readsItem_154 (nI b) (nI n) (nI kd) sg = some (0, d) ∧ (∀ x j, ¬ ((x = 300 ∧ (j = 4 ∨ j = 5 ∨ j = 10)) ∨ ((x = 307 ∨ x = 309) ∧ j = k)) → d x j = sg x j) ∧ d 300 4 = nI p := by
  have h1 : txM (up2 sg 307 k (nI kd)) f b n p := txM_kp h h.2.2.2.1 (by rw [up2_o (by omega)]; exact h.2.2.1) (fun j => up2_o (by omega))
  obtain ⟨d, d1, d2, d3⟩ := numM_n h1 (by omega) (show 999 ≤ 9999 by omega) hn
  have e5 : d 300 5 = nI k := by rw [d2 300 5 (by omega), up2_o (by omega)]; exact h5
  refine ⟨up2 (up2 d 309 k (d 300 10)) 300 5 (nI k + 0), ?_, fun x j hx => ?_, ?_⟩
  · unfold B_X7_readsItem_154 B_X7_readsItem_204
    rw [h5, gd_t (inbN hk (by omega)), nI_clamp (by omega), show (999 : Int32) = nI 999 from rfl, d1, bnd_s, e5, gd_t (inbN hk (by omega)), if_pos rfl, nI_clamp (by omega)]
    have e55 : up2 d 309 k (d 300 10) 300 5 = nI k := by rw [up2_o (by omega)]; exact e5
    rw [e55]
    rfl
  · rw [up2_o (by omega), up2_o (by omega), d2 x j (by omega), up2_o (by omega)]
  · rw [up2_o (by omega), up2_o (by omega)]; exact d3
theorem twoM {kd : Nat} (h : txM sg f b n (p + 1)) (hp : p ≤ 100) (hl : lim ≤ 9999) (hk : k < 6) (h5 : sg 300 5 = nI k) (h0 : kd ≠ 0) : ∃ r d, B_X7_readsItem_97 (nI b) (nI n) (nI kd) (nI lim) (nI n) (nI b) sg = some (r, d) ∧ kpM k sg d ∧ imR k d r (twoT f n lim kd p) := by
  have hn60 := h.1
  have hbn := h.2.1
  unfold twoT
  cases e : numT f n lim (p + 1) with
  | none =>
    obtain ⟨d, d1, d2, d3⟩ := numM_n h (by omega) hl e
    refine ⟨0, d, ?_, fun x j hx => d2 x j (by omega), rfl, d3⟩
    unfold B_X7_readsItem_97
    rw [d1, bnd_s, if_pos rfl]
  | some w =>
    obtain ⟨a, q⟩ := w
    have hq := num_q e
    have e1 := numM_y h (by omega) hl e
    have e5 : up2 (up2 sg 300 4 (nI q)) 300 10 (nI a) 300 5 = nI k := by rw [up2_o (by omega), up2_o (by omega)]; exact h5
    have e10 : up2 (up2 sg 300 4 (nI q)) 300 10 (nI a) 300 10 = nI a := up2_s
    generalize hs : up2 (up2 (up2 sg 300 4 (nI q)) 300 10 (nI a)) 308 k (nI a) = s8
    have k8 : ∀ x j, ¬ ((x = 300 ∧ (j = 4 ∨ j = 10)) ∨ (x = 308 ∧ j = k)) → s8 x j = sg x j := fun x j hx => by
      rw [← hs, up2_o (by omega), up2_o (by omega), up2_o (by omega)]
    have s4 : s8 300 4 = nI q := by rw [← hs, up2_o (by omega), up2_o (by omega), up2_s]
    have s308 : s8 308 k = nI a := by rw [← hs, up2_s]
    have t8 : txM s8 f b n q := txM_kp h (by omega) s4 (fun j => k8 322 j (by omega))
    have pre : B_X7_readsItem_97 (nI b) (nI n) (nI kd) (nI lim) (nI n) (nI b) sg = if q = n then some (0, s8) else if f q = 114 then B_X7_readsItem_154 (nI b) (nI n) (nI kd) (up2 s8 300 4 (nI (q + 1))) else some (0, s8) := by
      unfold B_X7_readsItem_97 B_X7_readsItem_142
      rw [e1, bnd_s, if_neg ne10, e5, gd_t (inbN hk (by omega)), e10, nI_clamp (by omega), hs, s4]
      by_cases eq : q = n
      · rw [if_pos (by rw [eqN (by omega) (by omega)]; exact eq), if_pos eq]
      · rw [if_neg (by rw [eqN (by omega) (by omega)]; exact eq), if_neg eq, nI_add, gd_t (inbN (by omega) (by omega)), nI_clamp (by omega), t8.2.2.2.2 q (by omega), nI_1]
    simp only
    by_cases e2 : cdAt f n q = 114
    · have hqn : q < n := by
        by_cases w : q < n
        · exact w
        · rw [cd_out (by omega)] at e2
          exact absurd e2 (by decide)
      rw [if_pos e2]
      rw [cd_in hqn] at e2
      rw [pre, if_neg (by omega), if_pos e2]
      have t9 : txM (up2 s8 300 4 (nI (q + 1))) f b n (q + 1) := txM_up t8 (by omega)
      have s95 : up2 s8 300 4 (nI (q + 1)) 300 5 = nI k := by rw [up2_o (by omega), k8 300 5 (by omega)]; exact h5
      cases e3 : numT f n 999 (q + 1) with
      | none =>
        obtain ⟨d, d1, d2, d3⟩ := m154_n (kd := kd) t9 (by omega) hk s95 e3
        refine ⟨0, d, d1, fun x j hx => ?_, rfl, d3⟩
        rw [d2 x j (by omega), up2_o (by omega), k8 x j (by omega)]
      | some w =>
        obtain ⟨r, q2⟩ := w
        obtain ⟨d, d1, d2, d3, d4, d5, d6⟩ := m154_y (kd := kd) t9 (by omega) hk s95 e3
        refine ⟨1, d, d1, fun x j hx => ?_, rfl, d3, d4, d5, d6, fun _ => ?_⟩
        · rw [d2 x j (by omega), up2_o (by omega), k8 x j (by omega)]
        · show d 308 k = nI a
          rw [d2 308 k (by omega), up2_o (by omega), s308]
    · rw [if_neg e2]
      refine ⟨0, s8, ?_, fun x j hx => k8 x j (by omega), rfl, s4⟩
      rw [pre]
      by_cases eq : q = n
      · rw [if_pos eq]
      · rw [cd_in (by omega)] at e2
        rw [if_neg eq, if_neg e2]
theorem itemM (h : txM sg f b n p) (hp : p ≤ 100) (hk : k < 6) (h5 : sg 300 5 = nI k) : ∃ r d, fX7_readsItem (nI b) (nI n) sg = some (r, d) ∧ kpM k sg d ∧ imR k d r (itmT f n p) := by
  have hn60 := h.1
  have hbn := h.2.1
  have pre : fX7_readsItem (nI b) (nI n) sg = B_X7_readsItem_23 (nI b) (nI n) (cdAt f n p) sg := by
    unfold fX7_readsItem
    rw [h.2.2.1]
    by_cases e : p < n
    · rw [if_neg (by rw [leN (by omega) (by omega)]; omega), nI_add, gd_t (inbN (by omega) (by omega)), nI_clamp (by omega), h.2.2.2.2 p e, cd_in e]
    · rw [if_pos (by rw [leN (by omega) (by omega)]; omega), cd_out (by omega)]
  have t1 : txM (up2 sg 300 4 (nI (p + 1))) f b n (p + 1) := txM_up h (by omega)
  have s5 : up2 sg 300 4 (nI (p + 1)) 300 5 = nI k := by rw [up2_o (by omega)]; exact h5
  rw [pre]
  unfold itmT B_X7_readsItem_23 B_X7_readsItem_56
  rw [h.2.2.1, nI_1]
  by_cases e1 : cdAt f n p = 114
  · rw [if_pos e1, if_pos e1, if_pos (by decide), if_pos (by decide)]
    cases e3 : numT f n 999 (p + 1) with
    | none =>
      obtain ⟨d, d1, d2, d3⟩ := m154_n (kd := 0) t1 (by omega) hk s5 e3
      refine ⟨0, d, d1, fun x j hx => ?_, rfl, d3⟩
      rw [d2 x j (by omega), up2_o (by omega)]
    | some w =>
      obtain ⟨r, q2⟩ := w
      obtain ⟨d, d1, d2, d3, d4, d5, d6⟩ := m154_y (kd := 0) t1 (by omega) hk s5 e3
      refine ⟨1, d, d1, fun x j hx => ?_, rfl, d3, d4, d5, d6, fun w => absurd rfl w⟩
      rw [d2 x j (by omega), up2_o (by omega)]
  · rw [if_neg e1, if_neg e1]
    by_cases e2 : cdAt f n p = 98
    · rw [if_pos e2, if_pos e2, if_pos (by decide), if_neg (by decide), if_pos rfl]
      obtain ⟨r, d, d1, d2, d3⟩ := twoM (lim := 9999) (kd := 1) t1 hp (by omega) hk s5 (by omega)
      exact ⟨r, d, d1, fun x j hx => by rw [d2 x j hx, up2_o (by omega)], d3⟩
    · rw [if_neg e2, if_neg e2]
      by_cases e3 : cdAt f n p = 108
      · rw [if_pos e3, if_pos e3, if_pos (by decide), if_neg (by decide), if_neg (by decide)]
        obtain ⟨r, d, d1, d2, d3⟩ := twoM (lim := 40) (kd := 2) t1 hp (by omega) hk s5 (by omega)
        exact ⟨r, d, d1, fun x j hx => by rw [d2 x j hx, up2_o (by omega)], d3⟩
      · rw [if_neg e3, if_neg e3, if_neg (by decide)]
        exact ⟨0, sg, rfl, fun _ _ _ => rfl, rfl, h.2.2.1⟩
def itA (sg : Hp) (I : Nat → Nat × Nat × Nat) (k : Nat) : Prop := ∀ i, i < k → sg 307 i = nI (I i).1 ∧ sg 309 i = nI (I i).2.2 ∧ ((I i).1 ≠ 0 → sg 308 i = nI (I i).2.1)
def kpN (sg d : Hp) : Prop := ∀ x j, ¬ ((x = 300 ∧ (j = 4 ∨ j = 5 ∨ j = 6 ∨ j = 10)) ∨ x = 307 ∨ x = 308 ∨ x = 309) → d x j = sg x j
def rmR (d : Hp) (res : Int32) (w : Sum Nat (Nat × Int32 × (Nat → Nat × Nat × Nat))) : Prop := match w with
  | .inl q => res = nI q
  | .inr t => res = -9 ∧ d 300 5 = nI t.1 ∧ d 300 6 = t.2.1 ∧ itA d t.2.2 t.1
def kE1 (s4 : Hp) : Option (Int32 × Hp) := some ((-9 : Int32), s4)
def kE2 (s6 : Hp) : Option (Int32 × Hp) := some ((s6 300 4), s6)
theorem aftM : ∀ (j k p F : Nat) (s : Int32) (I : Nat → Nat × Nat × Nat) (sg : Hp), j + k = 6 → 1 ≤ k → j < F → txM sg f b n p → p ≤ 60 → sg 300 5 = nI k → sg 300 6 = s → itA sg I k → ∃ res d, (if nI n ≤ sg 300 4 then B_X7_readStair_48 (L_X7_readStair_17 kE1 kE2 kE2 F) kE2 (nI b) (nI n) (0 : Int32) sg else B_X7_readStair_48 (L_X7_readStair_17 kE1 kE2 kE2 F) kE2 (nI b) (nI n) (1 : Int32) sg) = some (res, d) ∧ kpN sg d ∧ rmR d res (prsT f n j k s I p) := by
  intro j
  induction j with
  | zero =>
    intro k p F s I sg h1 h2 h3 h4 h5 h6 h7 h8
    obtain ⟨F, rfl⟩ : ∃ w, F = w + 1 := ⟨F - 1, by omega⟩
    have hn60 := h4.1
    have hbn := h4.2.1
    rw [h4.2.2.1]
    unfold prsT
    by_cases en : n ≤ p
    · rw [if_pos (by rw [leN (by omega) (by omega)]; exact en), if_pos en]
      refine ⟨-9, sg, ?_, fun _ _ _ => rfl, rfl, h6, h7, h8⟩
      unfold B_X7_readStair_48
      rw [if_pos rfl, L_X7_readStair_17, if_pos rfl]
      rfl
    · rw [if_neg (by rw [leN (by omega) (by omega)]; exact en), if_neg en]
      refine ⟨nI p, sg, ?_, fun _ _ _ => rfl, rfl⟩
      have e2 : kE2 sg = some (nI p, sg) := by unfold kE2; rw [h4.2.2.1]
      unfold B_X7_readStair_48 B_X7_readStair_80 B_X7_readStair_96 B_X7_readStair_109 B_X7_readStair_110
      rw [if_neg ne10, h4.2.2.1, nI_add, gd_t (inbN (by omega) (by omega)), h6, if_pos rfl, if_pos (show (6 : Int32) ≤ nI k by rw [i6, leN (by omega) (by omega)]; omega), e2, ite_self, ite_self, ite_self, ite_self]
  | succ j ih =>
    intro k p F s I sg h1 h2 h3 h4 h5 h6 h7 h8
    obtain ⟨F, rfl⟩ : ∃ w, F = w + 1 := ⟨F - 1, by omega⟩
    have hn60 := h4.1
    have hbn := h4.2.1
    rw [h4.2.2.1]
    unfold prsT
    by_cases en : n ≤ p
    · rw [if_pos (by rw [leN (by omega) (by omega)]; exact en), if_pos en]
      refine ⟨-9, sg, ?_, fun _ _ _ => rfl, rfl, h6, h7, h8⟩
      unfold B_X7_readStair_48
      rw [if_pos rfl, L_X7_readStair_17, if_pos rfl]
      rfl
    · rw [if_neg (by rw [leN (by omega) (by omega)]; exact en), if_neg en]
      have hfp := h4.2.2.2.2 p (by omega)
      have e2 : kE2 sg = some (nI p, sg) := by unfold kE2; rw [h4.2.2.1]
      have e44 : up2 sg 300 6 (f p) 300 4 + 1 = nI (p + 1) := by rw [up2_o (by omega), h4.2.2.1, nI_1]
      have pre : B_X7_readStair_48 (L_X7_readStair_17 kE1 kE2 kE2 (F + 1)) kE2 (nI b) (nI n) (1 : Int32) sg = if (f p = 38 ∨ f p = 43) ∧ (s = 0 ∨ f p = s) then L_X7_readStair_17 kE1 kE2 kE2 (F + 1) (nI b) (nI n) 1 (up2 (up2 sg 300 6 (f p)) 300 4 (nI (p + 1))) else some (nI p, sg) := by
        have k80 : B_X7_readStair_80 (L_X7_readStair_17 kE1 kE2 kE2 (F + 1)) kE2 (nI b) (nI n) 1 (f p) sg = if s = 0 ∨ f p = s then L_X7_readStair_17 kE1 kE2 kE2 (F + 1) (nI b) (nI n) 1 (up2 (up2 sg 300 6 (f p)) 300 4 (nI (p + 1))) else some (nI p, sg) := by
          unfold B_X7_readStair_80 B_X7_readStair_96 B_X7_readStair_109 B_X7_readStair_110
          rw [h7, h6, if_neg (show ¬ (6 : Int32) ≤ nI k by rw [i6, leN (by omega) (by omega)]; omega), if_neg ne10, if_pos rfl, e44, e2]
          by_cases q0 : s = 0
          · rw [if_pos q0, if_pos (Or.inl q0)]
          · rw [if_neg q0]
            by_cases q1 : f p = s
            · rw [if_pos q1, if_pos (Or.inr q1)]
            · rw [if_neg q1, if_neg (fun w => w.elim q0 q1)]
        unfold B_X7_readStair_48 B_X7_readStair_109 B_X7_readStair_110
        rw [if_neg ne10, h4.2.2.1, nI_add, gd_t (inbN (by omega) (by omega)), nI_clamp (by omega), hfp, k80, if_pos rfl, e2]
        by_cases q38 : f p = 38
        · rw [if_pos q38]
          by_cases q1 : s = 0 ∨ f p = s
          · rw [if_pos q1, if_pos ⟨Or.inl q38, q1⟩]
          · rw [if_neg q1, if_neg (fun w => q1 w.2)]
        · rw [if_neg q38]
          by_cases q43 : f p = 43
          · rw [if_pos q43]
            by_cases q1 : s = 0 ∨ f p = s
            · rw [if_pos q1, if_pos ⟨Or.inr q43, q1⟩]
            · rw [if_neg q1, if_neg (fun w => q1 w.2)]
          · rw [if_neg q43, if_neg (fun w => w.1.elim q38 q43)]
      rw [pre]
      by_cases hg : (f p = 38 ∨ f p = 43) ∧ (s = 0 ∨ f p = s)
      · rw [if_pos hg, if_pos hg]
        generalize hs : up2 (up2 sg 300 6 (f p)) 300 4 (nI (p + 1)) = s1
        have k1 : ∀ x j, ¬ (x = 300 ∧ (j = 4 ∨ j = 6)) → s1 x j = sg x j := fun x j hx => by
          rw [← hs, up2_o (by omega), up2_o (by omega)]
        have t1 : txM s1 f b n (p + 1) := txM_kp h4 (by omega) (by rw [← hs, up2_s]) (fun j => k1 322 j (by omega))
        obtain ⟨r, d, d1, d2, d3⟩ := itemM (k := k) t1 (by omega) (by omega) (by rw [k1 300 5 (by omega)]; exact h6)
        rw [L_X7_readStair_17, if_neg ne10, d1, bnd_s]
        cases e : itmT f n (p + 1) with
        | inl q =>
          rw [e] at d3
          obtain ⟨rfl, d4⟩ := d3
          refine ⟨nI q, d, ?_, fun x j hx => ?_, rfl⟩
          · rw [if_pos rfl]
            unfold kE2
            rw [d4]
          · rw [d2 x j (by omega), k1 x j (by omega)]
        | inr t =>
          obtain ⟨kd, a, r', q⟩ := t
          rw [e] at d3
          obtain ⟨rfl, w1, w2, w3, w4, w5⟩ := d3
          have hq := (itm_ok e).2
          rw [if_neg ne10]
          obtain ⟨res, d', r1, r2, r3⟩ := ih (k + 1) q F (f p) (fun i => if i = k then (kd, a, r') else I i) d (by omega) (by omega) (by omega) (txM_kp t1 (by omega) w1 (fun j => d2 322 j (by omega))) (by omega) w2 (by rw [d2 300 6 (by omega), ← hs, up2_o (by omega), up2_s]) (fun i hi => by
              by_cases ei : i = k
              · subst ei
                simp only [if_pos rfl]
                exact ⟨w3, w4, w5⟩
              · simp only [if_neg ei]
                obtain ⟨g1, g2, g3⟩ := h8 i (by omega)
                refine ⟨?_, ?_, fun w => ?_⟩
                · rw [d2 307 i (by omega), k1 307 i (by omega)]; exact g1
                · rw [d2 309 i (by omega), k1 309 i (by omega)]; exact g2
                · rw [d2 308 i (by omega), k1 308 i (by omega)]; exact g3 w)
          refine ⟨res, d', r1, fun x j hx => ?_, r3⟩
          rw [r2 x j hx, d2 x j (by omega), k1 x j (by omega)]
      · rw [if_neg hg, if_neg hg]
        exact ⟨nI p, sg, rfl, fun _ _ _ => rfl, rfl⟩
theorem readM (hn : n ≤ 60) (hb : b + n ≤ 240) (hf : ∀ i, i < n → sg 322 (b + i) = f i) : ∃ res d, fX7_readStair (nI b) (nI n) sg = some (res, d) ∧ kpN sg d ∧ rmR d res (redT f n) := by
  generalize hs : up2 (up2 (up2 sg 300 4 (0 : Int32)) 300 5 (0 : Int32)) 300 6 (0 : Int32) = s1
  have k1 : ∀ x j, ¬ (x = 300 ∧ (j = 4 ∨ j = 5 ∨ j = 6)) → s1 x j = sg x j := fun x j hx => by
    rw [← hs, up2_o (by omega), up2_o (by omega), up2_o (by omega)]
  have t1 : txM s1 f b n 0 := ⟨hn, hb, by rw [← hs, up2_o (by omega), up2_o (by omega), up2_s]; rfl, by omega, fun i hi => by rw [k1 322 _ (by omega)]; exact hf i hi⟩
  obtain ⟨r, d, d1, d2, d3⟩ := itemM (k := 0) t1 (by omega) (by omega) (by rw [← hs, up2_o (by omega), up2_s]; rfl)
  have pre : fX7_readStair (nI b) (nI n) sg = if r = 0 then kE2 d else (if nI n ≤ d 300 4 then B_X7_readStair_48 (L_X7_readStair_17 kE1 kE2 kE2 199) kE2 (nI b) (nI n) (0 : Int32) d else B_X7_readStair_48 (L_X7_readStair_17 kE1 kE2 kE2 199) kE2 (nI b) (nI n) (1 : Int32) d) := by
    unfold fX7_readStair
    rw [hs]
    show L_X7_readStair_17 kE1 kE2 kE2 (199 + 1) (nI b) (nI n) 1 s1 = _
    rw [L_X7_readStair_17, if_neg ne10, d1, bnd_s]
  rw [pre]
  unfold redT
  cases e : itmT f n 0 with
  | inl q =>
    rw [e] at d3
    obtain ⟨rfl, d4⟩ := d3
    refine ⟨nI q, d, ?_, fun x j hx => ?_, rfl⟩
    · rw [if_pos rfl]
      unfold kE2
      rw [d4]
    · rw [d2 x j (by omega), k1 x j (by omega)]
  | inr t =>
    obtain ⟨kd, a, r', q⟩ := t
    rw [e] at d3
    obtain ⟨rfl, w1, w2, w3, w4, w5⟩ := d3
    have hq := (itm_ok e).2
    rw [if_neg ne10]
    obtain ⟨res, d', r1, r2, r3⟩ := aftM (f := f) (b := b) (n := n) 5 1 q 199 0 (fun _ => (kd, a, r')) d (by omega) (by omega) (by omega) (txM_kp t1 (by omega) w1 (fun j => d2 322 j (by omega))) (by omega) w2 (by rw [d2 300 6 (by omega), ← hs, up2_s]) (fun i hi => by
        have : i = 0 := by omega
        subst this
        exact ⟨w3, w4, w5⟩)
    refine ⟨res, d', r1, fun x j hx => ?_, r3⟩
    rw [r2 x j hx, d2 x j (by omega), k1 x j (by omega)]
end B5
