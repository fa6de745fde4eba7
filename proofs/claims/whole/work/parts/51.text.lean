/-! a stair out of a text: how it is read, by itself -/
def cdAt (f : Nat → Int32) (n p : Nat) : Int32 := if p < n then f p else 0
abbrev isDg (x : Int32) : Prop := 48 ≤ x.toInt ∧ x.toInt ≤ 57
def ndg (f : Nat → Int32) (n : Nat) : Nat → Nat → Nat → Nat × Nat
  | 0, p, a => (p, a)
  | j + 1, p, a => if isDg (cdAt f n p) then ndg f n j (p + 1) (10 * a + (cdAt f n p).toNatClampNeg - 48) else (p, a)
def numT (f : Nat → Int32) (n lim p : Nat) : Option (Nat × Nat) := if p < (ndg f n 4 p 0).1 ∧ (ndg f n 4 p 0).2 ≤ lim then some ((ndg f n 4 p 0).2, (ndg f n 4 p 0).1) else none
/-- an item's kind, its first number, its pace, and where it ends; or where it breaks -/
def twoT (f : Nat → Int32) (n lim kd p : Nat) : Sum Nat (Nat × Nat × Nat × Nat) := match numT f n lim (p + 1) with
  | none => .inl (p + 1)
  | some (a, q) => if cdAt f n q = 114 then (match numT f n 999 (q + 1) with
    | none => .inl (q + 1)
    | some (r, q2) => .inr (kd, a, r, q2)) else .inl q
def itmT (f : Nat → Int32) (n p : Nat) : Sum Nat (Nat × Nat × Nat × Nat) := if cdAt f n p = 114 then (match numT f n 999 (p + 1) with
    | none => .inl (p + 1)
    | some (r, q2) => .inr (0, 0, r, q2)) else if cdAt f n p = 98 then twoT f n 9999 1 p else if cdAt f n p = 108 then twoT f n 40 2 p else .inl p
def iRow (t : Nat × Nat × Nat) : Nat → Int32 := if t.1 = 1 then sBucket (nI t.2.1) (nI t.2.2) else sLate t.2.1 (nI t.2.2)
def iOk (t : Nat × Nat × Nat) : Prop := t.1 < 3 ∧ t.2.2 ≤ 999 ∧ (t.1 = 0 → t.2.1 = 0) ∧ (t.1 = 1 → t.2.1 ≤ 9999) ∧ (t.1 = 2 → t.2.1 ≤ 40)
theorem iOk_i {kd a r : Nat} (h1 : kd < 3) (h2 : r ≤ 999) (h3 : kd = 0 → a = 0) (h4 : kd = 1 → a ≤ 9999) (h5 : kd = 2 → a ≤ 40) : iOk (kd, a, r) := ⟨h1, h2, h3, h4, h5⟩
theorem ok_item {t : Nat × Nat × Nat} (h : iOk t) : okRow (iRow t) := by
  obtain ⟨h1, h2, h3, h4, h5⟩ := h
  unfold iRow
  by_cases e : t.1 = 1
  · rw [if_pos e]; exact ok_bucket (h4 e) h2
  · rw [if_neg e]; exact ok_late h2
def tRow (s : Int32) (I : Nat → Nat × Nat × Nat) : Nat → Nat → Int32
  | 0 => iRow (I 0)
  | k + 1 => if s = 38 then sLeast (tRow s I k) (iRow (I (k + 1))) else sSum (tRow s I k) (iRow (I (k + 1)))
theorem ok_tRow {s : Int32} {I : Nat → Nat × Nat × Nat} : ∀ {k}, (∀ i, i ≤ k → iOk (I i)) → okRow (tRow s I k)
  | 0, h => ok_item (h 0 (Nat.le_refl _))
  | k + 1, h => by
    have h1 := ok_tRow (s := s) (k := k) (fun i hi => h i (by omega))
    have h2 := ok_item (h (k + 1) (Nat.le_refl _))
    unfold tRow
    by_cases e : s = 38
    · rw [if_pos e]; exact ok_least h1 h2
    · rw [if_neg e]; exact ok_sum h1 h2
theorem tRow_cong {s : Int32} {I J : Nat → Nat × Nat × Nat} : ∀ {k}, (∀ i, i ≤ k → I i = J i) → tRow s I k = tRow s J k
  | 0, h => by
    unfold tRow
    rw [h 0 (Nat.le_refl _)]
  | k + 1, h => by
    unfold tRow
    rw [h (k + 1) (Nat.le_refl _), tRow_cong (k := k) (fun i hi => h i (by omega))]
def prsT (f : Nat → Int32) (n : Nat) : Nat → Nat → Int32 → (Nat → Nat × Nat × Nat) → Nat → Sum Nat (Nat × Int32 × (Nat → Nat × Nat × Nat))
  | 0, k, s, I, p => if n ≤ p then .inr (k, s, I) else .inl p
  | j + 1, k, s, I, p => if n ≤ p then .inr (k, s, I) else if (f p = 38 ∨ f p = 43) ∧ (s = 0 ∨ f p = s) then (match itmT f n (p + 1) with
    | .inl q => .inl q
    | .inr (kd, a, r, q) => prsT f n j (k + 1) (f p) (fun i => if i = k then (kd, a, r) else I i) q) else .inl p
def redT (f : Nat → Int32) (n : Nat) : Sum Nat (Nat × Int32 × (Nat → Nat × Nat × Nat)) := match itmT f n 0 with
  | .inl q => .inl q
  | .inr (kd, a, r, q) => prsT f n 5 1 0 (fun _ => (kd, a, r)) q
section B3
variable {sg c m : Hp} {f : Nat → Int32} {n p q lim : Nat}
theorem cd_in (h : p < n) : cdAt f n p = f p := if_pos h
theorem cd_out (h : n ≤ p) : cdAt f n p = 0 := if_neg (by omega)
theorem dg_lt (h : isDg (cdAt f n p)) : p < n := by
  by_cases e : p < n
  · exact e
  · rw [cd_out (by omega)] at h
    exact absurd h (by decide)
theorem dg_n {x : Int32} (h : isDg x) : ∃ k, 48 ≤ k ∧ k ≤ 57 ∧ x = nI k := by
  unfold isDg at h
  obtain ⟨k, h1, h2⟩ := upN (x := x) (n := 57) (by omega) (by omega)
  rw [h2, nI_toInt (by omega)] at h
  exact ⟨k, by omega, h1, h2⟩
theorem dg_step {x : Int32} {a : Nat} (h : isDg x) : (10 : Int32) * nI a + x - 48 = nI (10 * a + x.toNatClampNeg - 48) := by
  obtain ⟨k, h1, h2, rfl⟩ := dg_n h
  rw [show (10 : Int32) = nI 10 from rfl, show (48 : Int32) = nI 48 from rfl, pk_mul, nI_add, pk_sub (by omega), nI_clamp (by omega)]
theorem ndg_b : ∀ {j p a}, p ≤ (ndg f n j p a).1 ∧ (ndg f n j p a).1 ≤ p + j ∧ (p ≤ n → (ndg f n j p a).1 ≤ n) ∧ (ndg f n j p a).2 < (a + 1) * 10 ^ j
  | 0, p, a => by
    unfold ndg
    refine ⟨Nat.le_refl _, Nat.le_refl _, fun h => h, ?_⟩
    show a < (a + 1) * 1
    omega
  | j + 1, p, a => by
    unfold ndg
    by_cases h : isDg (cdAt f n p)
    · rw [if_pos h]
      obtain ⟨k, h1, h2, e⟩ := dg_n h
      have hp := dg_lt h
      have ih := ndg_b (j := j) (p := p + 1) (a := 10 * a + (cdAt f n p).toNatClampNeg - 48)
      refine ⟨by omega, by omega, fun _ => ih.2.2.1 hp, ?_⟩
      refine Nat.lt_of_lt_of_le ih.2.2.2 ?_
      rw [e, nI_clamp (by omega), Nat.pow_succ, Nat.mul_comm (10 ^ j) 10, ← Nat.mul_assoc]
      exact Nat.mul_le_mul_right _ (by omega)
    · rw [if_neg h]
      refine ⟨Nat.le_refl _, by show p ≤ p + (j + 1); omega, fun h => h, ?_⟩
      show a < (a + 1) * 10 ^ (j + 1)
      have : 1 ≤ 10 ^ (j + 1) := Nat.pow_pos (by omega)
      exact Nat.lt_of_lt_of_le (Nat.lt_succ_self a) (Nat.le_mul_of_pos_right _ this)
theorem num_some {a : Nat} (h : numT f n lim p = some (a, q)) : p < q ∧ a ≤ lim ∧ (ndg f n 4 p 0) = (q, a) := by
  unfold numT at h
  by_cases e : p < (ndg f n 4 p 0).1 ∧ (ndg f n 4 p 0).2 ≤ lim
  · rw [if_pos e] at h
    cases h
    exact ⟨e.1, e.2, rfl⟩
  · rw [if_neg e] at h
    cases h
theorem num_q {a : Nat} (h : numT f n lim p = some (a, q)) : q ≤ n := by
  obtain ⟨h1, h2, h3⟩ := num_some h
  have hb := ndg_b (f := f) (n := n) (j := 4) (p := p) (a := 0)
  rw [h3] at hb
  by_cases e : p ≤ n
  · exact hb.2.2.1 e
  · exfalso
    have : ndg f n 4 p 0 = (p, 0) := by
      unfold ndg
      rw [if_neg (fun h => by have := dg_lt h; omega)]
    rw [this] at h3
    cases h3
    omega
theorem two_some {lim kd : Nat} {t : Nat × Nat × Nat × Nat} (h : twoT f n lim kd p = .inr t) : t.1 = kd ∧ t.2.1 ≤ lim ∧ t.2.2.1 ≤ 999 ∧ t.2.2.2 ≤ n := by
  unfold twoT at h
  cases e : numT f n lim (p + 1) with
  | none => rw [e] at h; cases h
  | some w =>
    obtain ⟨a, q⟩ := w
    rw [e] at h
    simp only at h
    by_cases e2 : cdAt f n q = 114
    · rw [if_pos e2] at h
      cases e3 : numT f n 999 (q + 1) with
      | none => rw [e3] at h; cases h
      | some w =>
        obtain ⟨r, q2⟩ := w
        rw [e3] at h
        cases h
        exact ⟨rfl, (num_some e).2.1, (num_some e3).2.1, num_q e3⟩
    · rw [if_neg e2] at h; cases h
theorem itm_ok {kd a r q : Nat} (h : itmT f n p = .inr (kd, a, r, q)) : iOk (kd, a, r) ∧ q ≤ n := by
  unfold itmT at h
  by_cases e1 : cdAt f n p = 114
  · rw [if_pos e1] at h
    cases e3 : numT f n 999 (p + 1) with
    | none => rw [e3] at h; cases h
    | some w =>
      obtain ⟨r, q2⟩ := w
      rw [e3] at h
      cases h
      exact ⟨iOk_i (by omega) (num_some e3).2.1 (by omega) (by omega) (by omega), num_q e3⟩
  · rw [if_neg e1] at h
    by_cases e2 : cdAt f n p = 98
    · rw [if_pos e2] at h
      obtain ⟨t1, t2, t3, t4⟩ := two_some h
      simp only at t1 t2 t3 t4
      subst t1
      exact ⟨iOk_i (by omega) t3 (by omega) (by omega) (by omega), t4⟩
    · rw [if_neg e2] at h
      by_cases e3 : cdAt f n p = 108
      · rw [if_pos e3] at h
        obtain ⟨t1, t2, t3, t4⟩ := two_some h
        simp only at t1 t2 t3 t4
        subst t1
        exact ⟨iOk_i (by omega) t3 (by omega) (by omega) (by omega), t4⟩
      · rw [if_neg e3] at h
        cases h
/-! the class reads it -/
theorem up2_same {b j : Nat} {v : Int32} (h : sg b j = v) : up2 sg b j v = sg := by
  funext q i
  rw [up2_at]
  by_cases e : q = b ∧ i = j
  · rw [if_pos e, e.1, e.2, h]
  · rw [if_neg e]
theorem up2_tw {b j : Nat} {v w : Int32} : up2 (up2 sg b j v) b j w = up2 sg b j w := by
  funext q i
  rw [up2_at, up2_at, up2_at]
  by_cases e : q = b ∧ i = j
  · rw [if_pos e, if_pos e]
  · rw [if_neg e, if_neg e, if_neg e]
/-- the reader stands at place p of a text -/
def tx (sg : Hp) (f : Nat → Int32) (n p : Nat) : Prop := n ≤ 60 ∧ sg 5 4 = nI n ∧ sg 5 5 = nI p ∧ p ≤ 200 ∧ ∀ i, i < n → sg 27 i = f i
theorem code_ok (h : tx sg f n p) : fX5_codeHere sg = some (cdAt f n p, sg) := by
  obtain ⟨h1, h2, h3, h4, h5⟩ := h
  unfold fX5_codeHere B_X5_codeHere_24
  rw [h2, h3]
  by_cases e : p < n
  · rw [if_neg (by rw [leN (by omega) (by omega)]; omega), gd_t (inbN (by omega) (by omega)), nI_clamp (by omega), h5 p e, cd_in e]
  · rw [if_pos (by rw [leN (by omega) (by omega)]; omega), cd_out (by omega)]
theorem digit_ok {x : Int32} : fX5_isDigit x sg = some (if isDg x then 1 else 0, sg) := by
  unfold fX5_isDigit B_X5_isDigit_16 B_X5_isDigit_17 isDg
  have e1 : (x < 48) = (x.toInt < 48) := by rw [fa_lt]; rfl
  have e2 : (57 < x) = (57 < x.toInt) := by rw [fa_lt]; rfl
  by_cases h1 : x.toInt < 48
  · rw [if_pos (by rw [e1]; exact h1), if_neg (by omega)]; rfl
  · rw [if_neg (by rw [e1]; exact h1)]
    by_cases h2 : 57 < x.toInt
    · rw [if_pos (by rw [e2]; exact h2), if_neg (by omega)]; rfl
    · rw [if_neg (by rw [e2]; exact h2), if_pos (by omega)]; rfl
theorem tx_up {q : Nat} (h : tx sg f n p) (hq : q ≤ 200) : tx (up2 sg 5 5 (nI q)) f n q := by
  obtain ⟨h1, h2, h3, h4, h5⟩ := h
  exact ⟨h1, by rw [up2_o (by omega)]; exact h2, up2_s, hq, fun i hi => by rw [up2_o (by omega)]; exact h5 i hi⟩
theorem numC_in {K : Int32 → Int32 → Int32 → Hp → Option (Int32 × Hp)} {v1 v2 : Int32} : ∀ (j p a F k : Nat) (sg : Hp), tx sg f n p → j + k = 4 → j < F → p + j ≤ 200 → L_X5_readNumber_10 K F v1 v2 (nI a) (nI k) sg = K v1 v2 (nI (ndg f n j p a).2) (up2 sg 5 5 (nI (ndg f n j p a).1)) := by
  intro j
  induction j with
  | zero =>
    intro p a F k sg h1 h2 h3 h4
    obtain ⟨F, rfl⟩ : ∃ w, F = w + 1 := ⟨F - 1, by omega⟩
    rw [L_X5_readNumber_10, if_pos (by rw [i4, leN (by omega) (by omega)]; omega)]
    show _ = K v1 v2 (nI a) (up2 sg 5 5 (nI p))
    rw [up2_same h1.2.2.1]
  | succ j ih =>
    intro p a F k sg h1 h2 h3 h4
    obtain ⟨F, rfl⟩ : ∃ w, F = w + 1 := ⟨F - 1, by omega⟩
    rw [L_X5_readNumber_10, if_neg (by rw [i4, leN (by omega) (by omega)]; omega), code_ok h1, bnd_s, digit_ok, bnd_s]
    unfold ndg
    by_cases e : isDg (cdAt f n p)
    · rw [if_pos e, if_neg ne10, code_ok h1, bnd_s, h1.2.2.1, nI_1, nI_1, dg_step e, if_pos e, ih (p + 1) _ F (k + 1) _ (tx_up h1 (by omega)) (by omega) (by omega) (by omega), up2_tw]
    · rw [if_neg e, if_pos rfl, if_neg e, up2_same h1.2.2.1]
theorem numC_y {a : Nat} (h : tx sg f n p) (hp : p ≤ 196) (hl : lim ≤ 9999) (hn : numT f n lim p = some (a, q)) : fX5_readNumber (nI lim) sg = some (nI a, up2 sg 5 5 (nI q)) := by
  obtain ⟨h1, h2, h3⟩ := num_some hn
  have hq := num_q hn
  have hn60 := h.1
  unfold fX5_readNumber B_X5_readNumber_73
  rw [h.2.2.1, show (0 : Int32) = nI 0 from rfl, numC_in 4 p 0 200 0 sg h (by omega) (by omega) (by omega), h3]
  show (if up2 sg 5 5 (nI q) 5 5 = nI p then _ else _) = _
  rw [up2_s, if_neg (by rw [eqN (by omega) (by omega)]; omega), if_pos (by rw [leN (by omega) (by omega)]; exact h2)]
theorem numC_n (h : tx sg f n p) (hp : p ≤ 196) (hl : lim ≤ 9999) (hn : numT f n lim p = none) : ∃ a q, a ≤ 9999 ∧ fX5_readNumber (nI lim) sg = some (nI a, up2 (up2 sg 5 5 (nI q)) 5 7 (nI p)) := by
  have hb := ndg_b (f := f) (n := n) (j := 4) (p := p) (a := 0)
  refine ⟨(ndg f n 4 p 0).2, (ndg f n 4 p 0).1, by have := hb.2.2.2; omega, ?_⟩
  unfold fX5_readNumber B_X5_readNumber_68 B_X5_readNumber_73
  rw [h.2.2.1, show (0 : Int32) = nI 0 from rfl, numC_in 4 p 0 200 0 sg h (by omega) (by omega) (by omega)]
  show (if up2 sg 5 5 (nI (ndg f n 4 p 0).1) 5 5 = nI p then _ else _) = _
  rw [up2_s]
  by_cases e : (ndg f n 4 p 0).1 = p
  · rw [if_pos (by rw [e])]
  · rw [if_neg (by rw [eqN (by omega) (by omega)]; exact e), if_neg]
    rw [leN (by omega) (by omega)]
    unfold numT at hn
    intro h9
    rw [if_pos ⟨by omega, h9⟩] at hn
    cases hn
end B3
