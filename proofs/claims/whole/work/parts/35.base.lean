/-! small methods of both sides -/
theorem arg_cases (x : Int32) {n : Nat} (hn : n < 2 ^ 31) : (∃ i, i < n ∧ x = nI i) ∨ ¬ (0 ≤ x.toInt ∧ x.toInt < n) := by
  by_cases h : 0 ≤ x.toInt ∧ x.toInt < n
  · refine Or.inl ⟨x.toInt.toNat, by omega, ?_⟩
    rw [fa_eq, nI_toInt (by omega)]
    omega
  · exact Or.inr h
theorem rgN {i n : Nat} (h : i < n) (hn : n < 2 ^ 31) : 0 ≤ (nI i).toInt ∧ (nI i).toInt < n := by
  rw [nI_toInt (by omega)]
  omega
theorem t64 (x : Int32) : x.toInt64.toInt = x.toInt := Int32.toInt_toInt64 x
theorem b01_0 : b01 0 = true := by decide
theorem b01_1 : b01 1 = true := by decide
section SC
variable {sg : Hp}
theorem isUpTo_ok {x y : Int32} : fX6_isUpTo x y sg = some (if 0 ≤ x.toInt ∧ x.toInt ≤ y.toInt then 1 else 0, sg) := by
  unfold fX6_isUpTo B_X6_isUpTo_13 B_X6_isUpTo_14
  simp only [fa_lt, ti0]
  by_cases h1 : x.toInt < 0
  · rw [if_pos h1, if_neg (by omega)]; rfl
  · rw [if_neg h1]
    by_cases h2 : y.toInt < x.toInt
    · rw [if_pos h2, if_neg (by omega)]; rfl
    · rw [if_neg h2, if_pos (by omega)]; rfl
theorem has_ok {x : Int32} {n : Nat} (h : sg 1 2 = nI n) (hn : n ≤ 24) : fX4_has x sg = some (if 0 ≤ x.toInt ∧ x.toInt < n then 1 else 0, sg) := by
  unfold fX4_has B_X4_has_16 B_X4_has_17
  rw [h]
  simp only [fa_lt, fa_le, ti0, nI_toInt (show n < 2 ^ 31 by omega)]
  by_cases h1 : x.toInt < 0
  · rw [if_pos h1, if_neg (by omega)]; rfl
  · rw [if_neg h1]
    by_cases h2 : (n : Int) ≤ x.toInt
    · rw [if_pos h2, if_neg (by omega)]; rfl
    · rw [if_neg h2, if_pos (by omega)]; rfl
theorem isFull_ok {n : Nat} (h : sg 1 2 = nI n) (hn : n ≤ 24) : fX4_isFull sg = some (if n < 24 then 0 else 1, sg) := by
  unfold fX4_isFull B_X4_isFull_14
  rw [h]
  by_cases h1 : n < 24
  · rw [if_pos (by rw [show (24 : Int32) = nI 24 from rfl, ltN (by omega) (by omega)]; exact h1), if_pos h1]; rfl
  · rw [if_neg (by rw [show (24 : Int32) = nI 24 from rfl, ltN (by omega) (by omega)]; exact h1), if_neg h1]; rfl
theorem row_ok {f : Nat} (hf : f < 24) : fX4_row (nI f) sg = some (100 + f, sg) := by
  unfold fX4_row
  rw [gd_t (inbN hf (by omega)), nI_clamp (by omega)]
theorem nextRow_ok {n : Nat} (h : sg 1 2 = nI n) (hn : n < 24) : fX4_nextRow sg = some (100 + n, sg) := by
  unfold fX4_nextRow
  rw [h, gd_t (inbN hn (by omega)), nI_clamp (by omega)]
theorem keepNext_ok {n : Nat} {k : Int32} (h : sg 1 2 = nI n) (hn : n < 24) : fX4_keepNext k sg = some (nI n, up2 (up2 sg 9 n k) 1 2 (nI (n + 1))) := by
  unfold fX4_keepNext
  rw [h, gd_t (inbN hn (by omega)), nI_clamp (by omega), up2_s, up2_o (by omega), h, nI_1, subN1 (by omega)]
  rfl
def flt (x : Int32) : Int32 := if -14 ≤ x.toInt ∧ x.toInt ≤ -11 then -10 - x else 0
theorem ended_ok {x : Int32} : fX6_ended x sg = some (x, up2 sg 0 8 (flt x)) := by
  unfold fX6_ended B_X6_ended_20 B_X6_ended_21 flt
  simp only [fa_lt, Int32.reduceToInt]
  by_cases h1 : -11 < x.toInt
  · rw [if_pos h1, if_neg (by omega)]
  · rw [if_neg h1]
    by_cases h2 : x.toInt < -14
    · rw [if_pos h2, if_neg (by omega)]
    · rw [if_neg h2, if_pos (by omega)]
theorem shHas_ok {x : Int32} : fX3_has x sg = some (if 0 ≤ x.toInt ∧ x.toInt < 4 then 1 else 0, sg) := by
  unfold fX3_has B_X3_has_13 B_X3_has_14
  simp only [fa_lt, fa_le, Int32.reduceToInt]
  by_cases h1 : x.toInt < 0
  · rw [if_pos h1, if_neg (by omega)]; rfl
  · rw [if_neg h1]
    by_cases h2 : 4 ≤ x.toInt
    · rw [if_pos h2, if_neg (by omega)]; rfl
    · rw [if_neg h2, if_pos (by omega)]; rfl
theorem isLane_ok {x : Int32} : fX3_isLane x sg = some (if 0 ≤ x.toInt ∧ x.toInt < 3 then 1 else 0, sg) := by
  unfold fX3_isLane B_X3_isLane_13 B_X3_isLane_14
  simp only [fa_lt, fa_le, Int32.reduceToInt]
  by_cases h1 : x.toInt < 0
  · rw [if_pos h1, if_neg (by omega)]; rfl
  · rw [if_neg h1]
    by_cases h2 : 3 ≤ x.toInt
    · rw [if_pos h2, if_neg (by omega)]; rfl
    · rw [if_neg h2, if_pos (by omega)]; rfl
end SC
section SM
variable {sg : Hp}
theorem cnt64 {n : Nat} (h : n ≤ 10000) : ((nI n).toInt64 - 1).toInt = (n : Int) - 1 := by
  have e1 : (1 : Int64).toInt = 1 := by decide
  rw [fb_subL]
  · rw [t64, nI_toInt (by omega), e1]
  · rw [t64, nI_toInt (by omega), e1]; omega
  · rw [t64, nI_toInt (by omega), e1]; omega
theorem noStair_ok {x : Int32} {n : Nat} (h : sg 300 1 = nI n) (hn : n ≤ 24) : fX7_noStair x sg = some (if 0 ≤ x.toInt ∧ x.toInt < n then 0 else 1, sg) := by
  unfold fX7_noStair B_X7_noStair_21
  rw [in_ok, bnd_s, h, cnt64 (by omega), t64, show (0 : Int64).toInt = 0 by decide]
  by_cases h1 : 0 ≤ x.toInt ∧ x.toInt < n
  · rw [if_pos h1, if_pos (show 0 ≤ x.toInt ∧ x.toInt ≤ (n : Int) - 1 by omega), if_neg (by decide)]; rfl
  · rw [if_neg h1, if_neg (show ¬ (0 ≤ x.toInt ∧ x.toInt ≤ (n : Int) - 1) by omega), if_pos (by decide)]; rfl
theorem noFlow_ok {x : Int32} {n : Nat} (h : sg 300 12 = nI n) (hn : n ≤ 24) : fX7_noFlow x sg = some (if 0 ≤ x.toInt ∧ x.toInt < n then 0 else 1, sg) := by
  unfold fX7_noFlow B_X7_noFlow_21
  rw [in_ok, bnd_s, h, cnt64 (by omega), t64, show (0 : Int64).toInt = 0 by decide]
  by_cases h1 : 0 ≤ x.toInt ∧ x.toInt < n
  · rw [if_pos h1, if_pos (show 0 ≤ x.toInt ∧ x.toInt ≤ (n : Int) - 1 by omega), if_neg (by decide)]; rfl
  · rw [if_neg h1, if_neg (show ¬ (0 ≤ x.toInt ∧ x.toInt ≤ (n : Int) - 1) by omega), if_pos (by decide)]; rfl
theorem noSheet_ok {x : Int32} : fX7_noSheet x sg = some (if 0 ≤ x.toInt ∧ x.toInt < 4 then 0 else 1, sg) := by
  unfold fX7_noSheet B_X7_noSheet_17
  rw [in_ok, bnd_s, t64, show (0 : Int64).toInt = 0 by decide, show (3 : Int64).toInt = 3 by decide]
  by_cases h1 : 0 ≤ x.toInt ∧ x.toInt < 4
  · rw [if_pos h1, if_pos (show 0 ≤ x.toInt ∧ x.toInt ≤ 3 by omega), if_neg (by decide)]; rfl
  · rw [if_neg h1, if_neg (show ¬ (0 ≤ x.toInt ∧ x.toInt ≤ 3) by omega), if_pos (by decide)]; rfl
theorem noNode_ok {x : Int32} : fX7_noNode x sg = some (if 0 ≤ x.toInt ∧ x.toInt < 6 then 0 else 1, sg) := by
  unfold fX7_noNode B_X7_noNode_17
  rw [in_ok, bnd_s, t64, show (0 : Int64).toInt = 0 by decide, show (5 : Int64).toInt = 5 by decide]
  by_cases h1 : 0 ≤ x.toInt ∧ x.toInt < 6
  · rw [if_pos h1, if_pos (show 0 ≤ x.toInt ∧ x.toInt ≤ 5 by omega), if_neg (by decide)]; rfl
  · rw [if_neg h1, if_neg (show ¬ (0 ≤ x.toInt ∧ x.toInt ≤ 5) by omega), if_pos (by decide)]; rfl
theorem keep_ok {n : Nat} {k : Int32} (h : sg 300 1 = nI n) (hn : n < 24) : fX7_keep k sg = some (nI n, up2 (up2 sg 302 n k) 300 1 (nI (n + 1))) := by
  unfold fX7_keep
  rw [h, gd_t (inbN hn (by omega)), nI_clamp (by omega), up2_s, up2_o (by omega), h, nI_1, subN1 (by omega)]
  rfl
theorem n24 {n : Nat} (hn : n ≤ 24) : (nI n = 24) = (n = 24) := by
  rw [show (24 : Int32) = nI 24 from rfl, eqN (by omega) (by omega)]
end SM
/-! what holds between the class's state c and the reference's state m -/
/-- a stair's row: 0 at first, 0 .. 99999, never falling -/
def okRow (f : Nat → Int32) : Prop := f 0 = 0 ∧ rowB f ∧ ∀ t, t < 40 → (f t).toInt ≤ (f (t + 1)).toInt
def RSt (c m : Hp) (n : Nat) : Prop := n ≤ 24 ∧ c 1 2 = nI n ∧ m 300 1 = nI n ∧ ∀ f, f < n → okRow (c (100 + f)) ∧ (∀ t, t < 41 → mr m f t = c (100 + f) t) ∧ (∃ k, k < 3 ∧ c 9 f = nI k ∧ m 302 f = nI k)
def RSh (c m : Hp) : Prop := ∀ k, k < 4 → ((c 25 k = -1 ∧ m 320 k = -1) ∨ ∃ n, n ≤ 60 ∧ c 25 k = nI n ∧ m 320 k = nI n ∧ ∀ i, i < n → c (210 + k) i = m 322 (60 * k + i)) ∧ c 26 k = m 321 k
def RSe (c m : Hp) : Prop := ∃ k, k ≤ 40 ∧ c 3 2 = nI k ∧ m 300 19 = nI k ∧ (∀ t, t < 41 → mr m 88 t = c 22 t) ∧ c 22 0 = 0 ∧ (∀ t, t < 40 → 0 ≤ (c 22 (t + 1)).toInt - (c 22 t).toInt ∧ (c 22 (t + 1)).toInt - (c 22 t).toInt ≤ 999)
def RTr (c m : Hp) : Prop := c 0 7 = m 300 24 ∧ c 0 8 = m 300 0
theorem alC {i : Nat} (h : i < 24) : alen tC (100 + i) = 41 := by
  have : ∀ i, i < 24 → alen tC (100 + i) = 41 := by decide +kernel
  exact this i h
