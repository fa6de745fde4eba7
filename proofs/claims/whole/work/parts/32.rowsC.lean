/-! the class's rows: what each of its fill methods does -/
section RC
variable {a b c : Nat} {sg : Hp}
theorem fillSum_ok (h0 : alen tC a = 41) (h1 : alen tC b = 41) (h2 : alen tC c = 41) : fX1_fillSum a b c sg = some ((), fil sg c (sSum (sg a) (sg b)) 41) := by
  unfold fX1_fillSum
  have key := nloop (N := 41) (M := 0) (fun n t => L_X1_fillSum_2 (fun (s2 : Hp) => some ((), s2)) n a b c (nI t) (fil sg c (sSum (sg a) (sg b)) t)) (some ((), fil sg c (sSum (sg a) (sg b)) 41))
    (fun n t _ ht => by
      have e1 : ¬ (40 : Int32) < nI t := by
        simp (disch := omega) only [fa_lt, nI_toInt, Int32.reduceToInt]
        omega
      have ca : fil sg c (sSum (sg a) (sg b)) t a t = sg a t := fil_out (Or.inr (Nat.le_refl t))
      have cb : fil sg c (sSum (sg a) (sg b)) t b t = sg b t := fil_out (Or.inr (Nat.le_refl t))
      simp only [L_X1_fillSum_2, if_neg e1, h0, h1, h2, inbN ht (by omega), gd, cond_true, nI_clamp (show t < 2 ^ 31 by omega), nI_1, ca, cb]
      rw [← fil_up (F := sSum (sg a) (sg b)) (x := mnI (sg a t + sg b t) 99999) rfl])
    (fun n => by
      have e1 : (40 : Int32) < nI 41 := by decide
      simp only [L_X1_fillSum_2, if_pos e1])
    200 0 (by omega) (by omega) (by omega)
  rw [fil_0] at key
  exact key
theorem fillLeast_ok (h0 : alen tC a = 41) (h1 : alen tC b = 41) (h2 : alen tC c = 41) : fX1_fillLeast a b c sg = some ((), fil sg c (sLeast (sg a) (sg b)) 41) := by
  unfold fX1_fillLeast
  have key := nloop (N := 41) (M := 0) (fun n t => L_X1_fillLeast_2 (fun (s2 : Hp) => some ((), s2)) n a b c (nI t) (fil sg c (sLeast (sg a) (sg b)) t)) (some ((), fil sg c (sLeast (sg a) (sg b)) 41))
    (fun n t _ ht => by
      have e1 : ¬ (40 : Int32) < nI t := by
        simp (disch := omega) only [fa_lt, nI_toInt, Int32.reduceToInt]
        omega
      have ca : fil sg c (sLeast (sg a) (sg b)) t a t = sg a t := fil_out (Or.inr (Nat.le_refl t))
      have cb : fil sg c (sLeast (sg a) (sg b)) t b t = sg b t := fil_out (Or.inr (Nat.le_refl t))
      simp only [L_X1_fillLeast_2, if_neg e1, h0, h1, h2, inbN ht (by omega), gd, cond_true, nI_clamp (show t < 2 ^ 31 by omega), nI_1, ca, cb]
      rw [← fil_up (F := sLeast (sg a) (sg b)) (x := mnI (sg a t) (sg b t)) rfl])
    (fun n => by
      have e1 : (40 : Int32) < nI 41 := by decide
      simp only [L_X1_fillLeast_2, if_pos e1])
    200 0 (by omega) (by omega) (by omega)
  rw [fil_0] at key
  exact key
theorem fillLeft_ok (h0 : alen tC a = 41) (h1 : alen tC b = 41) (h2 : alen tC c = 41) : fX1_fillLeft a b c sg = some ((), fil sg c (sLeft (sg a) (sg b)) 41) := by
  unfold fX1_fillLeft
  have key := nloop (N := 41) (M := 0) (fun n t => L_X1_fillLeft_5 (fun (s2 : Hp) => some ((), s2)) n a b c (maxU (fun s => sg a s - sg b s) 0 t) (nI t) (fil sg c (sLeft (sg a) (sg b)) t)) (some ((), fil sg c (sLeft (sg a) (sg b)) 41))
    (fun n t _ ht => by
      have e1 : ¬ (40 : Int32) < nI t := by
        simp (disch := omega) only [fa_lt, nI_toInt, Int32.reduceToInt]
        omega
      have ca : fil sg c (sLeft (sg a) (sg b)) t a t = sg a t := fil_out (Or.inr (Nat.le_refl t))
      have cb : fil sg c (sLeft (sg a) (sg b)) t b t = sg b t := fil_out (Or.inr (Nat.le_refl t))
      simp only [L_X1_fillLeft_5, if_neg e1, h0, h1, h2, inbN ht (by omega), gd, cond_true, nI_clamp (show t < 2 ^ 31 by omega), nI_1, ca, cb]
      rw [← fil_up (F := sLeft (sg a) (sg b)) (x := mxI (maxU (fun s => sg a s - sg b s) 0 t) (sg a t - sg b t)) rfl]
      rfl)
    (fun n => by
      have e1 : (40 : Int32) < nI 41 := by decide
      simp only [L_X1_fillLeft_5, if_pos e1])
    200 0 (by omega) (by omega) (by omega)
  rw [fil_0] at key
  exact key
theorem heap_ok (h0 : alen tC a = 41) (h1 : alen tC b = 41) : fX1_greatestHeap a b sg = some (sHeap (sg a) (sg b), sg) := by
  unfold fX1_greatestHeap
  exact nloop (N := 41) (M := 0) (fun n t => L_X1_greatestHeap_4 (fun (w : Int32) (s2 : Hp) => some (w, s2)) n a b (maxU (fun s => sg a s - sg b s) 0 t) (nI t) sg) (some (sHeap (sg a) (sg b), sg))
    (fun n t _ ht => by
      have e1 : ¬ (40 : Int32) < nI t := by
        simp (disch := omega) only [fa_lt, nI_toInt, Int32.reduceToInt]
        omega
      simp only [L_X1_greatestHeap_4, if_neg e1, h0, h1, inbN ht (by omega), gd, cond_true, nI_clamp (show t < 2 ^ 31 by omega), nI_1]
      rfl)
    (fun n => by
      have e1 : (40 : Int32) < nI 41 := by decide
      simp only [L_X1_greatestHeap_4, if_pos e1]
      rfl)
    200 0 (by omega) (by omega) (by omega)
theorem fillBucket_ok {x r : Int32} (h2 : alen tC c = 41) : fX1_fillBucket x r c sg = some ((), fil sg c (sBucket x r) 41) := by
  unfold fX1_fillBucket
  rw [h2, gd_t (inb0 (by omega)), cl0, show up2 sg c 0 0 = fil sg c (sBucket x r) 1 from up2_fil0 rfl]
  exact nloop (N := 41) (M := 1) (fun n t => L_X1_fillBucket_6 (fun (s2 : Hp) => some ((), s2)) n x r c (nI t) (fil sg c (sBucket x r) t)) (some ((), fil sg c (sBucket x r) 41))
    (fun n t h1 ht => by
      have e1 : ¬ (40 : Int32) < nI t := by
        simp (disch := omega) only [fa_lt, nI_toInt, Int32.reduceToInt]
        omega
      simp only [L_X1_fillBucket_6, if_neg e1, h2, inbN ht (by omega), gd, cond_true, nI_clamp (show t < 2 ^ 31 by omega), nI_1]
      rw [fil_up (F := sBucket x r) (by simp [sBucket]; omega)])
    (fun n => by
      have e1 : (40 : Int32) < nI 41 := by decide
      simp only [L_X1_fillBucket_6, if_pos e1])
    200 1 (by omega) (by omega) (by omega)
theorem fillLate_ok {l : Nat} {r : Int32} (hl : l ≤ 100000) (h2 : alen tC c = 41) : fX1_fillLate (nI l) r c sg = some ((), fil sg c (sLate l r) 41) := by
  unfold fX1_fillLate
  have key := nloop (N := 41) (M := 0) (fun n t => L_X1_fillLate_2 (fun (s2 : Hp) => some ((), s2)) n (nI l) r c (nI t) (fil sg c (sLate l r) t)) (some ((), fil sg c (sLate l r) 41))
    (fun n t _ ht => by
      have e1 : ¬ (40 : Int32) < nI t := by
        simp (disch := omega) only [fa_lt, nI_toInt, Int32.reduceToInt]
        omega
      have e2 : (nI l < nI t) = (l < t) := ltN (by omega) (by omega)
      by_cases h : l < t
      · have h' : nI l < nI t := by rw [e2]; exact h
        simp only [L_X1_fillLate_2, if_neg e1, if_pos h', B_X1_fillLate_24, h2, inbN ht (by omega), gd, cond_true, nI_clamp (show t < 2 ^ 31 by omega), nI_1]
        rw [fil_up (F := sLate l r) (by simp [sLate]; omega)]
      · have h' : ¬ nI l < nI t := by rw [e2]; exact h
        simp only [L_X1_fillLate_2, if_neg e1, if_neg h', B_X1_fillLate_24, h2, inbN ht (by omega), gd, cond_true, nI_clamp (show t < 2 ^ 31 by omega), nI_1]
        rw [fil_up (F := sLate l r) (by simp [sLate]; omega)])
    (fun n => by
      have e1 : (40 : Int32) < nI 41 := by decide
      simp only [L_X1_fillLate_2, if_pos e1])
    200 0 (by omega) (by omega) (by omega)
  rw [fil_0] at key
  exact key
theorem fillBack_ok {d : Nat} (hd : d ≤ 40) (h0 : alen tC a = 41) (h2 : alen tC c = 41) (hac : a ≠ c) : fX1_fillHeldBack a (nI d) c sg = some ((), fil sg c (sBack (sg a) d) 41) := by
  unfold fX1_fillHeldBack
  have key := nloop (N := 41) (M := 0) (fun n t => L_X1_fillHeldBack_2 (fun (s2 : Hp) => some ((), s2)) n a (nI d) c (nI t) (fil sg c (sBack (sg a) d) t)) (some ((), fil sg c (sBack (sg a) d) 41))
    (fun n t _ ht => by
      have e1 : ¬ (40 : Int32) < nI t := by
        simp (disch := omega) only [fa_lt, nI_toInt, Int32.reduceToInt]
        omega
      have e2 : (nI d ≤ nI t) = (d ≤ t) := leN (by omega) (by omega)
      have ca : fil sg c (sBack (sg a) d) t a (t - d) = sg a (t - d) := fil_out (Or.inl hac)
      by_cases h : d ≤ t
      · have h' : nI d ≤ nI t := by rw [e2]; exact h
        simp only [L_X1_fillHeldBack_2, if_neg e1, if_pos h', subN h, B_X1_fillHeldBack_24, h0, h2, inbN ht (by omega), inbN (show t - d < 41 by omega) (by omega), gd, cond_true, nI_clamp (show t < 2 ^ 31 by omega), nI_clamp (show t - d < 2 ^ 31 by omega), nI_1, ca]
        rw [fil_up (F := sBack (sg a) d) (by simp [sBack]; omega)]
      · have h' : ¬ nI d ≤ nI t := by rw [e2]; exact h
        simp only [L_X1_fillHeldBack_2, if_neg e1, if_neg h', B_X1_fillHeldBack_24, h2, inbN ht (by omega), gd, cond_true, nI_clamp (show t < 2 ^ 31 by omega), nI_1]
        rw [fil_up (F := sBack (sg a) d) (by simp [sBack]; omega)])
    (fun n => by
      have e1 : (40 : Int32) < nI 41 := by decide
      simp only [L_X1_fillHeldBack_2, if_pos e1])
    200 0 (by omega) (by omega) (by omega)
  rw [fil_0] at key
  exact key
theorem mnN {x y : Nat} (hx : x < 2 ^ 31) (hy : y < 2 ^ 31) : mnI (nI x) (nI y) = nI (min x y) := by
  unfold mnI
  by_cases h : y < x
  · rw [if_pos (by rw [ltN hy hx]; exact h), Nat.min_eq_right (by omega)]
  · rw [if_neg (by rw [ltN hy hx]; exact h), Nat.min_eq_left (by omega)]
theorem mxN {x y : Nat} (hx : x < 2 ^ 31) (hy : y < 2 ^ 31) : mxI (nI x) (nI y) = nI (max x y) := by
  unfold mxI
  by_cases h : x < y
  · rw [if_pos (by rw [ltN hx hy]; exact h), Nat.max_eq_right (by omega)]
  · rw [if_neg (by rw [ltN hx hy]; exact h), Nat.max_eq_left (by omega)]
theorem i40 : (40 : Int32) = nI 40 := rfl
theorem fillAhead_ok {d : Nat} (hd : d ≤ 40) (h0 : alen tC a = 41) (h2 : alen tC c = 41) (hac : a ≠ c) : fX1_fillAhead a (nI d) c sg = some ((), fil sg c (sAhead (sg a) d) 41) := by
  unfold fX1_fillAhead
  rw [h2, gd_t (inb0 (by omega)), cl0, show up2 sg c 0 0 = fil sg c (sAhead (sg a) d) 1 from up2_fil0 rfl]
  exact nloop (N := 41) (M := 1) (fun n t => L_X1_fillAhead_6 (fun (s2 : Hp) => some ((), s2)) n a (nI d) c (nI t) (fil sg c (sAhead (sg a) d) t)) (some ((), fil sg c (sAhead (sg a) d) 41))
    (fun n t h1 ht => by
      have e1 : ¬ (40 : Int32) < nI t := by
        simp (disch := omega) only [fa_lt, nI_toInt, Int32.reduceToInt]
        omega
      have e2 : mnI (nI t + nI d) 40 = nI (min (t + d) 40) := by rw [nI_add, i40, mnN (by omega) (by omega)]
      have hm : min (t + d) 40 < 41 := by omega
      have ca : fil sg c (sAhead (sg a) d) t a (min (t + d) 40) = sg a (min (t + d) 40) := fil_out (Or.inl hac)
      simp only [L_X1_fillAhead_6, if_neg e1, e2, h0, h2, inbN ht (by omega), inbN hm (by omega), gd, cond_true, nI_clamp (show t < 2 ^ 31 by omega), nI_clamp (show min (t + d) 40 < 2 ^ 31 by omega), nI_1, ca]
      rw [fil_up (F := sAhead (sg a) d) (by simp [sAhead]; omega)])
    (fun n => by
      have e1 : (40 : Int32) < nI 41 := by decide
      simp only [L_X1_fillAhead_6, if_pos e1])
    200 1 (by omega) (by omega) (by omega)
theorem fillSteps_ok {n0 L0 : Nat} (hn : 1 ≤ n0) (hn2 : n0 ≤ L0) (hL : L0 < 1000) (h0 : alen tC a = L0) (h2 : alen tC c = 41) (hac : a ≠ c) : fX1_fillSteps a (nI n0) c sg = some ((), fil sg c (sSteps (sg a) n0) 41) := by
  unfold fX1_fillSteps
  rw [h2, gd_t (inb0 (by omega)), cl0, show up2 sg c 0 0 = fil sg c (sSteps (sg a) n0) 1 from up2_fil0 rfl]
  exact nloop (N := 41) (M := 1) (fun n t => L_X1_fillSteps_6 (fun (s2 : Hp) => some ((), s2)) n a (nI n0) c (nI t) (fil sg c (sSteps (sg a) n0) t)) (some ((), fil sg c (sSteps (sg a) n0) 41))
    (fun n t h1 ht => by
      have e1 : ¬ (40 : Int32) < nI t := by
        simp (disch := omega) only [fa_lt, nI_toInt, Int32.reduceToInt]
        omega
      have e2 : mnI (nI t) (nI n0) - 1 = nI (min t n0 - 1) := by rw [mnN (by omega) (by omega), subN1 (by omega)]
      have e3 : nI t - 1 = nI (t - 1) := subN1 h1
      have ca : fil sg c (sSteps (sg a) n0) t a (min t n0 - 1) = sg a (min t n0 - 1) := fil_out (Or.inl hac)
      have cb : fil sg c (sSteps (sg a) n0) t c (t - 1) = sSteps (sg a) n0 (t - 1) := fil_in (by omega)
      simp only [L_X1_fillSteps_6, if_neg e1, e2, e3, h0, h2, inbN ht (by omega), inbN (show min t n0 - 1 < L0 by omega) (by omega), inbN (show t - 1 < 41 by omega) (by omega), gd, cond_true, nI_clamp (show t < 2 ^ 31 by omega), nI_clamp (show t - 1 < 2 ^ 31 by omega), nI_clamp (show min t n0 - 1 < 2 ^ 31 by omega), nI_1, ca, cb]
      rw [fil_up (F := sSteps (sg a) n0) (by
        obtain ⟨u, rfl⟩ : ∃ u, t = u + 1 := ⟨t - 1, by omega⟩
        rfl)])
    (fun n => by
      have e1 : (40 : Int32) < nI 41 := by decide
      simp only [L_X1_fillSteps_6, if_pos e1])
    200 1 (by omega) (by omega) (by omega)
theorem along_in {k : Nat → Nat → Nat → Int32 → Int32 → Hp → Option (Unit × Hp)} {t : Nat} (ht : t < 41) (h0 : alen tC a = 41) (h1 : alen tC b = 41) : L_X1_fillAlong_15 k 200 a b c (nI t) 99999 0 sg = k a b c (nI t) (sAlong (sg a) (sg b) t) sg :=
  nloop (N := t + 1) (M := 0) (fun n s => L_X1_fillAlong_15 k n a b c (nI t) (minU (fun s => sg a s + sg b (t - s)) 99999 s) (nI s) sg) (k a b c (nI t) (sAlong (sg a) (sg b) t) sg)
    (fun n s _ hs => by
      have e1 : ¬ nI t < nI s := by rw [ltN (by omega) (by omega)]; omega
      simp only [L_X1_fillAlong_15, if_neg e1, subN (show s ≤ t by omega), h0, h1, inbN (show s < 41 by omega) (by omega), inbN (show t - s < 41 by omega) (by omega), gd, cond_true, nI_clamp (show s < 2 ^ 31 by omega), nI_clamp (show t - s < 2 ^ 31 by omega), nI_1]
      rfl)
    (fun n => by
      have e1 : nI t < nI (t + 1) := by rw [ltN (by omega) (by omega)]; omega
      simp only [L_X1_fillAlong_15, if_pos e1]
      rfl)
    200 0 (by omega) (by omega) (by omega)
theorem minU_cong {F G : Nat → Int32} {x : Int32} : ∀ {n : Nat}, (∀ i, i < n → F i = G i) → minU F x n = minU G x n
  | 0, _ => rfl
  | n + 1, h => by
    unfold minU
    rw [minU_cong (fun i hi => h i (by omega)), h n (by omega)]
theorem maxU_cong {F G : Nat → Int32} {x : Int32} : ∀ {n : Nat}, (∀ i, i < n → F i = G i) → maxU F x n = maxU G x n
  | 0, _ => rfl
  | n + 1, h => by
    unfold maxU
    rw [maxU_cong (fun i hi => h i (by omega)), h n (by omega)]
theorem fillAlong_ok (h0 : alen tC a = 41) (h1 : alen tC b = 41) (h2 : alen tC c = 41) (hac : a ≠ c) (hbc : b ≠ c) : fX1_fillAlong a b c sg = some ((), fil sg c (sAlong (sg a) (sg b)) 41) := by
  unfold fX1_fillAlong
  have key := nloop (N := 41) (M := 0) (fun n t => L_X1_fillAlong_2 (fun (s2 : Hp) => some ((), s2)) n a b c (nI t) (fil sg c (sAlong (sg a) (sg b)) t)) (some ((), fil sg c (sAlong (sg a) (sg b)) 41))
    (fun n t _ ht => by
      have e1 : ¬ (40 : Int32) < nI t := by
        simp (disch := omega) only [fa_lt, nI_toInt, Int32.reduceToInt]
        omega
      have ca : fil sg c (sAlong (sg a) (sg b)) t a = sg a := funext fun j => fil_out (Or.inl hac)
      have cb : fil sg c (sAlong (sg a) (sg b)) t b = sg b := funext fun j => fil_out (Or.inl hbc)
      simp only [L_X1_fillAlong_2, if_neg e1]
      rw [along_in ht h0 h1]
      simp only [h2, inbN ht (by omega), gd, cond_true, nI_clamp (show t < 2 ^ 31 by omega), nI_1, ca, cb]
      rw [fil_up rfl])
    (fun n => by
      have e1 : (40 : Int32) < nI 41 := by decide
      simp only [L_X1_fillAlong_2, if_pos e1])
    200 0 (by omega) (by omega) (by omega)
  rw [fil_0] at key
  exact key
theorem out_in {k : Nat → Nat → Nat → Int32 → Int32 → Hp → Option (Unit × Hp)} {t : Nat} {x : Int32} (h9 : 1 ≤ t) (ht : t < 41) (h0 : alen tC a = 41) (h1 : alen tC b = 41) : L_X1_fillOut_22 k 200 a b c (nI t) x 0 sg = k a b c (nI t) (maxU (fun u => sg a (t + u) - sg b u) x (41 - t)) sg :=
  nloop (N := 41 - t) (M := 0) (fun n s => L_X1_fillOut_22 k n a b c (nI t) (maxU (fun u => sg a (t + u) - sg b u) x s) (nI s) sg) (k a b c (nI t) (maxU (fun u => sg a (t + u) - sg b u) x (41 - t)) sg)
    (fun n s _ hs => by
      have e0 : (40 : Int32) - nI t = nI (40 - t) := by rw [i40]; exact subN (by omega)
      have e1 : ¬ nI (40 - t) < nI s := by rw [ltN (by omega) (by omega)]; omega
      simp only [L_X1_fillOut_22, e0, if_neg e1, nI_add, h0, h1, inbN (show s < 41 by omega) (by omega), inbN (show t + s < 41 by omega) (by omega), gd, cond_true, nI_clamp (show s < 2 ^ 31 by omega), nI_clamp (show t + s < 2 ^ 31 by omega), nI_1]
      rfl)
    (fun n => by
      have e0 : (40 : Int32) - nI t = nI (40 - t) := by rw [i40]; exact subN (by omega)
      have e1 : nI (40 - t) < nI (41 - t) := by rw [ltN (by omega) (by omega)]; omega
      simp only [L_X1_fillOut_22, e0, if_pos e1])
    200 0 (by omega) (by omega) (by omega)
theorem fillOut_ok (h0 : alen tC a = 41) (h1 : alen tC b = 41) (h2 : alen tC c = 41) (hac : a ≠ c) (hbc : b ≠ c) : fX1_fillOut a b c sg = some ((), fil sg c (sOut (sg a) (sg b)) 41) := by
  unfold fX1_fillOut
  rw [h2, gd_t (inb0 (by omega)), cl0, show up2 sg c 0 0 = fil sg c (sOut (sg a) (sg b)) 1 from up2_fil0 rfl]
  exact nloop (N := 41) (M := 1) (fun n t => L_X1_fillOut_6 (fun (s2 : Hp) => some ((), s2)) n a b c (nI t) (fil sg c (sOut (sg a) (sg b)) t)) (some ((), fil sg c (sOut (sg a) (sg b)) 41))
    (fun n t h9 ht => by
      have e1 : ¬ (40 : Int32) < nI t := by
        simp (disch := omega) only [fa_lt, nI_toInt, Int32.reduceToInt]
        omega
      have ca : fil sg c (sOut (sg a) (sg b)) t a = sg a := funext fun j => fil_out (Or.inl hac)
      have cb : fil sg c (sOut (sg a) (sg b)) t b = sg b := funext fun j => fil_out (Or.inl hbc)
      have cc : fil sg c (sOut (sg a) (sg b)) t c (t - 1) = sOut (sg a) (sg b) (t - 1) := fil_in (by omega)
      have e3 : nI t - 1 = nI (t - 1) := subN1 h9
      simp only [L_X1_fillOut_6, if_neg e1, e3, h2, inbN (show t - 1 < 41 by omega) (by omega), gd, cond_true, nI_clamp (show t - 1 < 2 ^ 31 by omega), cc]
      rw [out_in h9 ht h0 h1]
      simp only [h2, inbN ht (by omega), cond_true, nI_clamp (show t < 2 ^ 31 by omega), nI_1, ca, cb]
      rw [fil_up (F := sOut (sg a) (sg b)) (by
        obtain ⟨u, rfl⟩ : ∃ u, t = u + 1 := ⟨t - 1, by omega⟩
        show _ = maxU _ _ (40 - u)
        rw [show 41 - (u + 1) = 40 - u by omega]
        rfl)])
    (fun n => by
      have e1 : (40 : Int32) < nI 41 := by decide
      simp only [L_X1_fillOut_6, if_pos e1])
    200 1 (by omega) (by omega) (by omega)
theorem isA_41 {n : Nat} (h : alen tC a = n) (hn : 0 < n) : isA tC a = true := by
  have h9 : inb 0 (alen tC a) = true := by rw [h]; exact inb0 hn
  have := isA_in h9
  unfold isA
  rw [this]
theorem fillSame_ok (h0 : alen tC a = 41) (h1 : alen tC b = 41) : fX1_fillSame a b sg = some ((), fil sg b (sg a) 41) := by
  unfold fX1_fillSame
  have e : (41 : Int32).toNatClampNeg = 41 := rfl
  have hk : cpok tC a 0 b 0 41 = true := by
    unfold cpok
    rw [isA_41 h0 (by omega), isA_41 h1 (by omega), h0, h1, cl0, e]
    decide
  rw [gd_t hk]
  refine congrArg some (congrArg (Prod.mk ()) ?_)
  funext q j
  unfold cpy upC fil va_cpy
  rw [cl0, e]
  by_cases hq : q = b
  · subst hq
    by_cases hj : j < 41
    · simp [hj]
    · simp [hj]
  · simp [hq]
theorem jfill_ok {n : Nat} {x : Int32} (h0 : alen tC a = n) (hn : 0 < n) (h9 : n < 150) : fJ7_fill_53178 a x sg = some ((), fil sg a (fun _ => x) n) := by
  unfold fJ7_fill_53178
  rw [gd_t (isA_41 h0 hn), h0]
  have key := nloop (N := n) (M := 0) (fun m t => L_J7_fill_53178_5 (fun (s2 : Hp) => some ((), s2)) m a x (nI t) (nI n) (fil sg a (fun _ => x) t)) (some ((), fil sg a (fun _ => x) n))
    (fun m t _ ht => by
      have e1 : ¬ nI n ≤ nI t := by rw [leN (by omega) (by omega)]; omega
      simp only [L_J7_fill_53178_5, if_neg e1, h0, inbN ht (by omega), gd, cond_true, nI_clamp (show t < 2 ^ 31 by omega), nI_1]
      rw [fil_up rfl])
    (fun m => by
      have e1 : nI n ≤ nI n := by rw [leN (by omega) (by omega)]; omega
      simp only [L_J7_fill_53178_5, if_pos e1])
    200 0 (by omega) (by omega) (by omega)
  rw [fil_0] at key
  exact key
end RC
