/-! the reference's rows lie in one array, 41 places each -/
theorem mnI_le {x : Int32} {y : Int32} (h : x.toInt ≤ y.toInt) : mnI x y = x := by
  unfold mnI
  rw [if_neg]
  rw [fa_lt]
  omega
theorem mnI_i (x y : Int32) : (mnI x y).toInt = min x.toInt y.toInt := by
  unfold mnI
  by_cases h : y < x
  · rw [if_pos h]; rw [fa_lt] at h; omega
  · rw [if_neg h]; rw [fa_lt] at h; omega
theorem mxI_i (x y : Int32) : (mxI x y).toInt = max x.toInt y.toInt := by
  unfold mxI
  by_cases h : x < y
  · rw [if_pos h]; rw [fa_lt] at h; omega
  · rw [if_neg h]; rw [fa_lt] at h; omega
abbrev rg (x : Int32) (a b : Int) : Prop := a ≤ x.toInt ∧ x.toInt ≤ b
theorem in_ok {a b c : Int64} {sg : Hp} : fX7_in a b c sg = some (if b.toInt ≤ a.toInt ∧ a.toInt ≤ c.toInt then 1 else 0, sg) := by
  unfold fX7_in B_X7_in_17 B_X7_in_18
  simp only [lg_cmp_lt, lg_cmp_gt, fa_lt64]
  by_cases h1 : a.toInt < b.toInt
  · rw [if_pos h1, if_neg (by omega)]; rfl
  · rw [if_neg h1]
    by_cases h2 : c.toInt < a.toInt
    · rw [if_pos h2, if_neg (by omega)]; rfl
    · rw [if_neg h2, if_pos (by omega)]; rfl
theorem lesser_ok {x y : Int32} {sg : Hp} : fX7_lesser x y sg = some (mnI x y, sg) := by
  unfold fX7_lesser B_X7_lesser_10 mnI
  by_cases h : y ≤ x
  · rw [if_pos h]
    by_cases h2 : y < x
    · rw [if_pos h2]
    · rw [if_neg h2]
      have : x = y := by rw [fa_eq]; rw [fa_le] at h; rw [fa_lt] at h2; omega
      rw [this]
  · rw [if_neg h, if_neg]
    rw [fa_le] at h
    rw [fa_lt]
    omega
theorem greater_ok {x y : Int32} {sg : Hp} : fX7_greater x y sg = some (mxI x y, sg) := by
  unfold fX7_greater B_X7_greater_10 mxI
  by_cases h : x ≤ y
  · rw [if_pos h]
    by_cases h2 : x < y
    · rw [if_pos h2]
    · rw [if_neg h2]
      have : x = y := by rw [fa_eq]; rw [fa_le] at h; rw [fa_lt] at h2; omega
      rw [this]
  · rw [if_neg h, if_neg]
    rw [fa_le] at h
    rw [fa_lt]
    omega
def mr (sg : Hp) (f : Nat) : Nat → Int32 := fun t => sg 303 (41 * f + t)
def filM (sg : Hp) (f : Nat) (F : Nat → Int32) (t : Nat) : Hp := fun b j => if b = 303 ∧ 41 * f ≤ j ∧ j < 41 * f + t then F (j - 41 * f) else sg b j
theorem filM_0 {sg : Hp} {f : Nat} {F : Nat → Int32} : filM sg f F 0 = sg := by
  funext b j
  unfold filM
  rw [if_neg]
  omega
theorem filM_up {sg : Hp} {f : Nat} {F : Nat → Int32} {t : Nat} {x : Int32} (h : x = F t) : up2 (filM sg f F t) 303 (41 * f + t) x = filM sg f F (t + 1) := by
  funext b j
  rw [up2_at]
  unfold filM
  by_cases hb : b = 303
  · by_cases hj : j = 41 * f + t
    · rw [if_pos ⟨hb, hj⟩, if_pos (by omega), h, hj, show 41 * f + t - 41 * f = t by omega]
    · rw [if_neg (by omega)]
      by_cases h1 : 41 * f ≤ j ∧ j < 41 * f + t
      · rw [if_pos (by omega), if_pos (by omega)]
      · rw [if_neg (by omega), if_neg (by omega)]
  · rw [if_neg (by omega), if_neg (by omega), if_neg (by omega)]
theorem filM_mr {sg : Hp} {f g : Nat} {F : Nat → Int32} {n t : Nat} (ht : t < 41) (hn : n ≤ 41) : mr (filM sg f F n) g t = if g = f ∧ t < n then F t else mr sg g t := by
  unfold mr filM
  by_cases h : g = f ∧ t < n
  · obtain ⟨rfl, h2⟩ := h
    rw [if_pos (by omega), if_pos ⟨rfl, h2⟩, show 41 * g + t - 41 * g = t by omega]
  · rw [if_neg h, if_neg]
    omega
theorem filM_in {sg : Hp} {f : Nat} {F : Nat → Int32} {n t : Nat} (ht : t < 41) (hn : n ≤ 41) (h : t < n) : mr (filM sg f F n) f t = F t := by rw [filM_mr ht hn, if_pos ⟨rfl, h⟩]
theorem filM_out {sg : Hp} {f g : Nat} {F : Nat → Int32} {n t : Nat} (ht : t < 41) (hn : n ≤ 41) (h : g ≠ f ∨ n ≤ t) : mr (filM sg f F n) g t = mr sg g t := by
  rw [filM_mr ht hn, if_neg]
  omega
theorem filM_o {sg : Hp} {f b : Nat} {F : Nat → Int32} {n : Nat} (h : b ≠ 303) : filM sg f F n b = sg b := by
  funext j
  unfold filM
  rw [if_neg]
  omega
theorem i41 : (41 : Int32) = nI 41 := rfl
theorem ix41 {f t : Nat} : (41 : Int32) * nI f + nI t = nI (41 * f + t) := by rw [i41, pk_mul, nI_add]
theorem of_ok {f t : Nat} {sg : Hp} (hf : f < 90) (ht : t < 41) : fX7_of (nI f) (nI t) sg = some (mr sg f t, sg) := by
  unfold fX7_of
  rw [ix41, gd_t (inbN (by omega) (by omega)), nI_clamp (by omega)]
  rfl
theorem set_ok {f t : Nat} {x : Int32} {sg : Hp} (hf : f < 90) (ht : t < 41) : fX7_set (nI f) (nI t) x.toInt64 sg = some ((), up2 sg 303 (41 * f + t) (mnI x 99999)) := by
  unfold fX7_set B_X7_set_25
  have e : (99999 : Int64) = (99999 : Int32).toInt64 := by decide
  rw [ix41]
  simp only [lg_cmp_le, e, fa_wide_le, gd_t (inbN (show 41 * f + t < 3690 by omega) (by omega)), nI_clamp (show 41 * f + t < 2 ^ 31 by omega)]
  unfold mnI
  by_cases h : x ≤ 99999
  · rw [if_pos h, if_neg (by rw [fa_le] at h; rw [fa_lt]; omega), lg_l2i_i2l]
  · rw [if_neg h, if_pos (by rw [fa_le] at h; rw [fa_lt]; omega)]
theorem z64 : (0 : Int64) = (0 : Int32).toInt64 := by decide
theorem mn0 : mnI 0 99999 = 0 := by decide
section RM
variable {f g to : Nat} {sg : Hp}
theorem nlt41 {t : Nat} (ht : t < 41) : ¬ (41 : Int32) ≤ nI t := by
  rw [i41, leN (by omega) (by omega)]
  omega
theorem p41 : (41 : Int32) ≤ nI 41 := by decide
theorem layBucket_ok {x r : Int32} (hto : to < 90) : fX7_layBucket (nI to) x r sg = some ((), filM sg to (sBucket x r) 41) := by
  unfold fX7_layBucket
  have key := nloop (N := 41) (M := 0) (fun n t => L_X7_layBucket_3 (fun (s2 : Hp) => some ((), s2)) n (nI to) x r (nI t) (filM sg to (sBucket x r) t)) (some ((), filM sg to (sBucket x r) 41))
    (fun n t _ ht => by
      simp only [L_X7_layBucket_3, if_neg (nlt41 ht), B_X7_layBucket_30]
      by_cases h : t = 0
      · subst h
        rw [if_pos (by first | trivial | rfl | decide), z64, set_ok hto ht, bnd_s, nI_1, filM_up (F := sBucket x r) (by rw [mn0]; rfl)]
      · rw [if_neg (by rw [i0, eqN (by omega) (by omega)]; exact h), set_ok hto ht, bnd_s, nI_1, filM_up (F := sBucket x r) (by simp [sBucket, h])])
    (fun n => by simp only [L_X7_layBucket_3, if_pos p41])
    200 0 (by omega) (by omega) (by omega)
  rw [filM_0] at key
  exact key
theorem late_small {l t r : Nat} (hr : r ≤ 999) (ht : t < 41) (h : l ≤ t) : nI r * (nI t - nI l) = nI (r * (t - l)) ∧ r * (t - l) ≤ 39960 := by
  refine ⟨by rw [pk_sub h, pk_mul], ?_⟩
  have h1 : t - l ≤ 40 := by omega
  have := Nat.mul_le_mul hr h1
  omega
theorem i99 : (99999 : Int32) = nI 99999 := rfl
theorem mnI_small {n : Nat} (h : n ≤ 99999) : mnI (nI n) 99999 = nI n := by
  rw [i99, mnN (by omega) (by omega), Nat.min_eq_left h]
theorem layLate_ok {l r : Nat} (hto : to < 90) (hl : l ≤ 40) (hr : r ≤ 999) : fX7_layLate (nI to) (nI l) (nI r) sg = some ((), filM sg to (sLate l (nI r)) 41) := by
  unfold fX7_layLate
  have key := nloop (N := 41) (M := 0) (fun n t => L_X7_layLate_3 (fun (s2 : Hp) => some ((), s2)) n (nI to) (nI l) (nI r) (nI t) (filM sg to (sLate l (nI r)) t)) (some ((), filM sg to (sLate l (nI r)) 41))
    (fun n t _ ht => by
      simp only [L_X7_layLate_3, if_neg (nlt41 ht), B_X7_layLate_31]
      by_cases h : l ≤ t
      · obtain ⟨e1, e2⟩ := late_small hr ht h
        rw [if_pos (by rw [leN (by omega) (by omega)]; exact h), set_ok hto ht, bnd_s, nI_1, filM_up (F := sLate l (nI r)) (by
          unfold sLate
          by_cases h3 : t ≤ l
          · have : t = l := by omega
            subst this
            rw [if_pos h3, e1, Nat.sub_self, Nat.mul_zero]
            rfl
          · rw [if_neg h3, e1, mnI_small (by omega)])]
      · rw [if_neg (by rw [leN (by omega) (by omega)]; exact h), z64, set_ok hto ht, bnd_s, nI_1, filM_up (F := sLate l (nI r)) (by rw [mn0]; simp [sLate]; omega)])
    (fun n => by simp only [L_X7_layLate_3, if_pos p41])
    200 0 (by omega) (by omega) (by omega)
  rw [filM_0] at key
  exact key
theorem layZero_ok (hto : to < 90) : fX7_layZero (nI to) sg = some ((), filM sg to (fun _ => 0) 41) := by
  unfold fX7_layZero
  have key := nloop (N := 41) (M := 0) (fun n t => L_X7_layZero_2 (fun (s2 : Hp) => some ((), s2)) n (nI to) (nI t) (filM sg to (fun _ => 0) t)) (some ((), filM sg to (fun _ => 0) 41))
    (fun n t _ ht => by
      simp only [L_X7_layZero_2, if_neg (nlt41 ht)]
      rw [z64, set_ok hto ht, bnd_s, nI_1, filM_up (F := fun _ => 0) (by rw [mn0])])
    (fun n => by simp only [L_X7_layZero_2, if_pos p41])
    200 0 (by omega) (by omega) (by omega)
  rw [filM_0] at key
  exact key
/-- a row of numbers 0 .. 99999 -/
def rowB (f : Nat → Int32) : Prop := ∀ t, t < 41 → 0 ≤ (f t).toInt ∧ (f t).toInt ≤ 99999
theorem ti99 : (99999 : Int32).toInt = 99999 := by decide
theorem ti0 : (0 : Int32).toInt = 0 := by decide
theorem laySum_ok (hf : f < 90) (hg : g < 90) (hto : to < 90) : fX7_layBoth 1 (nI f) (nI g) (nI to) sg = some ((), filM sg to (sSum (mr sg f) (mr sg g)) 41) := by
  unfold fX7_layBoth
  have key := nloop (N := 41) (M := 0) (fun n t => L_X7_layBoth_6 (fun (s2 : Hp) => some ((), s2)) n 1 (nI f) (nI g) (nI to) 0 (nI t) (filM sg to (sSum (mr sg f) (mr sg g)) t)) (some ((), filM sg to (sSum (mr sg f) (mr sg g)) 41))
    (fun n t _ ht => by
      simp only [L_X7_layBoth_6, if_neg (nlt41 ht), B_X7_layBoth_64, B_X7_layBoth_176]
      rw [if_neg (by decide), if_neg (by decide), of_ok hf ht, bnd_s, of_ok hg ht, bnd_s, set_ok hto ht, bnd_s, nI_1, filM_out ht (by omega) (Or.inr (Nat.le_refl t)), filM_out ht (by omega) (Or.inr (Nat.le_refl t)), filM_up (F := sSum (mr sg f) (mr sg g)) (x := mnI (mr sg f t + mr sg g t) 99999) rfl])
    (fun n => by simp only [L_X7_layBoth_6, if_pos p41])
    200 0 (by omega) (by omega) (by omega)
  rw [filM_0] at key
  exact key
theorem layLeast_ok (hf : f < 90) (hg : g < 90) (hto : to < 90) (hb : rowB (mr sg f)) : fX7_layBoth 0 (nI f) (nI g) (nI to) sg = some ((), filM sg to (sLeast (mr sg f) (mr sg g)) 41) := by
  unfold fX7_layBoth
  have key := nloop (N := 41) (M := 0) (fun n t => L_X7_layBoth_6 (fun (s2 : Hp) => some ((), s2)) n 0 (nI f) (nI g) (nI to) 0 (nI t) (filM sg to (sLeast (mr sg f) (mr sg g)) t)) (some ((), filM sg to (sLeast (mr sg f) (mr sg g)) 41))
    (fun n t _ ht => by
      simp only [L_X7_layBoth_6, if_neg (nlt41 ht), B_X7_layBoth_64, B_X7_layBoth_176]
      have hm : mnI (mnI (mr sg f t) (mr sg g t)) 99999 = mnI (mr sg f t) (mr sg g t) := mnI_le (by
        have h1 := hb t ht
        rw [mnI_i, ti99]
        omega)
      rw [if_neg (by decide), if_pos (by first | trivial | rfl | decide), of_ok hf ht, bnd_s, of_ok hg ht, bnd_s, lesser_ok, bnd_s, set_ok hto ht, bnd_s, nI_1, filM_out ht (by omega) (Or.inr (Nat.le_refl t)), filM_out ht (by omega) (Or.inr (Nat.le_refl t)), filM_up (F := sLeast (mr sg f) (mr sg g)) hm])
    (fun n => by simp only [L_X7_layBoth_6, if_pos p41])
    200 0 (by omega) (by omega) (by omega)
  rw [filM_0] at key
  exact key
theorem mnI_asc (x y z : Int32) : mnI (mnI x y) z = mnI (mnI x z) y := by
  rw [fa_eq, mnI_i, mnI_i, mnI_i, mnI_i]
  omega
theorem mnI_com (x y : Int32) : mnI x y = mnI y x := by
  rw [fa_eq, mnI_i, mnI_i]
  omega
/-- the least of the first n and one more, from the first on -/
def minV (F : Nat → Int32) : Nat → Int32
  | 0 => F 0
  | n + 1 => mnI (minV F n) (F (n + 1))
theorem minV_U (F : Nat → Int32) (x : Int32) : ∀ n, mnI (minV F n) x = minU F x (n + 1)
  | 0 => by
    show mnI (F 0) x = mnI x (F 0)
    exact mnI_com _ _
  | n + 1 => by
    show mnI (mnI (minV F n) (F (n + 1))) x = mnI (minU F x (n + 1)) (F (n + 1))
    rw [mnI_asc, minV_U F x n]
theorem minV_cong {F G : Nat → Int32} : ∀ {n : Nat}, (∀ i, i ≤ n → F i = G i) → minV F n = minV G n
  | 0, h => h 0 (by omega)
  | n + 1, h => by
    unfold minV
    rw [minV_cong (fun i hi => h i (by omega)), h (n + 1) (by omega)]
theorem alongAt_ok {t : Nat} (hf : f < 90) (hg : g < 90) (ht : t < 41) : fX7_alongAt (nI f) (nI g) (nI t) sg = some (minV (fun s => mr sg f s + mr sg g (t - s)) t, sg) := by
  unfold fX7_alongAt
  rw [i0, of_ok hf (by omega), bnd_s, of_ok hg ht, bnd_s]
  have key := nloop (N := t + 1) (M := 1) (fun n s => L_X7_alongAt_18 (fun (w : Int32) (s2 : Hp) => some (w, s2)) n (nI f) (nI g) (nI t) (minV (fun s => mr sg f s + mr sg g (t - s)) (s - 1)) (nI s) sg) (some (minV (fun s => mr sg f s + mr sg g (t - s)) t, sg))
    (fun n s h1 hs => by
      simp only [L_X7_alongAt_18]
      rw [if_neg (by rw [ltN (by omega) (by omega)]; omega), of_ok hf (by omega), bnd_s, pk_sub (by omega), of_ok hg (by omega), bnd_s, lesser_ok, bnd_s, nI_1]
      obtain ⟨u, rfl⟩ : ∃ u, s = u + 1 := ⟨s - 1, by omega⟩
      rfl)
    (fun n => by
      simp only [L_X7_alongAt_18]
      rw [if_pos (by rw [ltN (by omega) (by omega)]; omega)]
      rfl)
    200 1 (by omega) (by omega) (by omega)
  exact key
theorem layAlong_ok (hf : f < 90) (hg : g < 90) (hto : to < 90) (hft : f ≠ to) (hgt : g ≠ to) : fX7_layBoth 2 (nI f) (nI g) (nI to) sg = some ((), filM sg to (sAlong (mr sg f) (mr sg g)) 41) := by
  unfold fX7_layBoth
  have key := nloop (N := 41) (M := 0) (fun n t => L_X7_layBoth_6 (fun (s2 : Hp) => some ((), s2)) n 2 (nI f) (nI g) (nI to) 0 (nI t) (filM sg to (sAlong (mr sg f) (mr sg g)) t)) (some ((), filM sg to (sAlong (mr sg f) (mr sg g)) 41))
    (fun n t _ ht => by
      simp only [L_X7_layBoth_6, if_neg (nlt41 ht), B_X7_layBoth_176]
      rw [if_pos (by decide), if_pos (by first | trivial | rfl | decide), alongAt_ok hf hg ht, bnd_s, set_ok hto ht, bnd_s, nI_1, minV_U, filM_up (F := sAlong (mr sg f) (mr sg g))]
      refine minU_cong (fun i hi => ?_)
      rw [filM_out (by omega) (by omega) (Or.inl hft), filM_out (by omega) (by omega) (Or.inl hgt)])
    (fun n => by simp only [L_X7_layBoth_6, if_pos p41])
    200 0 (by omega) (by omega) (by omega)
  rw [filM_0] at key
  exact key
theorem outAt_ok {t : Nat} (hf : f < 90) (hg : g < 90) (ht : t < 41) : fX7_outAt (nI f) (nI g) (nI t) sg = some (maxU (fun u => mr sg f (t + u) - mr sg g u) 0 (41 - t), sg) := by
  unfold fX7_outAt
  exact nloop (N := 41 - t) (M := 0) (fun n s => L_X7_outAt_6 (fun (w : Int32) (s2 : Hp) => some (w, s2)) n (nI f) (nI g) (nI t) (maxU (fun u => mr sg f (t + u) - mr sg g u) 0 s) (nI s) sg) (some (maxU (fun u => mr sg f (t + u) - mr sg g u) 0 (41 - t), sg))
    (fun n s h1 hs => by
      have e0 : (40 : Int32) - nI t = nI (40 - t) := by rw [i40]; exact subN (by omega)
      simp only [L_X7_outAt_6, e0]
      rw [if_neg (by rw [ltN (by omega) (by omega)]; omega), nI_add, of_ok hf (by omega), bnd_s, of_ok hg (by omega), bnd_s, greater_ok, bnd_s, nI_1]
      rfl)
    (fun n => by
      have e0 : (40 : Int32) - nI t = nI (40 - t) := by rw [i40]; exact subN (by omega)
      simp only [L_X7_outAt_6, e0]
      rw [if_pos (by rw [ltN (by omega) (by omega)]; omega)])
    200 0 (by omega) (by omega) (by omega)
theorem mxI_asc (x y z : Int32) : mxI x (mxI y z) = mxI (mxI x y) z := by
  rw [fa_eq, mxI_i, mxI_i, mxI_i, mxI_i]
  omega
theorem maxU_mx (F : Nat → Int32) (x y : Int32) : ∀ n, mxI x (maxU F y n) = maxU F (mxI x y) n
  | 0 => rfl
  | n + 1 => by
    show mxI x (mxI (maxU F y n) (F n)) = mxI (maxU F (mxI x y) n) (F n)
    rw [mxI_asc, maxU_mx F x y n]
theorem maxU_ge (F : Nat → Int32) (x : Int32) : ∀ n, x.toInt ≤ (maxU F x n).toInt
  | 0 => Int.le_refl _
  | n + 1 => by
    have := maxU_ge F x n
    show _ ≤ (mxI _ _).toInt
    rw [mxI_i]
    omega
theorem maxU_le {F : Nat → Int32} {x : Int32} {B : Int} (hx : x.toInt ≤ B) : ∀ {n}, (∀ i, i < n → (F i).toInt ≤ B) → (maxU F x n).toInt ≤ B
  | 0, _ => hx
  | n + 1, h => by
    have h1 := maxU_le hx (n := n) (fun i hi => h i (by omega))
    have h2 := h n (by omega)
    show (mxI _ _).toInt ≤ B
    rw [mxI_i]
    omega
theorem sub_i {x y : Int32} (hx : 0 ≤ x.toInt ∧ x.toInt ≤ 99999) (hy : 0 ≤ y.toInt ∧ y.toInt ≤ 99999) : (x - y).toInt = x.toInt - y.toInt := fb_subI (by omega) (by omega)
theorem sOut_ge (f g : Nat → Int32) : ∀ t, 0 ≤ (sOut f g t).toInt
  | 0 => by
    show 0 ≤ (0 : Int32).toInt
    decide
  | t + 1 => by
    have h1 := sOut_ge f g t
    have h2 := maxU_ge (fun u => f (t + 1 + u) - g u) (sOut f g t) (40 - t)
    show 0 ≤ (maxU _ _ _).toInt
    omega
theorem sOut_le {f g : Nat → Int32} (hf : rowB f) (hg : rowB g) : ∀ t, t < 41 → (sOut f g t).toInt ≤ 99999
  | 0, _ => by
    show (0 : Int32).toInt ≤ 99999
    decide
  | t + 1, ht => by
    have h1 := sOut_le hf hg t (by omega)
    refine maxU_le h1 (fun i hi => ?_)
    have a := hf (t + 1 + i) (by omega)
    have b := hg i (by omega)
    rw [sub_i a b]
    omega
theorem layOut_ok (hf : f < 90) (hg : g < 90) (hto : to < 90) (hft : f ≠ to) (hgt : g ≠ to) (bf : rowB (mr sg f)) (bg : rowB (mr sg g)) : fX7_layBoth 3 (nI f) (nI g) (nI to) sg = some ((), filM sg to (sOut (mr sg f) (mr sg g)) 41) := by
  unfold fX7_layBoth
  have key := nloop (N := 41) (M := 0) (fun n t => L_X7_layBoth_6 (fun (s2 : Hp) => some ((), s2)) n 3 (nI f) (nI g) (nI to) (sOut (mr sg f) (mr sg g) (t - 1)) (nI t) (filM sg to (sOut (mr sg f) (mr sg g)) t)) (some ((), filM sg to (sOut (mr sg f) (mr sg g)) 41))
    (fun n t _ ht => by
      simp only [L_X7_layBoth_6, if_neg (nlt41 ht), B_X7_layBoth_176, B_X7_layBoth_128, B_X7_layBoth_152, B_X7_layBoth_155, B_X7_layBoth_172, B_X7_layBoth_174]
      rw [if_pos (by decide), if_neg (by decide), if_pos (by first | trivial | rfl | decide), outAt_ok hf hg ht, bnd_s, greater_ok, bnd_s, if_pos (by first | trivial | rfl | decide)]
      by_cases h : t = 0
      · subst h
        rw [if_pos (by first | trivial | rfl | decide), z64, set_ok hto ht, bnd_s, nI_1, filM_up (F := sOut (mr sg f) (mr sg g)) (by rw [mn0]; rfl), if_pos (by first | trivial | rfl | decide), if_pos (by first | trivial | rfl | decide)]
        rfl
      · have hne : ¬ nI t = 0 := by rw [i0, eqN (by omega) (by omega)]; exact h
        obtain ⟨u, rfl⟩ : ∃ u, t = u + 1 := ⟨t - 1, by omega⟩
        have ev : mxI (sOut (mr sg f) (mr sg g) (u + 1 - 1)) (maxU (fun v => mr (filM sg to (sOut (mr sg f) (mr sg g)) (u + 1)) f (u + 1 + v) - mr (filM sg to (sOut (mr sg f) (mr sg g)) (u + 1)) g v) 0 (41 - (u + 1))) = sOut (mr sg f) (mr sg g) (u + 1) := by
          rw [maxU_mx]
          have e0 : mxI (sOut (mr sg f) (mr sg g) (u + 1 - 1)) 0 = sOut (mr sg f) (mr sg g) u := by
            rw [fa_eq, mxI_i, ti0]
            have := sOut_ge (mr sg f) (mr sg g) u
            show max (sOut (mr sg f) (mr sg g) u).toInt 0 = _
            omega
          rw [e0]
          show _ = maxU _ _ (40 - u)
          rw [show 41 - (u + 1) = 40 - u by omega]
          refine maxU_cong (fun i hi => ?_)
          rw [filM_out (by omega) (by omega) (Or.inl hft), filM_out (by omega) (by omega) (Or.inl hgt)]
        rw [if_neg hne, ev, set_ok hto ht, bnd_s, nI_1, mnI_le (by rw [ti99]; exact sOut_le bf bg _ ht), filM_up (F := sOut (mr sg f) (mr sg g)) rfl, if_pos (by first | trivial | rfl | decide), if_neg hne]
        rfl)
    (fun n => by simp only [L_X7_layBoth_6, if_pos p41])
    200 0 (by omega) (by omega) (by omega)
  rw [filM_0] at key
  exact key
theorem layLeft_ok (hf : f < 90) (hg : g < 90) (hto : to < 90) (bf : rowB (mr sg f)) (bg : rowB (mr sg g)) : fX7_layBoth 4 (nI f) (nI g) (nI to) sg = some ((), filM sg to (sLeft (mr sg f) (mr sg g)) 41) := by
  unfold fX7_layBoth
  have key := nloop (N := 41) (M := 0) (fun n t => L_X7_layBoth_6 (fun (s2 : Hp) => some ((), s2)) n 4 (nI f) (nI g) (nI to) (maxU (fun s => mr sg f s - mr sg g s) 0 t) (nI t) (filM sg to (sLeft (mr sg f) (mr sg g)) t)) (some ((), filM sg to (sLeft (mr sg f) (mr sg g)) 41))
    (fun n t _ ht => by
      simp only [L_X7_layBoth_6, if_neg (nlt41 ht), B_X7_layBoth_176, B_X7_layBoth_128, B_X7_layBoth_152, B_X7_layBoth_155, B_X7_layBoth_172, B_X7_layBoth_174]
      have hle : (maxU (fun s => mr sg f s - mr sg g s) 0 (t + 1)).toInt ≤ 99999 := maxU_le (by decide) (fun i hi => by
        have a := bf i (by omega)
        have b := bg i (by omega)
        rw [sub_i a b]
        omega)
      rw [if_pos (by decide), if_neg (by decide), if_neg (by decide), of_ok hf ht, bnd_s, of_ok hg ht, bnd_s, greater_ok, bnd_s, if_neg (by decide), set_ok hto ht, bnd_s, nI_1, if_neg (by decide), filM_out ht (by omega) (Or.inr (Nat.le_refl t)), filM_out ht (by omega) (Or.inr (Nat.le_refl t))]
      rw [show mxI (maxU (fun s => mr sg f s - mr sg g s) 0 t) (mr sg f t - mr sg g t) = maxU (fun s => mr sg f s - mr sg g s) 0 (t + 1) from rfl, mnI_le (by rw [ti99]; exact hle), filM_up (F := sLeft (mr sg f) (mr sg g)) (x := maxU (fun s => mr sg f s - mr sg g s) 0 (t + 1)) rfl])
    (fun n => by simp only [L_X7_layBoth_6, if_pos p41])
    200 0 (by omega) (by omega) (by omega)
  rw [filM_0] at key
  exact key
theorem layBack_ok {d : Nat} (hd : d ≤ 40) (hf : f < 90) (hto : to < 90) (hft : f ≠ to) (bf : rowB (mr sg f)) : fX7_layMoved 0 (nI f) (nI d) (nI to) sg = some ((), filM sg to (sBack (mr sg f) d) 41) := by
  unfold fX7_layMoved
  have key := nloop (N := 41) (M := 0) (fun n t => L_X7_layMoved_3 (fun (s2 : Hp) => some ((), s2)) n 0 (nI f) (nI d) (nI to) (nI t) (filM sg to (sBack (mr sg f) d) t)) (some ((), filM sg to (sBack (mr sg f) d) 41))
    (fun n t _ ht => by
      simp only [L_X7_layMoved_3, if_neg (nlt41 ht), B_X7_layMoved_38, B_X7_layMoved_86]
      rw [if_pos (by first | trivial | rfl | decide)]
      by_cases h : d ≤ t
      · rw [if_pos (by rw [leN (by omega) (by omega)]; exact h), if_pos (by first | trivial | rfl | decide), if_pos (by first | trivial | rfl | decide), pk_sub h, of_ok hf (by omega), bnd_s, set_ok hto ht, bnd_s, nI_1, filM_out (by omega) (by omega) (Or.inl hft), mnI_le (by rw [ti99]; exact (bf _ (by omega)).2), filM_up (F := sBack (mr sg f) d) (by simp [sBack]; omega)]
      · rw [if_neg (by rw [leN (by omega) (by omega)]; exact h), if_neg (by decide), z64, set_ok hto ht, bnd_s, nI_1, filM_up (F := sBack (mr sg f) d) (by rw [mn0]; simp [sBack]; omega)])
    (fun n => by simp only [L_X7_layMoved_3, if_pos p41])
    200 0 (by omega) (by omega) (by omega)
  rw [filM_0] at key
  exact key
theorem layAhead_ok {d : Nat} (hd : d ≤ 40) (hf : f < 90) (hto : to < 90) (hft : f ≠ to) (bf : rowB (mr sg f)) : fX7_layMoved 1 (nI f) (nI d) (nI to) sg = some ((), filM sg to (sAhead (mr sg f) d) 41) := by
  unfold fX7_layMoved
  have key := nloop (N := 41) (M := 0) (fun n t => L_X7_layMoved_3 (fun (s2 : Hp) => some ((), s2)) n 1 (nI f) (nI d) (nI to) (nI t) (filM sg to (sAhead (mr sg f) d) t)) (some ((), filM sg to (sAhead (mr sg f) d) 41))
    (fun n t _ ht => by
      simp only [L_X7_layMoved_3, if_neg (nlt41 ht), B_X7_layMoved_38, B_X7_layMoved_86]
      rw [if_neg (by decide)]
      by_cases h : t = 0
      · subst h
        rw [if_pos (by first | trivial | rfl | decide), if_neg (by decide), z64, set_ok hto ht, bnd_s, nI_1, filM_up (F := sAhead (mr sg f) d) (by rw [mn0]; rfl)]
      · have hne : ¬ nI t = 0 := by rw [i0, eqN (by omega) (by omega)]; exact h
        have e2 : mnI 40 (nI t + nI d) = nI (min (t + d) 40) := by rw [mnI_com, nI_add, i40, mnN (by omega) (by omega)]
        rw [if_neg hne, if_pos (by first | trivial | rfl | decide), if_neg (by decide), lesser_ok, bnd_s, e2, of_ok hf (by omega), bnd_s, set_ok hto ht, bnd_s, nI_1, filM_out (by omega) (by omega) (Or.inl hft), mnI_le (by rw [ti99]; exact (bf _ (by omega)).2), filM_up (F := sAhead (mr sg f) d) (by simp [sAhead, h])])
    (fun n => by simp only [L_X7_layMoved_3, if_pos p41])
    200 0 (by omega) (by omega) (by omega)
  rw [filM_0] at key
  exact key
theorem heapOf_ok (hf : f < 90) (hg : g < 90) : fX7_heapOf (nI f) (nI g) sg = some (sHeap (mr sg f) (mr sg g), sg) := by
  unfold fX7_heapOf
  exact nloop (N := 41) (M := 0) (fun n t => L_X7_heapOf_5 (fun (w : Int32) (s2 : Hp) => some (w, s2)) n (nI f) (nI g) (maxU (fun s => mr sg f s - mr sg g s) 0 t) (nI t) sg) (some (sHeap (mr sg f) (mr sg g), sg))
    (fun n t _ ht => by
      simp only [L_X7_heapOf_5, if_neg (nlt41 ht)]
      rw [of_ok hf ht, bnd_s, of_ok hg ht, bnd_s, greater_ok, bnd_s, nI_1]
      rfl)
    (fun n => by
      simp only [L_X7_heapOf_5, if_pos p41]
      rfl)
    200 0 (by omega) (by omega) (by omega)
end RM
