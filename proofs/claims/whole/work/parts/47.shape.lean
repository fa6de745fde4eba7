/-! what was seen, shaped; how many may come in -/
section A8
variable {sg c m : Hp} {x y z u v : Int32}
theorem shape_pre {i k : Nat} (n : Nat) (hR : Rel c m) (h0 : Rel0 c m n) (hi : i < n) (k1 : k ≤ 40) (hk : ¬ k = 0) (k2 : c 3 2 = nI k) (k3 : m 300 19 = nI k) (k4 : ∀ t, t < 41 → mr m 88 t = c 22 t) : ∃ F, okRow F ∧ (∀ (v2 v3 : Int32), B_X6_shape_47 (nI i) v2 v3 c = (if v3 = 0 then (if v2 = 0 then some (sHeap (c 22) F, fil c 23 F 41) else some (sWait (c 22) F 40, fil c 23 F 41)) else (gd (inb (v2 - 100) 41) (some (fil c 23 F 41 23 (v2 - 100).toNatClampNeg, fil c 23 F 41))))) ∧ (∀ v2 : Int32, B_X7_shape_37 (nI i) v2 m = (if v2 = 0 then some (sHeap (c 22) F, filM m 89 F 41) else if v2 = 1 then some (sWait (c 22) F 40, filM m 89 F 41) else bnd (fX7_of 89 (v2 - 100) (filM m 89 F 41)) (fun r s => some (r, s)))) ∧ Rel (fil c 23 F 41) (filM m 89 F 41) := by
  obtain ⟨h1, h2, h3, h4⟩ := h0.1
  obtain ⟨s1, s2⟩ := seen_row h0.2.2.1
  obtain ⟨r1, r2, -⟩ := h4 i hi
  have e22 : fil c 23 (sAlong (c 22) (c (100 + i))) 41 22 = c 22 := funext fun j => fil_out (by omega)
  have e23 : req (fil c 23 (sAlong (c 22) (c (100 + i))) 41 23) (sAlong (c 22) (c (100 + i))) := fun t ht => fil_in ht
  have eM := filM_cong (sg := m) (f := 89) (t := 41) (sAlong_cong k4 r2)
  have m88 : req (mr (filM m 89 (sAlong (c 22) (c (100 + i))) 41) 88) (c 22) := fun t ht => by
    rw [filM_out ht (by omega) (by omega)]; exact k4 t ht
  have m89 : req (mr (filM m 89 (sAlong (c 22) (c (100 + i))) 41) 89) (sAlong (c 22) (c (100 + i))) := fun t ht => filM_in ht (by omega) ht
  refine ⟨sAlong (c 22) (c (100 + i)), ok_along s1 r1, fun v2 v3 => ?_, fun v2 => ?_, ?_⟩
  · unfold B_X6_shape_47 fX2_shapeBy fX2_mostHeld fX2_latestOfShaped B_X6_shape_113
    rw [if_neg (by rw [k2, seen0 k1]; exact hk), row_ok (by omega), bnd_s, fillAlong_ok a22 (alC (by omega)) a23 (by omega) (by omega), bnd_s, bnd_s, heap_ok a22 a23, bnd_s, bnd_s, i40, longestWait_ok a22 a23 (by omega) (fun t ht => by rw [e22]; exact s1.2.2 t ht), bnd_s, bnd_s, e22, sHeap_cong req.rfl' e23, sWait_cong (fun _ _ => rfl) e23]
  · unfold B_X7_shape_37 B_X7_shape_100
    rw [if_neg (by rw [k3, seen0 k1]; exact hk), show (88 : Int32) = nI 88 from rfl, show (89 : Int32) = nI 89 from rfl, layAlong_ok (by omega) (by omega) (by omega) (by omega) (by omega), bnd_s, eM, heapOf_ok (by omega) (by omega), bnd_s, i40, waitOf_ok (by omega) (by omega) (by omega), bnd_s, sHeap_cong m88 m89, sWait_cong (fun t ht => m88 t (by omega)) m89]
  · refine Rel_end (eqC.fil (fun j => by unfold sC; omega)) (eqM.filM (by omega) (by omega) (by omega)) h0 ?_ ?_
    · rw [fil_out (by omega), filM_o (by omega)]; exact hR.2.1
    · rw [fil_out (by omega), filM_o (by omega)]; exact hR.2.2
theorem shape_st (h : Rel c m) : Sim (fX6_shape x y) (fX7_shape x y) c m := by
  have hR := h
  obtain ⟨⟨n, h0⟩, -⟩ := h
  obtain ⟨h1, h2, h3, h4⟩ := h0.1
  obtain ⟨k, k1, k2, k3, k4, k5, k6⟩ := h0.2.2.1
  have c100 : (100 : Int32).toInt = 100 := by decide
  have c140 : (140 : Int32).toInt = 140 := by decide
  rcases arg_cases x (n := n) (by omega) with ⟨i, hi, rfl⟩ | hx
  · by_cases hy : 0 ≤ y.toInt ∧ y.toInt ≤ 1
    · have eC : fX6_shape (nI i) y c = B_X6_shape_47 (nI i) y 0 c := by
        unfold fX6_shape B_X6_shape_30 B_X6_shape_31
        rw [has_y h2 h1 (rgN hi (by omega)), bnd_s, if_neg ne10, if_pos (by rw [fa_lt, c100]; omega), if_pos rfl, up_y hy, bnd_s, if_neg ne10]
      have eM : fX7_shape (nI i) y m = B_X7_shape_37 (nI i) y m := by
        unfold fX7_shape
        rw [noSt_y h3 h1 (rgN hi (by omega)), bnd_s, if_pos rfl, in_y (a := 0) (b := 1) hy, bnd_s, if_neg ne10]
      by_cases hk : k = 0
      · refine ⟨-3, c, m, ?_, ?_, hR⟩
        · rw [eC]
          unfold B_X6_shape_47
          rw [if_pos (by rw [k2, seen0 k1]; exact hk)]
        · rw [eM]
          unfold B_X7_shape_37
          rw [if_pos (by rw [k3, seen0 k1]; exact hk)]
      · obtain ⟨F, f1, f2, f3, f4⟩ := shape_pre n hR h0 hi k1 hk k2 k3 k4
        obtain ⟨w, hw, rfl⟩ := upN (n := 1) (by omega) hy
        rcases (show w = 0 ∨ w = 1 by omega) with rfl | rfl
        · exact ⟨sHeap (c 22) F, _, _, by rw [eC, f2, if_pos rfl, if_pos (by decide)], by rw [eM, f3, if_pos (by decide)], f4⟩
        · exact ⟨sWait (c 22) F 40, _, _, by rw [eC, f2, if_pos rfl, if_neg (by decide)], by rw [eM, f3, if_neg (by decide), if_pos (by decide)], f4⟩
    · by_cases hz : 100 ≤ y.toInt ∧ y.toInt ≤ 140
      · have eC : fX6_shape (nI i) y c = B_X6_shape_47 (nI i) y 1 c := by
          unfold fX6_shape B_X6_shape_31
          rw [has_y h2 h1 (rgN hi (by omega)), bnd_s, if_neg ne10, if_neg (by rw [fa_lt, c100]; omega), if_neg (by rw [fa_lt, c140]; omega), if_neg ne10]
        have eM : fX7_shape (nI i) y m = B_X7_shape_37 (nI i) y m := by
          unfold fX7_shape
          rw [noSt_y h3 h1 (rgN hi (by omega)), bnd_s, if_pos rfl, in_n (a := 0) (b := 1) hy, bnd_s, if_pos rfl, in_y (a := 100) (b := 140) hz, bnd_s, if_neg ne10]
        by_cases hk : k = 0
        · refine ⟨-3, c, m, ?_, ?_, hR⟩
          · rw [eC]
            unfold B_X6_shape_47
            rw [if_pos (by rw [k2, seen0 k1]; exact hk)]
          · rw [eM]
            unfold B_X7_shape_37
            rw [if_pos (by rw [k3, seen0 k1]; exact hk)]
        · obtain ⟨F, f1, f2, f3, f4⟩ := shape_pre n hR h0 hi k1 hk k2 k3 k4
          obtain ⟨q, hq, rfl⟩ : ∃ q, q ≤ 40 ∧ y = nI (100 + q) := by
            obtain ⟨w, hw, rfl⟩ := upN (n := 140) (x := y) (by omega) (by omega)
            rw [nI_toInt (by omega)] at hz
            exact ⟨w - 100, by omega, by rw [show 100 + (w - 100) = w by omega]⟩
          have e100 : nI (100 + q) - 100 = nI q := by
            rw [show (100 : Int32) = nI 100 from rfl, pk_sub (by omega), show 100 + q - 100 = q by omega]
          refine ⟨F q, _, _, ?_, ?_, f4⟩
          · rw [eC, f2, if_neg ne10, e100, gd_t (inbN (by omega) (by omega)), nI_clamp (by omega), fil_in (by omega)]
          · rw [eM, f3, if_neg (by rw [i0, eqN (by omega) (by omega)]; omega), if_neg (by rw [i1, eqN (by omega) (by omega)]; omega), e100, show (89 : Int32) = nI 89 from rfl, of_ok (by omega) (by omega), bnd_s, filM_in (by omega) (by omega) (by omega)]
      · refine ⟨-2, c, m, ?_, ?_, hR⟩
        · have e : fX6_shape (nI i) y c = B_X6_shape_31 (nI i) y 0 c := by
            unfold fX6_shape B_X6_shape_30
            rw [has_y h2 h1 (rgN hi (by omega)), bnd_s, if_neg ne10]
            by_cases ha : y < 100
            · rw [if_pos ha]
            · rw [if_neg ha, if_pos (by
                rw [fa_lt, c100] at ha
                rw [fa_lt, c140]
                omega)]
          rw [e]
          unfold B_X6_shape_31
          rw [if_pos rfl, up_n hy, bnd_s, if_pos rfl]
        · unfold fX7_shape
          rw [noSt_y h3 h1 (rgN hi (by omega)), bnd_s, if_pos rfl, in_n (a := 0) (b := 1) hy, bnd_s, if_pos rfl, in_n (a := 100) (b := 140) hz, bnd_s, if_pos rfl]
  · refine ⟨-1, c, m, ?_, ?_, hR⟩
    · unfold fX6_shape
      rw [has_n h2 h1 hx, bnd_s, if_pos rfl]
    · unfold fX7_shape
      rw [noSt_n h3 h1 hx, bnd_s, if_neg ne10]
/-! how many may come in -/
def clS (f : Nat → Int32) : Nat → Nat → Int32
  | 0 => fun _ => 0
  | n + 1 => sSum (clS f n) f
def ml (f : Nat → Int32) (n : Nat) : Nat → Int32 := fun t => mnI (nI n * f t) 99999
theorem clS_ok {f : Nat → Int32} (h : okRow f) : ∀ n, okRow (clS f n)
  | 0 => ok_zero
  | n + 1 => ok_sum (clS_ok h n) h
theorem clS_ml {f : Nat → Int32} (h : okRow f) : ∀ {n}, n ≤ 99 → req (clS f n) (ml f n)
  | 0, _ => fun t ht => by
    obtain ⟨k, hk, e⟩ := rowN h ht
    show 0 = mnI (nI 0 * f t) 99999
    rw [e, pk_mul, Nat.zero_mul]
    decide
  | n + 1, hn => fun t ht => by
    obtain ⟨k, hk, e⟩ := rowN h ht
    have h1 := Nat.mul_le_mul (show n ≤ 98 by omega) hk
    have h2 : (n + 1) * k = n * k + k := Nat.succ_mul n k
    show mnI (clS f n t + f t) 99999 = mnI (nI (n + 1) * f t) 99999
    rw [clS_ml h (n := n) (by omega) t ht]
    show mnI (mnI (nI n * f t) 99999 + f t) 99999 = mnI (nI (n + 1) * f t) 99999
    rw [e, pk_mul, pk_mul, i99, mnN (by omega) (by omega), nI_add, mnN (by omega) (by omega), mnN (by omega) (by omega), h2]
    congr 1
    omega
def ltI (f g : Nat → Int32) (z : Int32) : Nat → Nat → Int32
  | 0, _ => 99
  | j + 1, n => if sWait (clS f n) g 20 = -9 then nI n - 1 else if sWait (clS f n) g 20 ≤ z then ltI f g z j (n + 1) else nI n - 1
theorem a7 : alen tC 7 = 41 := by decide +kernel
theorem letC {f g : Nat → Int32} {i j : Nat} {z : Int32} (hi : i < 24) (hj : j < 24) (hf : okRow f) (k0 : c (100 + i) = f) (k1 : c (100 + j) = g) : ∀ (q n F : Nat) (sg : Hp), q + n = 100 → q < F → 1 ≤ n → eqC c sg → sg 0 7 = c 0 7 → sg 0 8 = c 0 8 → req (sg 7) (clS f (n - 1)) → ∃ d, L_X6_letIn_47 (fun (s18 : Hp) => some ((99 : Int32), s18)) (fun (w19_4 : Int32) (s20 : Hp) => some ((w19_4 - (1 : Int32)), s20)) F (nI i) (nI j) z (nI n) sg = some (ltI f g z q n, d) ∧ eqC c d ∧ d 0 7 = c 0 7 ∧ d 0 8 = c 0 8 := by
  intro q
  induction q with
  | zero =>
    intro n F sg h1 h2 h3 h4 h5 h6 h7
    obtain ⟨F, rfl⟩ : ∃ w, F = w + 1 := ⟨F - 1, by omega⟩
    refine ⟨sg, ?_, h4, h5, h6⟩
    rw [L_X6_letIn_47, if_pos (by rw [show (99 : Int32) = nI 99 from rfl, ltN (by omega) (by omega)]; omega)]
    rfl
  | succ q ih =>
    intro n F sg h1 h2 h3 h4 h5 h6 h7
    obtain ⟨F, rfl⟩ : ∃ w, F = w + 1 := ⟨F - 1, by omega⟩
    obtain ⟨n, rfl⟩ : ∃ w, n = w + 1 := ⟨n - 1, by omega⟩
    have e1 : sg (100 + i) = f := by rw [← k0]; exact funext fun t => h4 _ _ (by unfold sC; omega)
    have e2 : sg (100 + j) = g := by rw [← k1]; exact funext fun t => h4 _ _ (by unfold sC; omega)
    have e3 : fil sg 7 (sSum (sg 7) (sg (100 + i))) 41 = fil sg 7 (clS f (n + 1)) 41 := fil_cong (fun t ht => by
      show mnI (sg 7 t + sg (100 + i) t) 99999 = mnI (clS f n t + f t) 99999
      rw [e1, h7 t ht, show n + 1 - 1 = n by omega])
    have e4 : fil sg 7 (clS f (n + 1)) 41 (100 + j) = g := by rw [← e2]; exact funext fun t => fil_out (by omega)
    have e5 : req (fil sg 7 (clS f (n + 1)) 41 7) (clS f (n + 1)) := fun t ht => fil_in ht
    have ok1 := clS_ok hf (n + 1)
    have hq : eqC c (fil sg 7 (clS f (n + 1)) 41) := h4.t (eqC.fil (fun j => by unfold sC; omega))
    rw [L_X6_letIn_47, if_neg (by rw [show (99 : Int32) = nI 99 from rfl, ltN (by omega) (by omega)]; omega), row_ok hi, bnd_s, fillSum_ok a7 (alC hi) a7, bnd_s, e3, row_ok hj, bnd_s, i20, longestWait_ok a7 (alC hj) (by omega) (fun t ht => by rw [e5 t (by omega), e5 (t + 1) (by omega)]; exact ok1.2.2 t (by omega)), bnd_s, e4, sWait_cong (fun t ht => e5 t (by omega)) (fun _ _ => rfl)]
    unfold ltI
    by_cases w9 : sWait (clS f (n + 1)) g 20 = -9
    · rw [if_pos w9, if_pos w9]
      exact ⟨_, rfl, hq, by rw [fil_out (by omega)]; exact h5, by rw [fil_out (by omega)]; exact h6⟩
    · rw [if_neg w9, if_neg w9]
      by_cases wz : sWait (clS f (n + 1)) g 20 ≤ z
      · rw [if_pos wz, if_pos wz, nI_1]
        exact ih (n + 1 + 1) F _ (by omega) (by omega) (by omega) hq (by rw [fil_out (by omega)]; exact h5) (by rw [fil_out (by omega)]; exact h6) e5
      · rw [if_neg wz, if_neg wz]
        exact ⟨_, rfl, hq, by rw [fil_out (by omega)]; exact h5, by rw [fil_out (by omega)]; exact h6⟩
theorem letM_in {K : Int32 → Int32 → Int32 → Int32 → Hp → Option (Int32 × Hp)} {i n : Nat} {y z : Int32} (hi : i < 24) : L_X7_letIn_46 K 200 (nI i) y z (nI n) 0 sg = K (nI i) y z (nI n) (filM sg 84 (ml (mr sg i) n) 41) := by
  have := nloop (N := 41) (M := 0) (fun f t => L_X7_letIn_46 K f (nI i) y z (nI n) (nI t) (filM sg 84 (ml (mr sg i) n) t)) (K (nI i) y z (nI n) (filM sg 84 (ml (mr sg i) n) 41))
    (fun f t h1 ht => by
      rw [L_X7_letIn_46, if_neg (nlt41 ht), of_ok (by omega) ht, bnd_s, filM_out ht (by omega) (by omega), show (84 : Int32) = nI 84 from rfl, set_ok (by omega) ht, bnd_s, filM_up (F := ml (mr sg i) n) (x := mnI (nI n * mr sg i t) 99999) rfl, nI_1])
    (fun f => by
      rw [L_X7_letIn_46, if_pos p41])
    200 0 (by omega) (by omega) (by omega)
  rw [filM_0] at this
  exact this
theorem letM {f g : Nat → Int32} {i j : Nat} {z : Int32} (hi : i < 24) (hj : j < 24) (hf : okRow f) (k0 : req (mr m i) f) (k1 : req (mr m j) g) : ∀ (q n F : Nat) (sg : Hp), q + n = 100 → q < F → 1 ≤ n → eqM m sg → sg 300 24 = m 300 24 → sg 300 0 = m 300 0 → ∃ d, L_X7_letIn_36 (fun (s16 : Hp) => some ((99 : Int32), s16)) (fun (w17_4 : Int32) (s18 : Hp) => some ((w17_4 - (1 : Int32)), s18)) F (nI i) (nI j) z (nI n) sg = some (ltI f g z q n, d) ∧ eqM m d ∧ d 300 24 = m 300 24 ∧ d 300 0 = m 300 0 := by
  intro q
  induction q with
  | zero =>
    intro n F sg h1 h2 h3 h4 h5 h6
    obtain ⟨F, rfl⟩ : ∃ w, F = w + 1 := ⟨F - 1, by omega⟩
    refine ⟨sg, ?_, h4, h5, h6⟩
    rw [L_X7_letIn_36, if_pos (by rw [show (100 : Int32) = nI 100 from rfl, leN (by omega) (by omega)]; omega)]
    rfl
  | succ q ih =>
    intro n F sg h1 h2 h3 h4 h5 h6
    obtain ⟨F, rfl⟩ : ∃ w, F = w + 1 := ⟨F - 1, by omega⟩
    have e1 : req (mr sg i) f := fun t ht => (h4 303 (41 * i + t) (by unfold sM; omega)).trans (k0 t ht)
    have e2 : req (mr sg j) g := fun t ht => (h4 303 (41 * j + t) (by unfold sM; omega)).trans (k1 t ht)
    have e3 : filM sg 84 (ml (mr sg i) n) 41 = filM sg 84 (clS f n) 41 := filM_cong (fun t ht => by
      rw [clS_ml hf (by omega) t ht]
      show mnI (nI n * mr sg i t) 99999 = mnI (nI n * f t) 99999
      rw [e1 t ht])
    have e4 : req (mr (filM sg 84 (clS f n) 41) j) g := fun t ht => by
      rw [filM_out ht (by omega) (by omega)]; exact e2 t ht
    have e5 : req (mr (filM sg 84 (clS f n) 41) 84) (clS f n) := fun t ht => filM_in ht (by omega) ht
    have hq : eqM m (filM sg 84 (clS f n) 41) := h4.t (eqM.filM (by omega) (by omega) (by omega))
    rw [L_X7_letIn_36, if_neg (by rw [show (100 : Int32) = nI 100 from rfl, leN (by omega) (by omega)]; omega), letM_in hi, e3, show (84 : Int32) = nI 84 from rfl, i20, waitOf_ok (by omega) (by omega) (by omega), bnd_s, sWait_cong (fun t ht => e5 t (by omega)) e4]
    unfold ltI
    rcases sWait_cases (clS f n) g (show 20 ≤ 40 by omega) with w9 | ⟨p, hp, w9⟩
    · rw [if_pos (by rw [w9]; decide), if_pos w9]
      exact ⟨_, rfl, hq, by rw [filM_o (by omega)]; exact h5, by rw [filM_o (by omega)]; exact h6⟩
    · have q0 : ¬ sWait (clS f n) g 20 < 0 := by rw [w9]; exact nneg (by omega)
      have q9 : ¬ sWait (clS f n) g 20 = -9 := by rw [w9]; exact nn9 (by omega)
      rw [if_neg q0, if_neg q9]
      by_cases wz : sWait (clS f n) g 20 ≤ z
      · rw [if_pos wz, if_pos wz, nI_1]
        exact ih (n + 1) F _ (by omega) (by omega) (by omega) hq (by rw [filM_o (by omega)]; exact h5) (by rw [filM_o (by omega)]; exact h6)
      · rw [if_neg wz, if_neg wz]
        exact ⟨_, rfl, hq, by rw [filM_o (by omega)]; exact h5, by rw [filM_o (by omega)]; exact h6⟩
theorem letIn_st (h : Rel c m) : Sim (fX6_letIn x y z) (fX7_letIn x y z) c m := by
  have hR := h
  obtain ⟨⟨n, h0⟩, -⟩ := h
  obtain ⟨h1, h2, h3, h4⟩ := h0.1
  rcases arg_cases x (n := n) (by omega) with ⟨i, hi, rfl⟩ | hx
  · rcases arg_cases y (n := n) (by omega) with ⟨j, hj, rfl⟩ | hy
    · by_cases hz : 0 ≤ z.toInt ∧ z.toInt ≤ 40
      · obtain ⟨r1, r2, -⟩ := h4 i hi
        obtain ⟨s1, s2, -⟩ := h4 j hj
        obtain ⟨d, d1, d2, d3, d4⟩ := letC (c := c) (f := c (100 + i)) (g := c (100 + j)) (i := i) (j := j) (z := z) (by omega) (by omega) r1 rfl rfl 99 1 200 (fil c 7 (fun _ => 0) 41) (by omega) (by omega) (by omega) (eqC.fil (fun j => by unfold sC; omega)) (by rw [fil_out (by omega)]) (by rw [fil_out (by omega)]) (fun t ht => fil_in ht)
        obtain ⟨k, e1, e2, e3, e4⟩ := letM (m := m) (f := c (100 + i)) (g := c (100 + j)) (i := i) (j := j) (z := z) (by omega) (by omega) r1 r2 s2 99 1 200 m (by omega) (by omega) (by omega) eqM.r rfl rfl
        refine ⟨ltI (c (100 + i)) (c (100 + j)) z 99 1, d, k, ?_, ?_, Rel_end d2 e2 h0 ?_ ?_⟩
        · unfold fX6_letIn
          rw [has_y h2 h1 (rgN hi (by omega)), bnd_s, if_neg ne10, has_y h2 h1 (rgN hj (by omega)), bnd_s, if_neg ne10, up_y hz, bnd_s, if_neg ne10, jfill_ok a7 (by omega) (by omega), bnd_s]
          exact d1
        · unfold fX7_letIn
          rw [noSt_y h3 h1 (rgN hi (by omega)), bnd_s, if_pos rfl, noSt_y h3 h1 (rgN hj (by omega)), bnd_s, if_pos rfl, in_y (a := 0) (b := 40) hz, bnd_s, if_neg ne10]
          exact e1
        · rw [d3, e3]; exact hR.2.1
        · rw [d4, e4]; exact hR.2.2
      · refine ⟨-2, c, m, ?_, ?_, hR⟩
        · unfold fX6_letIn
          rw [has_y h2 h1 (rgN hi (by omega)), bnd_s, if_neg ne10, has_y h2 h1 (rgN hj (by omega)), bnd_s, if_neg ne10, up_n hz, bnd_s, if_pos rfl]
        · unfold fX7_letIn
          rw [noSt_y h3 h1 (rgN hi (by omega)), bnd_s, if_pos rfl, noSt_y h3 h1 (rgN hj (by omega)), bnd_s, if_pos rfl, in_n (a := 0) (b := 40) hz, bnd_s, if_pos rfl]
    · refine ⟨-1, c, m, ?_, ?_, hR⟩
      · unfold fX6_letIn B_X6_letIn_22
        rw [has_y h2 h1 (rgN hi (by omega)), bnd_s, if_neg ne10, has_n h2 h1 hy, bnd_s, if_pos rfl]
      · unfold fX7_letIn B_X7_letIn_16
        rw [noSt_y h3 h1 (rgN hi (by omega)), bnd_s, if_pos rfl, noSt_n h3 h1 hy, bnd_s, if_neg ne10]
  · refine ⟨-1, c, m, ?_, ?_, hR⟩
    · unfold fX6_letIn B_X6_letIn_22
      rw [has_n h2 h1 hx, bnd_s, if_pos rfl]
    · unfold fX7_letIn B_X7_letIn_16
      rw [noSt_n h3 h1 hx, bnd_s, if_neg ne10]
end A8
