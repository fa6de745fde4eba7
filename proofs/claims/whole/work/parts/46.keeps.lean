/-! what was seen: whether it keeps a stair, its burst, its shape -/
section A7
variable {sg c m : Hp} {x y z u v : Int32}
theorem seen_row (h : RSe c m) : okRow (c 22) ∧ ∀ t, t < 41 → (c 22 t).toInt ≤ 999 * t := by
  obtain ⟨k, h1, h2, h3, h4, h5, h6⟩ := h
  have key : ∀ t, t < 41 → 0 ≤ (c 22 t).toInt ∧ (c 22 t).toInt ≤ 999 * t := by
    intro t
    induction t with
    | zero =>
      intro _
      rw [h5, ti0]
      omega
    | succ t ih =>
      intro ht
      have := ih (by omega)
      have := h6 t (by omega)
      omega
  refine ⟨⟨h5, fun t ht => ?_, fun t ht => ?_⟩, fun t ht => (key t ht).2⟩
  · have := key t ht
    omega
  · have := h6 t ht
    omega
theorem seen0 {k : Nat} (hk : k ≤ 40) : (nI k = 0) = (k = 0) := by
  rw [i0, eqN (by omega) (by omega)]
theorem brk_v {f g : Nat → Int32} : ∀ {n t q}, outB f g n t = some q → q.1 < t + n ∧ q.2 < q.1
  | 0, t, q, h => by
    unfold outB at h
    cases h
  | n + 1, t, q, h => by
    unfold outB at h
    cases e : inB f g t t with
    | some s =>
      rw [e] at h
      cases h
      exact ⟨by show t < t + (n + 1); omega, inB_lt e⟩
    | none =>
      rw [e] at h
      have := brk_v h
      omega
theorem keeps_st (h : Rel c m) : Sim (fX6_keeps x y) (fX7_keeps x y) c m := by
  have hR := h
  obtain ⟨⟨n, h0⟩, -⟩ := h
  obtain ⟨h1, h2, h3, h4⟩ := h0.1
  obtain ⟨k, k1, k2, k3, k4, k5, k6⟩ := h0.2.2.1
  rcases arg_cases x (n := n) (by omega) with ⟨i, hi, rfl⟩ | hx
  · by_cases hy : 0 ≤ y.toInt ∧ y.toInt ≤ 1
    · by_cases hk : k = 0
      · refine ⟨-3, c, m, ?_, ?_, hR⟩
        · unfold fX6_keeps
          rw [has_y h2 h1 (rgN hi (by omega)), bnd_s, if_neg ne10, up_y hy, bnd_s, if_neg ne10, if_pos (by rw [k2, seen0 k1]; exact hk)]
        · unfold fX7_keeps
          rw [noSt_y h3 h1 (rgN hi (by omega)), bnd_s, if_pos rfl, in_y (a := 0) (b := 1) hy, bnd_s, if_neg ne10, if_pos (by rw [k3, seen0 k1]; exact hk)]
      · obtain ⟨r1, r2, -⟩ := h4 i hi
        have eo : outB (mr m 88) (mr m i) k 1 = outB (c 22) (c (100 + i)) k 1 := outB_cong k4 r2 (by omega)
        have eC := brkC (sg := c) (a := 100 + i) (alC (by omega)) k1 k2
        have eM := brkM (sg := m) (a := i) (by omega) k1 k3
        rw [eo] at eM
        have pre : ∀ r : Int32, fX2_firstBreak (100 + i) c = some (r, c) → fX6_keeps (nI i) y c = (if y = 1 then some (r, c) else if r = -9 then some (1, c) else some (0, c)) := fun r hr => by
          unfold fX6_keeps B_X6_keeps_71
          rw [has_y h2 h1 (rgN hi (by omega)), bnd_s, if_neg ne10, up_y hy, bnd_s, if_neg ne10, if_neg (by rw [k2, seen0 k1]; exact hk), row_ok (by omega), bnd_s, hr, bnd_s]
        have preM : ∀ r : Int32, fX7_breaks (nI i) m = some (r, m) → fX7_keeps (nI i) y m = (if y = 1 then some (r, m) else if 0 ≤ r then some (0, m) else some (1, m)) := fun r hr => by
          unfold fX7_keeps B_X7_keeps_57
          rw [noSt_y h3 h1 (rgN hi (by omega)), bnd_s, if_pos rfl, in_y (a := 0) (b := 1) hy, bnd_s, if_neg ne10, if_neg (by rw [k3, seen0 k1]; exact hk), hr, bnd_s]
        cases e : outB (c 22) (c (100 + i)) k 1 with
        | none =>
          rw [e] at eC eM
          by_cases hy1 : y = 1
          · exact ⟨-9, c, m, by rw [pre _ eC, if_pos hy1], by rw [preM _ eM, if_pos hy1], hR⟩
          · exact ⟨1, c, m, by rw [pre _ eC, if_neg hy1, if_pos rfl], by rw [preM _ eM, if_neg hy1, if_neg (by decide)], hR⟩
        | some q =>
          rw [e] at eC eM
          have hq := brk_v e
          by_cases hy1 : y = 1
          · exact ⟨nI (100 * q.1 + q.2), c, m, by rw [pre _ eC, if_pos hy1], by rw [preM _ eM, if_pos hy1], hR⟩
          · refine ⟨0, c, m, by rw [pre _ eC, if_neg hy1, if_neg (nn9 (by omega))], ?_, hR⟩
            rw [preM _ eM, if_neg hy1, if_pos]
            rw [i0, leN (by omega) (by omega)]
            omega
    · refine ⟨-2, c, m, ?_, ?_, hR⟩
      · unfold fX6_keeps
        rw [has_y h2 h1 (rgN hi (by omega)), bnd_s, if_neg ne10, up_n hy, bnd_s, if_pos rfl]
      · unfold fX7_keeps
        rw [noSt_y h3 h1 (rgN hi (by omega)), bnd_s, if_pos rfl, in_n (a := 0) (b := 1) hy, bnd_s, if_pos rfl]
  · refine ⟨-1, c, m, ?_, ?_, hR⟩
    · unfold fX6_keeps
      rw [has_n h2 h1 hx, bnd_s, if_pos rfl]
    · unfold fX7_keeps
      rw [noSt_n h3 h1 hx, bnd_s, if_neg ne10]
/-! the least burst -/
def dS (f : Nat → Int32) (r : Nat) : Nat → Int32 := fun t => f t - nI (r * t)
def bQ (D : Nat → Int32) : Nat → Int32
  | 0 => 0
  | t + 1 => mxI (bQ D t) (D (t + 1) - minU D 0 (t + 1))
theorem dS_i {f : Nat → Int32} {r : Nat} (hr : r ≤ 999) (hf : ∀ t, t < 41 → 0 ≤ (f t).toInt ∧ (f t).toInt ≤ 99999) {t : Nat} (ht : t < 41) : (dS f r t).toInt = (f t).toInt - (r * t : Nat) ∧ r * t ≤ 39960 := by
  have h1 := Nat.mul_le_mul hr (show t ≤ 40 by omega)
  have h2 := hf t ht
  refine ⟨?_, by omega⟩
  unfold dS
  have e : (nI (r * t)).toInt = (r * t : Nat) := nI_toInt (by omega)
  rw [fb_subI (by omega) (by omega), e]
theorem burst_in {D : Nat → Int32} (hD : ∀ t, t < 41 → -100000 ≤ (D t).toInt ∧ (D t).toInt ≤ 100000) (h0 : D 0 = 0) {t : Nat} (ht : t < 41) {B : Int32} : ∀ s, s + 1 ≤ 41 → maxU (fun s => D t - D s) B (s + 1) = mxI B (D t - minU D 0 (s + 1)) ∧ -100000 ≤ (minU D 0 (s + 1)).toInt ∧ (minU D 0 (s + 1)).toInt ≤ 0 := by
  intro s
  induction s with
  | zero =>
    intro _
    have e : minU D 0 1 = 0 := by
      show mnI 0 (D 0) = 0
      rw [h0]; decide
    refine ⟨?_, by rw [e, ti0]; omega⟩
    show mxI B (D t - D 0) = mxI B (D t - minU D 0 1)
    rw [e, h0]
  | succ s ih =>
    intro hs
    obtain ⟨h1, h2, h3⟩ := ih (by omega)
    have h4 := hD t ht
    have h5 := hD (s + 1) (by omega)
    have em : (minU D 0 (s + 1 + 1)).toInt = min (minU D 0 (s + 1)).toInt (D (s + 1)).toInt := by
      show (mnI _ _).toInt = _
      rw [mnI_i]
    refine ⟨?_, by omega, by omega⟩
    show mxI (maxU (fun s => D t - D s) B (s + 1)) (D t - D (s + 1)) = _
    rw [h1, fa_eq, mxI_i, mxI_i, mxI_i, fb_subI (by omega) (by omega), fb_subI (by omega) (by omega), fb_subI (by omega) (by omega), em]
    omega
theorem burstC {k r : Nat} (hk : k ≤ 40) (hr : r ≤ 999) (hc : sg 3 2 = nI k) (h0 : sg 22 0 = 0) : fX2_leastBurst (nI r) sg = some (bQ (dS (sg 22) r) k, sg) := by
  unfold fX2_leastBurst
  have e0 : minU (dS (sg 22) r) 0 1 = 0 := by
    show mnI 0 (sg 22 0 - nI (r * 0)) = 0
    rw [h0, Nat.mul_zero]; decide
  have := nloop (N := k + 1) (M := 1) (fun f t => L_X2_leastBurst_7 (fun (w1_2 : Int32) (s2 : Hp) => some (w1_2, s2)) f (nI r) (bQ (dS (sg 22) r) (t - 1)) (minU (dS (sg 22) r) 0 t) (nI t) sg) (some (bQ (dS (sg 22) r) k, sg))
    (fun f t h1 ht => by
      obtain ⟨w, rfl⟩ : ∃ w, t = w + 1 := ⟨t - 1, by omega⟩
      rw [L_X2_leastBurst_7, hc, if_neg (by rw [ltN (by omega) (by omega)]; omega), gd_t (inbN (by omega) (by omega)), nI_clamp (by omega), pk_mul, nI_1]
      rfl)
    (fun f => by
      rw [L_X2_leastBurst_7, hc, if_pos (by rw [ltN (by omega) (by omega)]; omega)]
      rfl)
    200 1 (by omega) (by omega) (by omega)
  rw [e0] at this
  exact this
theorem burstM_in {K : Int32 → Int32 → Int32 → Hp → Option (Int32 × Hp)} {r t : Nat} {B : Int32} (hr : r ≤ 999) (ht : t < 41) (hf : ∀ t, t < 41 → 0 ≤ (mr sg 88 t).toInt ∧ (mr sg 88 t).toInt ≤ 99999) : L_X7_burst_40 K 200 (nI r) B (nI t) 0 sg = K (nI r) (maxU (fun s => dS (mr sg 88) r t - dS (mr sg 88) r s) B t) (nI t) sg :=
  nloop (N := t) (M := 0) (fun f s => L_X7_burst_40 K f (nI r) (maxU (fun s => dS (mr sg 88) r t - dS (mr sg 88) r s) B s) (nI t) (nI s) sg) (K (nI r) (maxU (fun s => dS (mr sg 88) r t - dS (mr sg 88) r s) B t) (nI t) sg)
    (fun f s h1 hs => by
      have e : (mr sg 88 t - mr sg 88 s) - nI (r * (t - s)) = dS (mr sg 88) r t - dS (mr sg 88) r s := by
        obtain ⟨a1, a2⟩ := dS_i hr hf ht
        obtain ⟨b1, b2⟩ := dS_i hr hf (show s < 41 by omega)
        have h3 := hf t ht
        have h4 := hf s (by omega)
        have h5 := Nat.mul_le_mul hr (show t - s ≤ 40 by omega)
        have h6 : r * (t - s) + r * s = r * t := by rw [← Nat.mul_add, show t - s + s = t by omega]
        have e1 : (nI (r * (t - s))).toInt = (r * (t - s) : Nat) := nI_toInt (by omega)
        have e2 : (mr sg 88 t - mr sg 88 s).toInt = (mr sg 88 t).toInt - (mr sg 88 s).toInt := sub_i h3 h4
        rw [fa_eq, fb_subI (by omega) (by omega), fb_subI (x := dS (mr sg 88) r t) (by omega) (by omega), a1, b1, e1, e2]
        omega
      rw [L_X7_burst_40, if_neg (by rw [leN (by omega) (by omega)]; omega), show (88 : Int32) = nI 88 from rfl, of_ok (by omega) ht, bnd_s, of_ok (by omega) (by omega), bnd_s, pk_sub (by omega), pk_mul, e, greater_ok, bnd_s, nI_1]
      rfl)
    (fun f => by
      rw [L_X7_burst_40, if_pos (by rw [leN (by omega) (by omega)]; omega)])
    200 0 (by omega) (by omega) (by omega)
theorem burstM {k r : Nat} (hk : k ≤ 40) (hr : r ≤ 999) (hc : sg 300 19 = nI k) (h0 : mr sg 88 0 = 0) (hf : ∀ t, t < 41 → 0 ≤ (mr sg 88 t).toInt ∧ (mr sg 88 t).toInt ≤ 99999) : L_X7_burst_29 (fun (w11_2 : Int32) (s12 : Hp) => some (w11_2, s12)) 200 (nI r) 0 1 sg = some (bQ (dS (mr sg 88) r) k, sg) := by
  have hD : ∀ t, t < 41 → -100000 ≤ (dS (mr sg 88) r t).toInt ∧ (dS (mr sg 88) r t).toInt ≤ 100000 := fun t ht => by
    obtain ⟨a1, a2⟩ := dS_i hr hf ht
    have := hf t ht
    omega
  have hD0 : dS (mr sg 88) r 0 = 0 := by
    show mr sg 88 0 - nI (r * 0) = 0
    rw [h0, Nat.mul_zero]; decide
  exact nloop (N := k + 1) (M := 1) (fun f t => L_X7_burst_29 (fun (w11_2 : Int32) (s12 : Hp) => some (w11_2, s12)) f (nI r) (bQ (dS (mr sg 88) r) (t - 1)) (nI t) sg) (some (bQ (dS (mr sg 88) r) k, sg))
    (fun f t h1 ht => by
      obtain ⟨w, rfl⟩ : ∃ w, t = w + 1 := ⟨t - 1, by omega⟩
      rw [L_X7_burst_29, hc, if_neg (by rw [ltN (by omega) (by omega)]; omega), burstM_in hr (by omega) hf, (burst_in hD hD0 (show w + 1 < 41 by omega) w (by omega)).1, nI_1]
      rfl)
    (fun f => by
      rw [L_X7_burst_29, hc, if_pos (by rw [ltN (by omega) (by omega)]; omega)]
      rfl)
    200 1 (by omega) (by omega) (by omega)
theorem minU_cong2 {F G : Nat → Int32} {x : Int32} {n : Nat} (h : ∀ i, i < n → F i = G i) : minU F x n = minU G x n := minU_cong h
theorem bQ_cong {D E : Nat → Int32} (h : req D E) : ∀ {k}, k ≤ 40 → bQ D k = bQ E k
  | 0, _ => rfl
  | k + 1, hk => by
    unfold bQ
    rw [bQ_cong h (k := k) (by omega), h (k + 1) (by omega), minU_cong2 (fun i hi => h i (by omega))]
theorem burst_st (h : Rel c m) : Sim (fX6_burst x) (fX7_burst x) c m := by
  have hR := h
  obtain ⟨⟨n, h0⟩, -⟩ := h
  obtain ⟨s1, s2⟩ := seen_row h0.2.2.1
  obtain ⟨k, k1, k2, k3, k4, k5, k6⟩ := h0.2.2.1
  by_cases hx : 0 ≤ x.toInt ∧ x.toInt ≤ 999
  · by_cases hk : k = 0
    · refine ⟨-3, c, m, ?_, ?_, hR⟩
      · unfold fX6_burst
        rw [up_y hx, bnd_s, if_neg ne10, if_pos (by rw [k2, seen0 k1]; exact hk)]
      · unfold fX7_burst
        rw [in_y (a := 0) (b := 999) hx, bnd_s, if_neg ne10, if_pos (by rw [k3, seen0 k1]; exact hk)]
    · obtain ⟨r, hr, rfl⟩ := upN (n := 999) (by omega) hx
      have ed : req (dS (mr m 88) r) (dS (c 22) r) := fun t ht => by
        unfold dS
        rw [k4 t ht]
      refine ⟨bQ (dS (c 22) r) k, c, m, ?_, ?_, hR⟩
      · unfold fX6_burst
        rw [up_y hx, bnd_s, if_neg ne10, if_neg (by rw [k2, seen0 k1]; exact hk), burstC k1 hr k2 k5, bnd_s]
      · unfold fX7_burst
        rw [in_y (a := 0) (b := 999) hx, bnd_s, if_neg ne10, if_neg (by rw [k3, seen0 k1]; exact hk), burstM k1 hr k3 (by rw [k4 0 (by omega)]; exact k5) (fun t ht => by rw [k4 t ht]; exact s1.2.1 t ht), bQ_cong ed k1]
  · refine ⟨-2, c, m, ?_, ?_, hR⟩
    · unfold fX6_burst
      rw [up_n hx, bnd_s, if_pos rfl]
    · unfold fX7_burst
      rw [in_n (a := 0) (b := 999) hx, bnd_s, if_pos rfl]
end A7
