/-! calls that make or read stairs -/
def Sim {ρ : Type} (f g : Hp → Option (ρ × Hp)) (c m : Hp) : Prop := ∃ (r : ρ) (d k : Hp), f c = some (r, d) ∧ g m = some (r, k) ∧ Rel d k
section A1
variable {sg c m : Hp} {x y z : Int32}
theorem has_y {n : Nat} (h : sg 1 2 = nI n) (hn : n ≤ 24) (hx : 0 ≤ x.toInt ∧ x.toInt < n) : fX4_has x sg = some (1, sg) := by rw [has_ok h hn, if_pos hx]
theorem has_n {n : Nat} (h : sg 1 2 = nI n) (hn : n ≤ 24) (hx : ¬ (0 ≤ x.toInt ∧ x.toInt < n)) : fX4_has x sg = some (0, sg) := by rw [has_ok h hn, if_neg hx]
theorem noSt_y {n : Nat} (h : sg 300 1 = nI n) (hn : n ≤ 24) (hx : 0 ≤ x.toInt ∧ x.toInt < n) : fX7_noStair x sg = some (0, sg) := by rw [noStair_ok h hn, if_pos hx]
theorem noSt_n {n : Nat} (h : sg 300 1 = nI n) (hn : n ≤ 24) (hx : ¬ (0 ≤ x.toInt ∧ x.toInt < n)) : fX7_noStair x sg = some (1, sg) := by rw [noStair_ok h hn, if_neg hx]
theorem up_y (hx : 0 ≤ x.toInt ∧ x.toInt ≤ y.toInt) : fX6_isUpTo x y sg = some (1, sg) := by rw [isUpTo_ok, if_pos hx]
theorem up_n (hx : ¬ (0 ≤ x.toInt ∧ x.toInt ≤ y.toInt)) : fX6_isUpTo x y sg = some (0, sg) := by rw [isUpTo_ok, if_neg hx]
theorem in_y {a b : Int64} (hx : a.toInt ≤ x.toInt ∧ x.toInt ≤ b.toInt) : fX7_in x.toInt64 a b sg = some (1, sg) := by rw [in_ok, t64, if_pos hx]
theorem in_n {a b : Int64} (hx : ¬ (a.toInt ≤ x.toInt ∧ x.toInt ≤ b.toInt)) : fX7_in x.toInt64 a b sg = some (0, sg) := by rw [in_ok, t64, if_neg hx]
theorem ne10 : ¬ (1 : Int32) = 0 := by decide
theorem at_st (h : Rel c m) : Sim (fX6_at x y) (fX7_at x y) c m := by
  have hR := h
  obtain ⟨⟨n, hS, -⟩, -⟩ := h
  obtain ⟨h1, h2, h3, h4⟩ := hS
  rcases arg_cases x (n := n) (by omega) with ⟨i, hi, rfl⟩ | hx
  · by_cases hy : 0 ≤ y.toInt ∧ y.toInt ≤ 40
    · obtain ⟨t, ht, rfl⟩ : ∃ t, t < 41 ∧ y = nI t := by
        rcases arg_cases y (n := 41) (by omega) with h | h
        · exact h
        · omega
      refine ⟨c (100 + i) t, c, m, ?_, ?_, hR⟩
      · unfold fX6_at
        rw [has_y h2 h1 (rgN hi (by omega)), bnd_s, if_neg ne10, up_y hy, bnd_s, if_neg ne10, row_ok (by omega), bnd_s, alC (by omega), gd_t (inbN ht (by omega)), nI_clamp (by omega)]
      · unfold fX7_at B_X7_at_33
        rw [noSt_y h3 h1 (rgN hi (by omega)), bnd_s, if_pos rfl, in_y (a := 0) (b := 40) hy, bnd_s, if_neg ne10, of_ok (by omega) ht, bnd_s, (h4 i hi).2.1 t ht]
    · refine ⟨-2, c, m, ?_, ?_, hR⟩
      · unfold fX6_at
        rw [has_y h2 h1 (rgN hi (by omega)), bnd_s, if_neg ne10, up_n hy, bnd_s, if_pos rfl]
      · unfold fX7_at B_X7_at_33
        rw [noSt_y h3 h1 (rgN hi (by omega)), bnd_s, if_pos rfl, in_n (a := 0) (b := 40) hy, bnd_s, if_pos rfl]
  · refine ⟨-1, c, m, ?_, ?_, hR⟩
    · unfold fX6_at
      rw [has_n h2 h1 hx, bnd_s, if_pos rfl]
    · unfold fX7_at
      rw [noSt_n h3 h1 hx, bnd_s, if_neg ne10]
theorem bucket_v {b r t : Nat} (hb : b ≤ 9999) (hr : r ≤ 999) (ht : t < 41) : sBucket (nI b) (nI r) t = nI (if t = 0 then 0 else b + r * t) ∧ (if t = 0 then 0 else b + r * t) ≤ 49959 := by
  have h1 := Nat.mul_le_mul hr (show t ≤ 40 by omega)
  unfold sBucket
  by_cases h : t = 0
  · rw [if_pos h, if_pos h]; exact ⟨rfl, by omega⟩
  · rw [if_neg h, if_neg h, pk_mul, nI_add, mnI_small (by omega)]; exact ⟨rfl, by omega⟩
theorem ok_bucket {b r : Nat} (hb : b ≤ 9999) (hr : r ≤ 999) : okRow (sBucket (nI b) (nI r)) := by
  refine ⟨rfl, fun t ht => ?_, fun t ht => ?_⟩
  · obtain ⟨e, h⟩ := bucket_v hb hr ht
    rw [e, nI_toInt (by omega)]
    omega
  · obtain ⟨e, h⟩ := bucket_v hb hr (show t < 41 by omega)
    obtain ⟨e2, h2⟩ := bucket_v hb hr (show t + 1 < 41 by omega)
    rw [e, e2, nI_toInt (by omega), nI_toInt (by omega)]
    rw [if_neg (show ¬ t + 1 = 0 by omega)] at h2 ⊢
    have := Nat.mul_le_mul_left r (show t ≤ t + 1 by omega)
    by_cases h0 : t = 0
    · rw [if_pos h0] at h ⊢; omega
    · rw [if_neg h0] at h ⊢; omega
theorem late_v {l r t : Nat} (hr : r ≤ 999) (ht : t < 41) : sLate l (nI r) t = nI (r * (t - l)) ∧ r * (t - l) ≤ 39960 := by
  unfold sLate
  have h1 := Nat.mul_le_mul hr (show t - l ≤ 40 by omega)
  by_cases h : t ≤ l
  · rw [if_pos h, show t - l = 0 by omega, Nat.mul_zero]; exact ⟨rfl, by omega⟩
  · rw [if_neg h, pk_sub (by omega), pk_mul]; exact ⟨rfl, by omega⟩
theorem ok_late {l r : Nat} (hr : r ≤ 999) : okRow (sLate l (nI r)) := by
  refine ⟨?_, fun t ht => ?_, fun t ht => ?_⟩
  · unfold sLate
    rw [if_pos (by omega)]
  · obtain ⟨e, h⟩ := late_v (l := l) hr ht
    rw [e, nI_toInt (by omega)]
    omega
  · obtain ⟨e, h⟩ := late_v (l := l) hr (show t < 41 by omega)
    obtain ⟨e2, h2⟩ := late_v (l := l) hr (show t + 1 < 41 by omega)
    have := Nat.mul_le_mul_left r (show t - l ≤ t + 1 - l by omega)
    rw [e, e2, nI_toInt (by omega), nI_toInt (by omega)]
    omega
theorem upN {n : Nat} (hn : n < 1000000) (hx : 0 ≤ x.toInt ∧ x.toInt ≤ n) : ∃ i, i ≤ n ∧ x = nI i := by
  rcases arg_cases x (n := n + 1) (by omega) with ⟨i, h1, h2⟩ | h
  · exact ⟨i, by omega, h2⟩
  · omega
theorem full_y {n : Nat} (h : sg 1 2 = nI n) (hn : n < 24) : fX4_isFull sg = some (0, sg) := by rw [isFull_ok h (by omega), if_pos hn]
theorem full_n {n : Nat} (h : sg 1 2 = nI n) (hn : n ≤ 24) (h9 : ¬ n < 24) : fX4_isFull sg = some (1, sg) := by rw [isFull_ok h hn, if_neg h9]
theorem f24_y {n : Nat} (h : sg 300 1 = nI n) (hn : n < 24) : ¬ sg 300 1 = 24 := by rw [h, n24 (by omega)]; omega
theorem f24_n {n : Nat} (h : sg 300 1 = nI n) (hn : n ≤ 24) (h9 : ¬ n < 24) : sg 300 1 = 24 := by rw [h, n24 hn]; omega
/-- the end of a call that keeps a new row on both sides, no fault named -/
theorem nw_end {n k0 : Nat} {F : Nat → Int32} (h : Rel c m) (hn : n < 24) (h0 : Rel0 c m n) (hk : k0 < 3) (hF : okRow F) : Rel (up2 (up2 (fil c (100 + n) F 41) 9 n (nI k0)) 1 2 (nI (n + 1))) (up2 (up2 (filM m n F 41) 302 n (nI k0)) 300 1 (nI (n + 1))) := by
  refine ⟨⟨n + 1, Rel0_new hn hk hF h0⟩, ?_, ?_⟩
  · rw [up2_o (by omega), up2_o (by omega), fil_out (by omega), up2_o (by omega), up2_o (by omega), filM_o (by omega)]
    exact h.2.1
  · rw [up2_o (by omega), up2_o (by omega), fil_out (by omega), up2_o (by omega), up2_o (by omega), filM_o (by omega)]
    exact h.2.2
theorem bucket_st (h : Rel c m) : Sim (fX6_bucket x y) (fX7_bucket x y) c m := by
  have hR := h
  obtain ⟨⟨n, h0⟩, -⟩ := h
  obtain ⟨h1, h2, h3, h4⟩ := h0.1
  by_cases hx : 0 ≤ x.toInt ∧ x.toInt ≤ 9999
  · by_cases hy : 0 ≤ y.toInt ∧ y.toInt ≤ 999
    · by_cases hn : n < 24
      · obtain ⟨b, hb, eb⟩ := upN (n := 9999) (by omega) hx
        obtain ⟨r, hr, er⟩ := upN (n := 999) (by omega) hy
        refine ⟨nI n, _, _, ?_, ?_, nw_end (F := sBucket x y) (k0 := 1) hR hn h0 (by omega) (by rw [eb, er]; exact ok_bucket hb hr)⟩
        · unfold fX6_bucket
          rw [up_y hx, bnd_s, if_neg ne10, up_y hy, bnd_s, if_neg ne10, full_y h2 hn, bnd_s, if_pos rfl, nextRow_ok h2 hn, bnd_s, fillBucket_ok (alC hn), bnd_s, keepNext_ok (by rw [fil_out (by omega)]; exact h2) hn, bnd_s]
          rfl
        · unfold fX7_bucket
          rw [in_y (a := 0) (b := 9999) hx, bnd_s, if_neg ne10, in_y (a := 0) (b := 999) hy, bnd_s, if_neg ne10, if_neg (f24_y h3 hn), h3, layBucket_ok (by omega), bnd_s, keep_ok (by rw [filM_o (by omega)]; exact h3) hn, bnd_s]
          rfl
      · refine ⟨-4, c, m, ?_, ?_, hR⟩
        · unfold fX6_bucket
          rw [up_y hx, bnd_s, if_neg ne10, up_y hy, bnd_s, if_neg ne10, full_n h2 h1 hn, bnd_s, if_neg ne10]
        · unfold fX7_bucket
          rw [in_y (a := 0) (b := 9999) hx, bnd_s, if_neg ne10, in_y (a := 0) (b := 999) hy, bnd_s, if_neg ne10, if_pos (f24_n h3 h1 hn)]
    · refine ⟨-2, c, m, ?_, ?_, hR⟩
      · unfold fX6_bucket B_X6_bucket_20
        rw [up_y hx, bnd_s, if_neg ne10, up_n hy, bnd_s, if_pos rfl]
      · unfold fX7_bucket B_X7_bucket_24
        rw [in_y (a := 0) (b := 9999) hx, bnd_s, if_neg ne10, in_n (a := 0) (b := 999) hy, bnd_s, if_pos rfl]
  · refine ⟨-2, c, m, ?_, ?_, hR⟩
    · unfold fX6_bucket B_X6_bucket_20
      rw [up_n hx, bnd_s, if_pos rfl]
    · unfold fX7_bucket B_X7_bucket_24
      rw [in_n (a := 0) (b := 9999) hx, bnd_s, if_pos rfl]
theorem late_st (h : Rel c m) : Sim (fX6_late x y) (fX7_late x y) c m := by
  have hR := h
  obtain ⟨⟨n, h0⟩, -⟩ := h
  obtain ⟨h1, h2, h3, h4⟩ := h0.1
  by_cases hx : 0 ≤ x.toInt ∧ x.toInt ≤ 40
  · by_cases hy : 0 ≤ y.toInt ∧ y.toInt ≤ 999
    · by_cases hn : n < 24
      · obtain ⟨b, hb, rfl⟩ := upN (n := 40) (by omega) hx
        obtain ⟨r, hr, rfl⟩ := upN (n := 999) (by omega) hy
        refine ⟨nI n, _, _, ?_, ?_, nw_end (F := sLate b (nI r)) (k0 := 2) hR hn h0 (by omega) (ok_late hr)⟩
        · unfold fX6_late
          rw [up_y hx, bnd_s, if_neg ne10, up_y hy, bnd_s, if_neg ne10, full_y h2 hn, bnd_s, if_pos rfl, nextRow_ok h2 hn, bnd_s, fillLate_ok (by omega) (alC hn), bnd_s, keepNext_ok (by rw [fil_out (by omega)]; exact h2) hn, bnd_s]
          rfl
        · unfold fX7_late
          rw [in_y (a := 0) (b := 40) hx, bnd_s, if_neg ne10, in_y (a := 0) (b := 999) hy, bnd_s, if_neg ne10, if_neg (f24_y h3 hn), h3, layLate_ok (by omega) hb hr, bnd_s, keep_ok (by rw [filM_o (by omega)]; exact h3) hn, bnd_s]
          rfl
      · refine ⟨-4, c, m, ?_, ?_, hR⟩
        · unfold fX6_late
          rw [up_y hx, bnd_s, if_neg ne10, up_y hy, bnd_s, if_neg ne10, full_n h2 h1 hn, bnd_s, if_neg ne10]
        · unfold fX7_late
          rw [in_y (a := 0) (b := 40) hx, bnd_s, if_neg ne10, in_y (a := 0) (b := 999) hy, bnd_s, if_neg ne10, if_pos (f24_n h3 h1 hn)]
    · refine ⟨-2, c, m, ?_, ?_, hR⟩
      · unfold fX6_late B_X6_late_19
        rw [up_y hx, bnd_s, if_neg ne10, up_n hy, bnd_s, if_pos rfl]
      · unfold fX7_late B_X7_late_24
        rw [in_y (a := 0) (b := 40) hx, bnd_s, if_neg ne10, in_n (a := 0) (b := 999) hy, bnd_s, if_pos rfl]
  · refine ⟨-2, c, m, ?_, ?_, hR⟩
    · unfold fX6_late B_X6_late_19
      rw [up_n hx, bnd_s, if_pos rfl]
    · unfold fX7_late B_X7_late_24
      rw [in_n (a := 0) (b := 40) hx, bnd_s, if_pos rfl]
theorem fil_cong {sg : Hp} {b : Nat} {F G : Nat → Int32} {t : Nat} (h : ∀ j, j < t → F j = G j) : fil sg b F t = fil sg b G t := by
  funext q j
  unfold fil
  by_cases e : q = b ∧ j < t
  · rw [if_pos e, if_pos e, h j e.2]
  · rw [if_neg e, if_neg e]
theorem filM_cong {sg : Hp} {f : Nat} {F G : Nat → Int32} {t : Nat} (h : ∀ j, j < t → F j = G j) : filM sg f F t = filM sg f G t := by
  funext q j
  unfold filM
  by_cases e : q = 303 ∧ 41 * f ≤ j ∧ j < 41 * f + t
  · rw [if_pos e, if_pos e, h _ (by omega)]
  · rw [if_neg e, if_neg e]
/-- a row that two stairs make -/
def sMade (w : Nat) (f g : Nat → Int32) : Nat → Int32 := if w = 0 then sLeast f g else if w = 1 then sSum f g else if w = 2 then sAlong f g else if w = 3 then sOut f g else sLeft f g
theorem sMade_cong {w : Nat} {f f2 g g2 : Nat → Int32} (h : req f f2) (h2 : req g g2) : req (sMade w f g) (sMade w f2 g2) := by
  unfold sMade
  split
  · exact sLeast_cong h h2
  · split
    · exact sSum_cong h h2
    · split
      · exact sAlong_cong h h2
      · split
        · exact sOut_cong h h2
        · exact sLeft_cong h h2
theorem ok_made {w : Nat} {f g : Nat → Int32} (h : okRow f) (h2 : okRow g) : okRow (sMade w f g) := by
  unfold sMade
  split
  · exact ok_least h h2
  · split
    · exact ok_sum h h2
    · split
      · exact ok_along h h2
      · split
        · exact ok_out h h2.2.1
        · exact ok_left h h2
theorem fillMade_ok {w a b d : Nat} (hw : w < 5) (h0 : alen tC a = 41) (h1 : alen tC b = 41) (h2 : alen tC d = 41) (ha : a ≠ d) (hb : b ≠ d) : fX1_fillMade (nI w) a b d sg = some ((), fil sg d (sMade w (sg a) (sg b)) 41) := by
  unfold fX1_fillMade B_X1_fillMade_74 sMade
  rcases (show w = 0 ∨ w = 1 ∨ w = 2 ∨ w = 3 ∨ w = 4 by omega) with rfl | rfl | rfl | rfl | rfl
  · rw [if_pos (by decide), fillLeast_ok h0 h1 h2, bnd_s, if_pos rfl]
  · rw [if_neg (by decide), if_pos (by decide), fillSum_ok h0 h1 h2, bnd_s, if_neg (by decide), if_pos rfl]
  · rw [if_neg (by decide), if_neg (by decide), if_pos (by decide), fillAlong_ok h0 h1 h2 ha hb, bnd_s, if_neg (by decide), if_neg (by decide), if_pos rfl]
  · rw [if_neg (by decide), if_neg (by decide), if_neg (by decide), if_pos (by decide), fillOut_ok h0 h1 h2 ha hb, bnd_s, if_neg (by decide), if_neg (by decide), if_neg (by decide), if_pos rfl]
  · rw [if_neg (by decide), if_neg (by decide), if_neg (by decide), if_neg (by decide), fillLeft_ok h0 h1 h2, bnd_s, if_neg (by decide), if_neg (by decide), if_neg (by decide), if_neg (by decide)]
theorem layBoth_ok {w f g to : Nat} (hw : w < 5) (hf : f < 90) (hg : g < 90) (hto : to < 90) (hft : f ≠ to) (hgt : g ≠ to) (bf : rowB (mr sg f)) (bg : rowB (mr sg g)) : fX7_layBoth (nI w) (nI f) (nI g) (nI to) sg = some ((), filM sg to (sMade w (mr sg f) (mr sg g)) 41) := by
  unfold sMade
  rcases (show w = 0 ∨ w = 1 ∨ w = 2 ∨ w = 3 ∨ w = 4 by omega) with rfl | rfl | rfl | rfl | rfl
  · rw [if_pos rfl]; exact layLeast_ok hf hg hto bf
  · rw [if_neg (by decide), if_pos rfl]; exact laySum_ok hf hg hto
  · rw [if_neg (by decide), if_neg (by decide), if_pos rfl]; exact layAlong_ok hf hg hto hft hgt
  · rw [if_neg (by decide), if_neg (by decide), if_neg (by decide), if_pos rfl]; exact layOut_ok hf hg hto hft hgt bf bg
  · rw [if_neg (by decide), if_neg (by decide), if_neg (by decide), if_neg (by decide)]; exact layLeft_ok hf hg hto bf bg
theorem make_st (h : Rel c m) : Sim (fX6_make x y z) (fX7_make x y z) c m := by
  have hR := h
  obtain ⟨⟨n, h0⟩, -⟩ := h
  obtain ⟨h1, h2, h3, h4⟩ := h0.1
  rcases arg_cases y (n := n) (by omega) with ⟨i, hi, rfl⟩ | hy
  · rcases arg_cases z (n := n) (by omega) with ⟨j, hj, rfl⟩ | hz
    · by_cases hx : 0 ≤ x.toInt ∧ x.toInt ≤ 4
      · obtain ⟨w, hw, rfl⟩ := upN (n := 4) (by omega) hx
        by_cases hn : n < 24
        · obtain ⟨r1, r2, -⟩ := h4 i hi
          obtain ⟨s1, s2, -⟩ := h4 j hj
          have e := filM_cong (sg := m) (f := n) (t := 41) (sMade_cong (w := w) (f := mr m i) (f2 := c (100 + i)) (g := mr m j) (g2 := c (100 + j)) r2 s2)
          refine ⟨nI n, _, _, ?_, ?_, nw_end (F := sMade w (c (100 + i)) (c (100 + j))) (k0 := 0) hR hn h0 (by omega) (ok_made r1 s1)⟩
          · unfold fX6_make
            rw [has_y h2 h1 (rgN hi (by omega)), bnd_s, if_neg ne10, has_y h2 h1 (rgN hj (by omega)), bnd_s, if_neg ne10, up_y hx, bnd_s, if_neg ne10, full_y h2 hn, bnd_s, if_pos rfl, row_ok (by omega), bnd_s, row_ok (by omega), bnd_s, nextRow_ok h2 hn, bnd_s, fillMade_ok (by omega) (alC (by omega)) (alC (by omega)) (alC hn) (by omega) (by omega), bnd_s, keepNext_ok (by rw [fil_out (by omega)]; exact h2) hn, bnd_s]
            rfl
          · unfold fX7_make
            rw [noSt_y h3 h1 (rgN hi (by omega)), bnd_s, if_pos rfl, noSt_y h3 h1 (rgN hj (by omega)), bnd_s, if_pos rfl, in_y (a := 0) (b := 4) hx, bnd_s, if_neg ne10, if_neg (f24_y h3 hn), h3, layBoth_ok (by omega) (by omega) (by omega) (by omega) (by omega) (by omega) (rowB_req (fun t ht => (r2 t ht).symm) r1.2.1) (rowB_req (fun t ht => (s2 t ht).symm) s1.2.1), bnd_s, keep_ok (by rw [filM_o (by omega)]; exact h3) hn, bnd_s, e]
            rfl
        · refine ⟨-4, c, m, ?_, ?_, hR⟩
          · unfold fX6_make
            rw [has_y h2 h1 (rgN hi (by omega)), bnd_s, if_neg ne10, has_y h2 h1 (rgN hj (by omega)), bnd_s, if_neg ne10, up_y hx, bnd_s, if_neg ne10, full_n h2 h1 hn, bnd_s, if_neg ne10]
          · unfold fX7_make
            rw [noSt_y h3 h1 (rgN hi (by omega)), bnd_s, if_pos rfl, noSt_y h3 h1 (rgN hj (by omega)), bnd_s, if_pos rfl, in_y (a := 0) (b := 4) hx, bnd_s, if_neg ne10, if_pos (f24_n h3 h1 hn)]
      · refine ⟨-2, c, m, ?_, ?_, hR⟩
        · unfold fX6_make
          rw [has_y h2 h1 (rgN hi (by omega)), bnd_s, if_neg ne10, has_y h2 h1 (rgN hj (by omega)), bnd_s, if_neg ne10, up_n hx, bnd_s, if_pos rfl]
        · unfold fX7_make
          rw [noSt_y h3 h1 (rgN hi (by omega)), bnd_s, if_pos rfl, noSt_y h3 h1 (rgN hj (by omega)), bnd_s, if_pos rfl, in_n (a := 0) (b := 4) hx, bnd_s, if_pos rfl]
    · refine ⟨-1, c, m, ?_, ?_, hR⟩
      · unfold fX6_make B_X6_make_22
        rw [has_y h2 h1 (rgN hi (by omega)), bnd_s, if_neg ne10, has_n h2 h1 hz, bnd_s, if_pos rfl]
      · unfold fX7_make B_X7_make_16
        rw [noSt_y h3 h1 (rgN hi (by omega)), bnd_s, if_pos rfl, noSt_n h3 h1 hz, bnd_s, if_neg ne10]
  · refine ⟨-1, c, m, ?_, ?_, hR⟩
    · unfold fX6_make B_X6_make_22
      rw [has_n h2 h1 hy, bnd_s, if_pos rfl]
    · unfold fX7_make B_X7_make_16
      rw [noSt_n h3 h1 hy, bnd_s, if_neg ne10]
theorem move_st (h : Rel c m) : Sim (fX6_move x y z) (fX7_move x y z) c m := by
  have hR := h
  obtain ⟨⟨n, h0⟩, -⟩ := h
  obtain ⟨h1, h2, h3, h4⟩ := h0.1
  rcases arg_cases y (n := n) (by omega) with ⟨i, hi, rfl⟩ | hy
  · by_cases hx : 0 ≤ x.toInt ∧ x.toInt ≤ 1
    · by_cases hz : 0 ≤ z.toInt ∧ z.toInt ≤ 40
      · obtain ⟨w, hw, rfl⟩ := upN (n := 1) (by omega) hx
        obtain ⟨d, hd, rfl⟩ := upN (n := 40) (by omega) hz
        by_cases hn : n < 24
        · obtain ⟨r1, r2, -⟩ := h4 i hi
          have bf := rowB_req (fun t ht => (r2 t ht).symm) r1.2.1
          rcases (show w = 0 ∨ w = 1 by omega) with rfl | rfl
          · have e := filM_cong (sg := m) (f := n) (t := 41) (sBack_cong (d := d) (f := mr m i) (f2 := c (100 + i)) r2)
            refine ⟨nI n, _, _, ?_, ?_, nw_end (F := sBack (c (100 + i)) d) (k0 := 0) hR hn h0 (by omega) (ok_back r1)⟩
            · unfold fX6_move B_X6_move_91
              rw [has_y h2 h1 (rgN hi (by omega)), bnd_s, if_neg ne10, up_y hx, bnd_s, if_neg ne10, up_y hz, bnd_s, if_neg ne10, full_y h2 hn, bnd_s, if_pos rfl, if_pos (by decide), row_ok (by omega), bnd_s, nextRow_ok h2 hn, bnd_s, fillBack_ok hd (alC (by omega)) (alC hn) (by omega), bnd_s, keepNext_ok (by rw [fil_out (by omega)]; exact h2) hn, bnd_s]
              rfl
            · unfold fX7_move
              rw [noSt_y h3 h1 (rgN hi (by omega)), bnd_s, if_pos rfl, in_y (a := 0) (b := 1) hx, bnd_s, if_neg ne10, in_y (a := 0) (b := 40) hz, bnd_s, if_neg ne10, if_neg (f24_y h3 hn), h3, show nI 0 = 0 from rfl, layBack_ok hd (by omega) (by omega) (by omega) bf, bnd_s, keep_ok (by rw [filM_o (by omega)]; exact h3) hn, bnd_s, e]
          · have e := filM_cong (sg := m) (f := n) (t := 41) (sAhead_cong (d := d) (f := mr m i) (f2 := c (100 + i)) r2)
            refine ⟨nI n, _, _, ?_, ?_, nw_end (F := sAhead (c (100 + i)) d) (k0 := 0) hR hn h0 (by omega) (ok_ahead r1)⟩
            · unfold fX6_move B_X6_move_91
              rw [has_y h2 h1 (rgN hi (by omega)), bnd_s, if_neg ne10, up_y hx, bnd_s, if_neg ne10, up_y hz, bnd_s, if_neg ne10, full_y h2 hn, bnd_s, if_pos rfl, if_neg (by decide), row_ok (by omega), bnd_s, nextRow_ok h2 hn, bnd_s, fillAhead_ok hd (alC (by omega)) (alC hn) (by omega), bnd_s, keepNext_ok (by rw [fil_out (by omega)]; exact h2) hn, bnd_s]
              rfl
            · unfold fX7_move
              rw [noSt_y h3 h1 (rgN hi (by omega)), bnd_s, if_pos rfl, in_y (a := 0) (b := 1) hx, bnd_s, if_neg ne10, in_y (a := 0) (b := 40) hz, bnd_s, if_neg ne10, if_neg (f24_y h3 hn), h3, show nI 1 = 1 from rfl, layAhead_ok hd (by omega) (by omega) (by omega) bf, bnd_s, keep_ok (by rw [filM_o (by omega)]; exact h3) hn, bnd_s, e]
              rfl
        · refine ⟨-4, c, m, ?_, ?_, hR⟩
          · unfold fX6_move
            rw [has_y h2 h1 (rgN hi (by omega)), bnd_s, if_neg ne10, up_y hx, bnd_s, if_neg ne10, up_y hz, bnd_s, if_neg ne10, full_n h2 h1 hn, bnd_s, if_neg ne10]
          · unfold fX7_move
            rw [noSt_y h3 h1 (rgN hi (by omega)), bnd_s, if_pos rfl, in_y (a := 0) (b := 1) hx, bnd_s, if_neg ne10, in_y (a := 0) (b := 40) hz, bnd_s, if_neg ne10, if_pos (f24_n h3 h1 hn)]
      · refine ⟨-2, c, m, ?_, ?_, hR⟩
        · unfold fX6_move B_X6_move_30
          rw [has_y h2 h1 (rgN hi (by omega)), bnd_s, if_neg ne10, up_y hx, bnd_s, if_neg ne10, up_n hz, bnd_s, if_pos rfl]
        · unfold fX7_move B_X7_move_32
          rw [noSt_y h3 h1 (rgN hi (by omega)), bnd_s, if_pos rfl, in_y (a := 0) (b := 1) hx, bnd_s, if_neg ne10, in_n (a := 0) (b := 40) hz, bnd_s, if_pos rfl]
    · refine ⟨-2, c, m, ?_, ?_, hR⟩
      · unfold fX6_move B_X6_move_30
        rw [has_y h2 h1 (rgN hi (by omega)), bnd_s, if_neg ne10, up_n hx, bnd_s, if_pos rfl]
      · unfold fX7_move B_X7_move_32
        rw [noSt_y h3 h1 (rgN hi (by omega)), bnd_s, if_pos rfl, in_n (a := 0) (b := 1) hx, bnd_s, if_pos rfl]
  · refine ⟨-1, c, m, ?_, ?_, hR⟩
    · unfold fX6_move
      rw [has_n h2 h1 hy, bnd_s, if_pos rfl]
    · unfold fX7_move
      rw [noSt_n h3 h1 hy, bnd_s, if_neg ne10]
theorem i20 : (20 : Int32) = nI 20 := rfl
theorem delay_st (h : Rel c m) : Sim (fX6_delay x y) (fX7_delay x y) c m := by
  have hR := h
  obtain ⟨⟨n, h0⟩, -⟩ := h
  obtain ⟨h1, h2, h3, h4⟩ := h0.1
  rcases arg_cases x (n := n) (by omega) with ⟨i, hi, rfl⟩ | hx
  · rcases arg_cases y (n := n) (by omega) with ⟨j, hj, rfl⟩ | hy
    · obtain ⟨r1, r2, -⟩ := h4 i hi
      obtain ⟨s1, s2, -⟩ := h4 j hj
      refine ⟨sWait (c (100 + i)) (c (100 + j)) 20, c, m, ?_, ?_, hR⟩
      · unfold fX6_delay
        rw [has_y h2 h1 (rgN hi (by omega)), bnd_s, if_neg ne10, has_y h2 h1 (rgN hj (by omega)), bnd_s, if_neg ne10, row_ok (by omega), bnd_s, row_ok (by omega), bnd_s, i20, longestWait_ok (alC (by omega)) (alC (by omega)) (by omega) (fun t ht => r1.2.2 t (by omega)), bnd_s]
      · unfold fX7_delay B_X7_delay_28
        rw [noSt_y h3 h1 (rgN hi (by omega)), bnd_s, if_pos rfl, noSt_y h3 h1 (rgN hj (by omega)), bnd_s, if_pos rfl, i20, waitOf_ok (by omega) (by omega) (by omega), bnd_s, sWait_cong (fun t ht => r2 t (by omega)) s2]
    · refine ⟨-1, c, m, ?_, ?_, hR⟩
      · unfold fX6_delay B_X6_delay_22
        rw [has_y h2 h1 (rgN hi (by omega)), bnd_s, if_neg ne10, has_n h2 h1 hy, bnd_s, if_pos rfl]
      · unfold fX7_delay B_X7_delay_16 B_X7_delay_28
        rw [noSt_y h3 h1 (rgN hi (by omega)), bnd_s, if_pos rfl, noSt_n h3 h1 hy, bnd_s, if_neg ne10]
  · refine ⟨-1, c, m, ?_, ?_, hR⟩
    · unfold fX6_delay B_X6_delay_22
      rw [has_n h2 h1 hx, bnd_s, if_pos rfl]
    · unfold fX7_delay B_X7_delay_16 B_X7_delay_28
      rw [noSt_n h3 h1 hx, bnd_s, if_neg ne10]
theorem heap_st (h : Rel c m) : Sim (fX6_heap x y) (fX7_heap x y) c m := by
  have hR := h
  obtain ⟨⟨n, h0⟩, -⟩ := h
  obtain ⟨h1, h2, h3, h4⟩ := h0.1
  rcases arg_cases x (n := n) (by omega) with ⟨i, hi, rfl⟩ | hx
  · rcases arg_cases y (n := n) (by omega) with ⟨j, hj, rfl⟩ | hy
    · obtain ⟨r1, r2, -⟩ := h4 i hi
      obtain ⟨s1, s2, -⟩ := h4 j hj
      refine ⟨sHeap (c (100 + i)) (c (100 + j)), c, m, ?_, ?_, hR⟩
      · unfold fX6_heap
        rw [has_y h2 h1 (rgN hi (by omega)), bnd_s, if_neg ne10, has_y h2 h1 (rgN hj (by omega)), bnd_s, if_neg ne10, row_ok (by omega), bnd_s, row_ok (by omega), bnd_s, heap_ok (alC (by omega)) (alC (by omega)), bnd_s]
      · unfold fX7_heap B_X7_heap_26
        rw [noSt_y h3 h1 (rgN hi (by omega)), bnd_s, if_pos rfl, noSt_y h3 h1 (rgN hj (by omega)), bnd_s, if_pos rfl, heapOf_ok (by omega) (by omega), bnd_s, sHeap_cong r2 s2]
    · refine ⟨-1, c, m, ?_, ?_, hR⟩
      · unfold fX6_heap B_X6_heap_22
        rw [has_y h2 h1 (rgN hi (by omega)), bnd_s, if_neg ne10, has_n h2 h1 hy, bnd_s, if_pos rfl]
      · unfold fX7_heap B_X7_heap_16 B_X7_heap_26
        rw [noSt_y h3 h1 (rgN hi (by omega)), bnd_s, if_pos rfl, noSt_n h3 h1 hy, bnd_s, if_neg ne10]
  · refine ⟨-1, c, m, ?_, ?_, hR⟩
    · unfold fX6_heap B_X6_heap_22
      rw [has_n h2 h1 hx, bnd_s, if_pos rfl]
    · unfold fX7_heap B_X7_heap_16 B_X7_heap_26
      rw [noSt_n h3 h1 hx, bnd_s, if_neg ne10]
theorem within_st (h : Rel c m) : Sim (fX6_within x y) (fX7_within x y) c m := by
  have hR := h
  obtain ⟨⟨n, h0⟩, -⟩ := h
  obtain ⟨h1, h2, h3, h4⟩ := h0.1
  rcases arg_cases x (n := n) (by omega) with ⟨i, hi, rfl⟩ | hx
  · rcases arg_cases y (n := n) (by omega) with ⟨j, hj, rfl⟩ | hy
    · obtain ⟨r1, r2, -⟩ := h4 i hi
      obtain ⟨s1, s2, -⟩ := h4 j hj
      refine ⟨if sHeap (c (100 + i)) (c (100 + j)) = 0 then 1 else 0, c, m, ?_, ?_, hR⟩
      · unfold fX6_within B_X6_within_51
        rw [has_y h2 h1 (rgN hi (by omega)), bnd_s, if_neg ne10, has_y h2 h1 (rgN hj (by omega)), bnd_s, if_neg ne10, row_ok (by omega), bnd_s, row_ok (by omega), bnd_s, heap_ok (alC (by omega)) (alC (by omega)), bnd_s]
        split <;> rfl
      · unfold fX7_within B_X7_within_32
        rw [noSt_y h3 h1 (rgN hi (by omega)), bnd_s, if_pos rfl, noSt_y h3 h1 (rgN hj (by omega)), bnd_s, if_pos rfl, heapOf_ok (by omega) (by omega), bnd_s, sHeap_cong r2 s2]
        split <;> rfl
    · refine ⟨-1, c, m, ?_, ?_, hR⟩
      · unfold fX6_within B_X6_within_22
        rw [has_y h2 h1 (rgN hi (by omega)), bnd_s, if_neg ne10, has_n h2 h1 hy, bnd_s, if_pos rfl]
      · unfold fX7_within B_X7_within_16
        rw [noSt_y h3 h1 (rgN hi (by omega)), bnd_s, if_pos rfl, noSt_n h3 h1 hy, bnd_s, if_neg ne10]
  · refine ⟨-1, c, m, ?_, ?_, hR⟩
    · unfold fX6_within B_X6_within_22
      rw [has_n h2 h1 hx, bnd_s, if_pos rfl]
    · unfold fX7_within B_X7_within_16
      rw [noSt_n h3 h1 hx, bnd_s, if_neg ne10]
end A1
